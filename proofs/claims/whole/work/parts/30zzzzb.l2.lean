section
variable {B : Nat} {D : Dd} {N : Nat} {cs : List Cl}
theorem gz_K (i : Nat) : zK (gH B D N cs) (B + i) = (cs.getD i dC).1 := by
  show (if B + i < B then _ else (cs.getD (B + i - B) dC).1) = _
  rw [if_neg (by omega), Nat.add_sub_cancel_left]
theorem gz_I (i : Nat) : zI (gH B D N cs) (B + i) = (cs.getD i dC).2.1 := by
  funext k
  show (if B + i < B then _ else (cs.getD (B + i - B) dC).2.1 k) = _
  rw [if_neg (by omega), Nat.add_sub_cancel_left]
theorem gz_R (i j : Nat) : zR (gH B D N cs) (B + i) j = aR B D ((cs.getD i dC).2.2 j) := by
  show (if B + i < B then _ else aR B D ((cs.getD (B + i - B) dC).2.2 j)) = _
  rw [if_neg (by omega), Nat.add_sub_cancel_left]
theorem g_Row {i n : Nat} (h : (cs.getD i dC).1 = (11, 0) ∧ (cs.getD i dC).2.2 0 = some (some (i + 1)) ∧ (cs.getD (i + 1) dC).1 = (1, n) ∧ n < 100000) : RowAt (gH B D N cs) (B + i) (B + (i + 1)) n :=
  ⟨(gz_K i).trans h.1, by rw [gz_R, h.2.1]; rfl, (gz_K (i + 1)).trans h.2.2.1, h.2.2.2⟩
theorem g_Ob {c i n : Nat} {sz : Nat → Nat} (hk : (cs.getD i dC).1 = (c + 6, 0)) (hsz : ∀ j, sz j ≠ 0 → j < n) (h : ∀ j, j < n → (cs.getD i dC).2.2 j = some (some (i + (1 + 2 * j))) ∧ (cs.getD (i + (1 + 2 * j)) dC).1 = (11, 0) ∧ (cs.getD (i + (1 + 2 * j)) dC).2.2 0 = some (some (i + (1 + 2 * j) + 1)) ∧ (cs.getD (i + (1 + 2 * j) + 1) dC).1 = (1, sz j) ∧ sz j < 100000) : Ob (gH B D N cs) c (B + i) (rwL (B + i)) (arL (B + i)) sz := by
  refine ⟨(gz_K i).trans hk, fun j hj => ?_, fun a b ha hb hab => ?_⟩
  · obtain ⟨h1, h2, h3, h4, h5⟩ := h j (hsz j hj)
    have e1 : rwL (B + i) j = B + (i + (1 + 2 * j)) := by unfold rwL; omega
    have e2 : arL (B + i) j = B + (i + (1 + 2 * j) + 1) := by unfold arL; omega
    refine ⟨by rw [gz_R, h1, e1]; rfl, ?_, by rw [e2]; omega⟩
    rw [e1, e2]
    exact g_Row ⟨h2, h3, h4, h5⟩
  · unfold arL at hab; omega
theorem g_Bk {i m : Nat} (h : (cs.getD i dC).1 = (17, 0) ∧ (cs.getD i dC).2.2 0 = some (some (i + 1)) ∧ (cs.getD i dC).2.2 1 = some (some (i + 3)) ∧ ((cs.getD (i + 1) dC).1 = (11, 0) ∧ (cs.getD (i + 1) dC).2.2 0 = some (some (i + 1 + 1)) ∧ (cs.getD (i + 1 + 1) dC).1 = (1, m) ∧ m < 100000) ∧ ((cs.getD (i + 3) dC).1 = (11, 0) ∧ (cs.getD (i + 3) dC).2.2 0 = some (some (i + 3 + 1)) ∧ (cs.getD (i + 3 + 1) dC).1 = (1, m) ∧ m < 100000) ∧ m < 30000) : BkAt (gH B D N cs) (B + i) (B + (i + 1)) (B + (i + 2)) (B + (i + 3)) (B + (i + 4)) m := by
  obtain ⟨h1, h2, h3, h4, h5, h6⟩ := h
  exact ⟨(gz_K i).trans h1, by rw [gz_R, h2]; rfl, by rw [gz_R, h3]; rfl, g_Row h4, g_Row h5, by omega, by omega, by omega, h6⟩
theorem al_kd (i : Nat) (kd : Nat × Nat) (h : (alC.getD i dC).1 = kd) : zK (gH B D N alC) (B + i) = kd := (gz_K i).trans h
theorem al_rf (i j k : Nat) (h : (alC.getD i dC).2.2 j = some (some k)) : zR (gH B D N alC) (B + i) j = some (B + k) := by rw [gz_R, h]; rfl
theorem al_in (i j : Nat) (v : Int32) (h : (alC.getD i dC).2.1 j = v) : zI (gH B D N alC) (B + i) j = v := by rw [gz_I]; exact h
theorem CSh0 : CSh (gH B D N alC) B := by
  refine ⟨⟨al_kd 0 _ (by decide +kernel), fun j hj => ?_, al_kd 2 _ (by decide +kernel), al_kd 3 _ (by decide +kernel), al_kd 42 _ (by decide +kernel)⟩, ?_, ⟨g_Bk (i := 4) (by decide +kernel), g_Bk (i := 9) (by decide +kernel), g_Bk (i := 14) (by decide +kernel), g_Bk (i := 19) (by decide +kernel), g_Bk (i := 43) (by decide +kernel)⟩,
    g_Ob (n := 6) (by decide +kernel) (fun j => uSz_lt) (by decide +kernel), g_Ob (n := 2) (by decide +kernel) (fun j => gSz_lt) (by decide +kernel), g_Ob (n := 6) (by decide +kernel) (fun j => tSz_lt) (by decide +kernel), g_Ob (n := 6) (by decide +kernel) (fun j => tSz_lt) (by decide +kernel), g_Ob (n := 2) (by decide +kernel) (fun j => hSz_lt) (by decide +kernel), g_Ob (n := 6) (by decide +kernel) (fun j => pSz_lt) (by decide +kernel)⟩
  · have h : ∀ j, j < 9 → (alC.getD 0 dC).2.2 j = some (some (cRf j)) := by decide +kernel
    exact al_rf 0 j _ (h j hj)
  · exact ⟨al_kd 1 _ (by decide +kernel), al_rf 1 0 2 (by decide +kernel), al_rf 1 1 3 (by decide +kernel), al_rf 1 2 4 (by decide +kernel), al_rf 1 3 9 (by decide +kernel), al_rf 1 4 14 (by decide +kernel), al_rf 1 5 19 (by decide +kernel)⟩
theorem MSh0 : MSh (gH B D N alC) B := by
  have h : ∀ j, j < 60 → (mSz j).1 ≠ 0 → (alC.getD 95 dC).2.2 j = some (some (96 + mIx j)) ∧ (alC.getD (96 + mIx j) dC).1 = mSz j := by decide +kernel
  have e : ∀ j, arM B j = B + (96 + mIx j) := fun j => by unfold arM; omega
  refine ⟨⟨al_kd 95 _ (by decide +kernel), fun j hj => ?_, fun i j hi hj q => ?_⟩, al_kd 141 _ (by decide +kernel)⟩
  · obtain ⟨h1, h2⟩ := h j (mSz_lt hj) hj
    refine ⟨by rw [e]; exact al_rf 95 j _ h1, by rw [e]; exact al_kd _ _ h2, by rw [e]; omega⟩
  · have a := (mSz_fl i (mSz_lt hi) hi).2
    have c := (mSz_fl j (mSz_lt hj) hj).2
    have : mIx i = mIx j := by unfold arM at q; omega
    rw [this, c] at a
    exact a.symm
/-- all whole numbers are 0 at first, but a few -/
theorem al_0 (i : Nat) (h : (alC.getD i dC).2.1 = fun _ => 0) (j : Nat) : zI (gH B D N alC) (B + i) j = 0 := by rw [gz_I, h]
theorem md_0 (j : Nat) (hj : (mSz j).1 ≠ 0) (k : Nat) : zI (gH B D N alC) (arM B j) k = 0 := by
  have h : ∀ m : Nat, m < 45 → (alC.getD (96 + m) dC).2.1 = fun _ => 0 := fun m hm =>
    match m, hm with
    | 0, _ => rfl | 1, _ => rfl | 2, _ => rfl | 3, _ => rfl | 4, _ => rfl | 5, _ => rfl | 6, _ => rfl | 7, _ => rfl | 8, _ => rfl | 9, _ => rfl
    | 10, _ => rfl | 11, _ => rfl | 12, _ => rfl | 13, _ => rfl | 14, _ => rfl | 15, _ => rfl | 16, _ => rfl | 17, _ => rfl | 18, _ => rfl | 19, _ => rfl
    | 20, _ => rfl | 21, _ => rfl | 22, _ => rfl | 23, _ => rfl | 24, _ => rfl | 25, _ => rfl | 26, _ => rfl | 27, _ => rfl | 28, _ => rfl | 29, _ => rfl
    | 30, _ => rfl | 31, _ => rfl | 32, _ => rfl | 33, _ => rfl | 34, _ => rfl | 35, _ => rfl | 36, _ => rfl | 37, _ => rfl | 38, _ => rfl | 39, _ => rfl
    | 40, _ => rfl | 41, _ => rfl | 42, _ => rfl | 43, _ => rfl | 44, _ => rfl
    | n + 45, h => absurd h (by omega)
  have e : arM B j = B + (96 + mIx j) := by unfold arM; omega
  rw [e]
  exact al_0 _ (h _ (mSz_fl j (mSz_lt hj) hj).1) k
end
