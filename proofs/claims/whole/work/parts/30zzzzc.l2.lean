section
variable {B : Nat} {D : Dd} {N : Nat}
def al0 : Nat → Nat → Bool := fun _ _ => false
def tl0 : Nat → Nat := fun _ => 0
theorem made0 : madeOf [] [] [] = [] := rfl
theorem sug0 : sugO [] (sugM [] [] []) = [] := rfl
theorem OwR0 : OwR [] [] := ⟨List.nodup_nil, fun p hp => absurd hp List.not_mem_nil, List.Pairwise.nil, fun c v => ⟨fun h => absurd h List.not_mem_nil, fun ⟨p, h, _⟩ => absurd h List.not_mem_nil⟩, rfl⟩
theorem Bk0 {i m : Nat} (h2 : (alC.getD i dC).2.1 2 = I m) (h3 : (alC.getD i dC).2.1 3 = 0) (hm : m < 100000) : BkIs (zI (gH B D N alC)) (B + i) (B + (i + 2)) (B + (i + 4)) m [] :=
  ⟨al_in i 2 _ h2, al_in i 3 _ h3, Nat.zero_le _, List.Pairwise.nil, fun j hj => absurd hj (Nat.not_lt_zero _), fun j hj => absurd hj (Nat.not_lt_zero _)⟩
theorem FoC0 : FoC (zI (gH B D N alC)) (B + 48) (arL (B + 48)) [] := by
  have e4 : arL (B + 48) 4 = B + 58 := by unfold arL; omega
  have e5 : arL (B + 48) 5 = B + 60 := by unfold arL; omega
  have z4 : ∀ j, zI (gH B D N alC) (arL (B + 48) 4) j = 0 := fun j => by rw [e4]; exact al_0 58 rfl j
  have z5 : ∀ j, zI (gH B D N alC) (arL (B + 48) 5) j = 0 := fun j => by rw [e5]; exact al_0 60 rfl j
  refine ⟨⟨al_0 48 rfl 6, Nat.zero_le _, fun i c h => by cases h⟩, fun c h => absurd h List.not_mem_nil, ⟨al_0 48 rfl 7, fun i w h => by cases h⟩, ⟨Or.inr ⟨rfl, al_0 48 rfl 8⟩, z4 0, z5 0, fun i e h => ?_⟩⟩
  have : esOf [] = [(0, 0)] := rfl
  rw [this] at h
  cases i with
  | zero => cases h; exact ⟨z4 1, z5 1⟩
  | succ i => cases h
theorem CC0 : CC (zI (gH B D N alC)) B [] [] [] al0 [] [] [] tl0 [] [] [] [] [] [] := by
  refine ⟨al_in 0 10 _ (by decide +kernel), ⟨Bk0 (i := 4) (by decide +kernel) (by decide +kernel) (by decide), Bk0 (i := 9) (by decide +kernel) (by decide +kernel) (by decide), Bk0 (i := 14) (by decide +kernel) (by decide +kernel) (by decide), Bk0 (i := 19) (by decide +kernel) (by decide +kernel) (by decide), Bk0 (i := 43) (by decide +kernel) (by decide +kernel) (by decide)⟩,
    ⟨OwR0, OwR0, List.Pairwise.nil, fun c v => ⟨fun h => absurd h List.not_mem_nil, fun ⟨p, h, _⟩ => absurd h List.not_mem_nil⟩⟩, ⟨rfl, fun w h => absurd h List.not_mem_nil⟩, fun i j _ _ => al_0 26 rfl _, fun i _ => ⟨al_0 39 rfl _, Nat.zero_le _⟩, FoC0, ⟨al_0 71 rfl _, al_0 73 rfl _⟩, Or.inl (al_in 0 11 _ (by decide +kernel)), Or.inl (al_in 0 12 _ (by decide +kernel))⟩
theorem Ls0 {i : Nat} (hk : (alC.getD i dC).1 = (6, 0)) (hr : (alC.getD i dC).2.2 1 = some none) (hd : D.1 < B) : LsAt (gH B D N alC) (B + i) D.1 0 [] := by
  refine ⟨al_kd i _ hk, by rw [gz_R, hr]; rfl, Nat.zero_le _, by decide, Or.inr ⟨?_, rfl, rfl⟩, fun j hj => absurd hj (Nat.not_lt_zero _)⟩
  show (if D.1 < B then (if D.1 = D.1 then (5, 0) else (0, 0)) else _) = _
  rw [if_pos hd, if_pos rfl]
theorem CD0 (hd : D.1 < B) : CD (gH B D N alC) (zI (gH B D N alC)) B [] [] [] [] := by
  have hT : zT (gH B D N alC) = B + 142 := by show B + alC.length = _; rw [al_len]
  have k5 : zK (gH B D N alC) D.1 = (5, 0) := by
    show (if D.1 < B then (if D.1 = D.1 then (5, 0) else (0, 0)) else _) = _
    rw [if_pos hd, if_pos rfl]
  refine ⟨B + 92, B + 93, B + 94, D.1, 0, [], D.1, 0, [], D.1, 0, [], ⟨al_rf 0 9 92 (by decide +kernel), ⟨al_kd 92 _ (by decide +kernel), fun j hj => ?_, fun i j hi hj _ => by rw [sSz_lt hi, sSz_lt hj]⟩, al_in 92 1 0 (by decide +kernel), fun (j : Nat) (it : It) h => (by cases h), fun q => by have := AA_mem.mp q; omega, fun q => by have := AA_mem.mp q; omega, by omega, by omega, by omega⟩,
    ⟨Ls0 (by decide +kernel) (by decide +kernel) hd, al_in 2 2 _ (by decide +kernel), rfl, fun i hi => absurd hi (Nat.not_lt_zero _)⟩, ⟨Ls0 (by decide +kernel) (by decide +kernel) hd, al_in 3 2 _ (by decide +kernel), rfl, List.nodup_nil, fun i hi => absurd hi (Nat.not_lt_zero _)⟩, ⟨Ls0 (by decide +kernel) (by decide +kernel) hd, al_in 42 2 _ (by decide +kernel), rfl, fun i hi => absurd hi (Nat.not_lt_zero _)⟩,
    ⟨by omega, by omega, by omega, Or.inr k5, Or.inr k5, Or.inr k5, Or.inl k5, Or.inl k5, Or.inl k5⟩⟩
  have := sSz_lt hj
  subst this
  exact ⟨al_rf 92 0 93 (by decide +kernel), g_Row (i := 93) (by decide +kernel), by show B + 94 ≠ B + 92; omega⟩
theorem MC0 : MC (zI (gH B D N alC)) (zL (gH B D N alC)) B [] [] [] al0 [] [] [] tl0 [] [] [] := by
  have m0 : ∀ j, zI (gH B D N alC) (B + 95) j = 0 := fun j => al_0 95 rfl j
  exact ⟨rfl, ⟨m0 1, Nat.zero_le _, fun i hi => absurd hi (Nat.not_lt_zero _)⟩, ⟨m0 7, Nat.zero_le _, fun i hi => absurd hi (Nat.not_lt_zero _)⟩, fun i j _ _ => md_0 16 (by decide) _, ⟨m0 17, Nat.zero_le _, fun i p h => by cases h⟩, ⟨m0 20, Nat.zero_le _, fun i p h => by cases h⟩, ⟨m0 22, fun i p h => by cases h⟩, fun i _ => ⟨md_0 25 (by decide) _, Nat.zero_le _⟩, ⟨m0 26, Nat.zero_le _, fun k s h => by cases h⟩,
    ⟨⟨md_0 29 (by decide) _, fun j it h => by cases h⟩, fun i _ => md_0 15 (by decide) _⟩, ⟨m0 32, Nat.zero_le _, fun i c h => by cases h⟩, Or.inr (m0 34)⟩
/-- the start -/
theorem ST0 (hd : D.1 < B) : ST (gH B D (n11 + n12 + 1) alC) B 0 ([], [], [], al0, [], [], [], tl0, [], [], []) := by
  have hT : zT (gH B D (n11 + n12 + 1) alC) = B + 142 := by show B + alC.length = _; rw [al_len]
  refine ⟨⟨[], [], [], [], CSh0, by omega, hd, CC0, CD0 hd⟩, ⟨MSh0, MC0⟩, ?_, by omega, ?_⟩
  · refine ⟨⟨isW_nil, Nat.zero_le _⟩, ⟨Nat.zero_le _, fun s h => absurd h List.not_mem_nil⟩, ⟨Nat.zero_le _, fun s h => absurd h List.not_mem_nil⟩, ⟨Nat.zero_le _, Nat.zero_le _, fun w h => absurd rfl h, fun s h => absurd h List.not_mem_nil⟩, ⟨Nat.zero_le _, fun s h => absurd h List.not_mem_nil⟩, ⟨Nat.zero_le _, fun s h => absurd h List.not_mem_nil⟩, fun s h => absurd h List.not_mem_nil, ⟨List.nodup_nil, Nat.zero_le _, fun s h => absurd h List.not_mem_nil⟩, Nat.zero_le _⟩
  · show n11 + n12 + 1 ≤ 102646 + 64 * 0
    rw [n_le]; omega
end
