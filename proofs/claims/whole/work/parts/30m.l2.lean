/-! ===== readings of a word: the class ===== -/
def bd (w : Wd) (k : Nat) : Bool := w.getD (k - 1) 0 != w.getD k 0
/-- the rest of the inner places, c of them, from j on -/
def jinF (J : Nat → Nat → Nat) (b : Nat → Bool) (len k : Nat) : Nat → Nat → Nat → Nat
  | 0, _, acc => acc
  | c + 1, j, acc => jinF J b len k c (j + 1) (if b j = true ∧ J k j ≠ 0 then acc ||| J j len else acc)
def jouF (J : Nat → Nat → Nat) (b : Nat → Bool) (len : Nat) : Nat → Nat → Nat → Nat
  | 0, _, acc => acc
  | c + 1, k, acc => jouF J b len c (k + 1) (if b k = true ∧ J 0 k ≠ 0 then jinF J b len k (len - 1 - (k + 2)) (k + 2) (acc ||| J k len) else acc)
/-- readings of a word as a join, of what parts read in joins -/
def joinsF (J : Nat → Nat → Nat) (b : Nat → Bool) (len : Nat) : Nat := jouF J b len (len - 1 - 2) 2 0
def cut (w : Wd) (i j : Nat) : Wd := (w.take j).drop i
theorem cut_ok {w : Wd} (hw : isW w) (hl : w.length ≤ 10) (i j : Nat) : isW (cut w i j) ∧ (cut w i j).length ≤ 10 := by
  refine ⟨isW_drop (isW_take hw _) _, ?_⟩
  unfold cut
  rw [List.length_drop, List.length_take]; omega
/-- what a word reads, of what is made, owned, barred -/
def jOf (lm : Bk) (w : Wd) (i j : Nat) : Nat := bget lm (cN (cut w i j)) / 256 % 256
def readF (lm lo lb : Bk) (w : Wd) : Nat := if bget lb (cN w) = 0 then bget lo (cN w) ||| (bget lm (cN w) % 256) ||| joinsF (jOf lm w) (bd w) w.length else 0
section
variable {h : ZH} {x ls lr km ko kb ks m1 p1 m2 p2 o1 q1 o2 q2 b1 c1 b2 c2 : Nat} {g : FI} {lm lo lb : Bk} {w : Wd}
theorem getD_lt8 (hw : isW w) (i : Nat) : w.getD i 0 < 8 := by
  rw [List.getD_eq_getElem?_getD]
  cases e : w[i]? with
  | none => decide
  | some x => exact hw _ (List.mem_of_getElem? e)
theorem border_eq (h : ZH) (x : Option Nat) (hw : isW w) (hl : w.length ≤ 10) {k : Nat} (h1 : 1 ≤ k) (hk : k < w.length) : p_X2_canBeBorder x (I (cN w)) (I k) h = some (if bd w k = true then 1 else 0, h) := by
  have e1 : I (k : Int) - 1 = I ((k - 1 : Nat) : Int) := I_sn k 1 h1
  have a1 := getD_lt8 hw (k - 1)
  have a2 := getD_lt8 hw k
  have e2 : (I ((w.getD (k - 1) 0 : Nat) : Int) = I ((w.getD k 0 : Nat) : Int)) ↔ w.getD (k - 1) 0 = w.getD k 0 := by rw [I_inj (by omega) (by omega)]; omega
  simp only [p_X2_canBeBorder, ite_ap, z_b, z_n, z_rt, z_vr, z_gI, z_gR, z_pI, z_pR, hI_K, hI_R, hI_I, hI_hI, hI_T, hI_N, hI_L, hI_D, sI_hI, wI_hI, if_true, e1, letterOf_eq h hw hl (show k - 1 < w.length by omega), letterOf_eq h hw hl hk, e2, z_rz, or_true, true_or]
  unfold bd
  by_cases hc : w.getD (k - 1) 0 = w.getD k 0
  · rw [if_pos hc, if_neg (fun q => bne_iff_ne.mp q hc)]
  · rw [if_neg hc, if_pos (bne_iff_ne.mpr hc)]
theorem inJoin_eq (lx : LxAt h x ls lr km ko kb ks) (sm : BkAt h km m1 p1 m2 p2 1548) (hm : BkIs g km p1 p2 1548 lm) (hw : isW w) (hl : w.length ≤ 10) {i j : Nat} (hij : i ≤ j) (hj : j ≤ w.length) : p_X2_readingsInJoin (some x) (I (cN w)) (I i) (I j) (hI h g) = some (I (jOf lm w i j), hI h g) := by
  obtain ⟨k1, k2⟩ := cut_ok hw hl i j
  have v := bk_valueOf sm hm (cN_range k1 k2).2
  have hb := bget_lt hm (cN (cut w i j))
  have p := partOf_eq (hI h g) hw hl hij hj
  have e8 : I (bget lm (cN (cut w i j)) : Int) >>> (8 &&& 31) = I ((bget lm (cN (cut w i j)) / 256 : Nat) : Int) := I_shr (k := 8) hb (by decide)
  have e9 : I ((bget lm (cN (cut w i j)) / 256 : Nat) : Int) &&& 255 = I ((bget lm (cN (cut w i j)) / 256 % 256 : Nat) : Int) := by
    rw [show (255 : Int32) = I ((255 : Nat) : Int) from rfl, I_and, show (255 : Nat) = 2 ^ 8 - 1 from rfl, Nat.and_two_pow_sub_one_eq_mod]
  have p' : p_X11_partOf (I (cN w)) (I i) (I j) (hI h g) = some (I (cN (cut w i j)), hI h g) := p
  simp only [p_X2_readingsInJoin, ite_ap, z_b, z_n, z_rt, z_vr, z_gI, z_gR, z_pI, z_pR, hI_K, hI_R, hI_I, hI_hI, hI_T, hI_N, hI_L, hI_D, sI_hI, wI_hI, if_true, lx.1, lx.2.2.2.1, p', sm.1, v, e8, e9]
  rfl
theorem jOf_lt (lm : Bk) (w : Wd) (i j : Nat) : jOf lm w i j < 256 := Nat.mod_lt _ (by decide)
theorem Jzero {lm : Bk} {w : Wd} {i j : Nat} : (I (jOf lm w i j : Int) = 0) ↔ jOf lm w i j = 0 := by
  have := jOf_lt lm w i j
  rw [I_0, I_inj (by omega) (by omega)]; omega
theorem join56 (lx : LxAt h x ls lr km ko kb ks) (sm : BkAt h km m1 p1 m2 p2 1548) (hm : BkIs g km p1 p2 1548 lm) (hw : isW w) (hl : w.length ≤ 10) (r10 : Option Nat → Int32 → Int32 → Int32 → Int32 → ZM Int32) {k : Nat} (hk : 1 ≤ k) :
    ∀ (c j acc n : Nat), c = w.length - 1 - j → k ≤ j → c < n → j ≤ 12 →
      p_X2_readingsAsJoin_l56 r10 n (some x) (I (cN w)) (I w.length) (I acc) (I k) (I j) (hI h g) = r10 (some x) (I (cN w)) (I w.length) (I (jinF (jOf lm w) (bd w) w.length k c j acc)) (I ((k + 1 : Nat) : Int)) (hI h g) := by
  intro c
  induction c with
  | zero =>
    intro j acc n hc hj hn hl2
    obtain ⟨n, rfl⟩ := Nat.exists_eq_add_of_lt hn
    show p_X2_readingsAsJoin_c56 _ _ _ _ _ _ _ _ _ = _
    have e1 : (I (w.length : Int) - 2) < I (j : Int) := by
      rw [lit, I_sub, I_lt (by omega) (by omega)]; omega
    have e2 : I (k : Int) + 1 = I ((k + 1 : Nat) : Int) := I_add _ 1
    simp only [p_X2_readingsAsJoin_c56, p_X2_readingsAsJoin_b103, ite_ap, z_b, z_n, z_rt, z_vr, z_gI, z_gR, z_pI, z_pR, hI_K, hI_R, hI_I, hI_hI, hI_T, hI_N, hI_L, hI_D, sI_hI, wI_hI, if_true, e1, e2]
    rfl
  | succ c ih =>
    intro j acc n hc hj hn hl2
    cases n with
    | zero => exact absurd hn (Nat.not_lt_zero _)
    | succ n =>
      show p_X2_readingsAsJoin_c56 _ (p_X2_readingsAsJoin_l56 r10 n) _ _ _ _ _ _ _ = _
      have e1 : ¬ ((I (w.length : Int) - 2) < I (j : Int)) := by
        rw [lit, I_sub, I_lt (by omega) (by omega)]; omega
      have e2 : I (j : Int) + 1 = I ((j + 1 : Nat) : Int) := I_add _ 1
      have b1 := border_eq (hI h g) (some x) hw hl (k := j) (by omega) (by omega)
      have i1 := inJoin_eq (g := g) lx sm hm hw hl (i := k) (j := j) hj (by omega)
      have i2 := inJoin_eq (g := g) lx sm hm hw hl (i := j) (j := w.length) (by omega) (Nat.le_refl _)
      show _ = r10 _ _ _ (I (jinF (jOf lm w) (bd w) w.length k c (j + 1) (if bd w j = true ∧ jOf lm w k j ≠ 0 then acc ||| jOf lm w j w.length else acc))) _ _
      simp only [p_X2_readingsAsJoin_c56, p_X2_readingsAsJoin_b97, ite_ap, z_b, z_n, z_rt, z_vr, z_gI, z_gR, z_pI, z_pR, hI_K, hI_R, hI_I, hI_hI, hI_T, hI_N, hI_L, hI_D, sI_hI, wI_hI, if_true, e1, if_false, lx.1, b1, i1, i2, e2, I_or]
      by_cases hb : bd w j = true
      · rw [if_pos hb]
        simp only [lx.1, if_true, i1, i2, Jzero, I_or]
        rw [if_neg (by decide)]
        by_cases hz : jOf lm w k j = 0
        · rw [if_pos hz, if_neg (fun q => q.2 hz)]
          exact ih (j + 1) acc n (by omega) (by omega) (by omega) (by omega)
        · rw [if_neg hz, if_pos ⟨hb, hz⟩]
          exact ih (j + 1) _ n (by omega) (by omega) (by omega) (by omega)
      · rw [if_neg hb, if_pos rfl, if_neg (fun q => hb q.1)]
        exact ih (j + 1) acc n (by omega) (by omega) (by omega) (by omega)
theorem join10 (lx : LxAt h x ls lr km ko kb ks) (sm : BkAt h km m1 p1 m2 p2 1548) (hm : BkIs g km p1 p2 1548 lm) (hw : isW w) (hl : w.length ≤ 10) :
    ∀ (c k acc n : Nat), c = w.length - 1 - k → 2 ≤ k → c < n → k ≤ 12 →
      p_X2_readingsAsJoin_l10 n (some x) (I (cN w)) (I w.length) (I acc) (I k) (hI h g) = some (I (jouF (jOf lm w) (bd w) w.length c k acc), hI h g) := by
  intro c
  induction c with
  | zero =>
    intro j acc n hc hj hn hl2
    obtain ⟨n, rfl⟩ := Nat.exists_eq_add_of_lt hn
    show p_X2_readingsAsJoin_c10 _ _ _ _ _ _ _ = _
    have e1 : (I (w.length : Int) - 2) < I (j : Int) := by
      rw [lit, I_sub, I_lt (by omega) (by omega)]; omega
    simp only [p_X2_readingsAsJoin_c10, ite_ap, z_b, z_n, z_rt, z_vr, z_gI, z_gR, z_pI, z_pR, hI_K, hI_R, hI_I, hI_hI, hI_T, hI_N, hI_L, hI_D, sI_hI, wI_hI, if_true, e1]
    rfl
  | succ c ih =>
    intro j acc n hc hj hn hl2
    cases n with
    | zero => exact absurd hn (Nat.not_lt_zero _)
    | succ n =>
      show p_X2_readingsAsJoin_c10 (p_X2_readingsAsJoin_l10 n) _ _ _ _ _ _ = _
      have e1 : ¬ ((I (w.length : Int) - 2) < I (j : Int)) := by
        rw [lit, I_sub, I_lt (by omega) (by omega)]; omega
      have e2 : I (j : Int) + 1 = I ((j + 1 : Nat) : Int) := I_add _ 1
      have e3 : I (j : Int) + 2 = I ((j + 2 : Nat) : Int) := I_add _ 2
      have b1 := border_eq (hI h g) (some x) hw hl (k := j) (by omega) (by omega)
      have i1 : p_X2_readingsInJoin (some x) (I (cN w)) 0 (I j) (hI h g) = _ := inJoin_eq (g := g) lx sm hm hw hl (i := 0) (j := j) (Nat.zero_le _) (by omega)
      have i2 := inJoin_eq (g := g) lx sm hm hw hl (i := j) (j := w.length) (by omega) (Nat.le_refl _)
      show _ = some (I (jouF (jOf lm w) (bd w) w.length c (j + 1) (if bd w j = true ∧ jOf lm w 0 j ≠ 0 then jinF (jOf lm w) (bd w) w.length j (w.length - 1 - (j + 2)) (j + 2) (acc ||| jOf lm w j w.length) else acc)), _)
      simp only [p_X2_readingsAsJoin_c10, p_X2_readingsAsJoin_b103, ite_ap, z_b, z_n, z_rt, z_vr, z_gI, z_gR, z_pI, z_pR, hI_K, hI_R, hI_I, hI_hI, hI_T, hI_N, hI_L, hI_D, sI_hI, wI_hI, if_true, e1, if_false, lx.1, b1, i1, i2, e2, e3, I_or]
      by_cases hb : bd w j = true
      · rw [if_pos hb]
        simp only [lx.1, if_true, i1, i2, Jzero, I_or]
        rw [if_neg (by decide)]
        by_cases hz : jOf lm w 0 j = 0
        · rw [if_pos hz, if_neg (fun q => q.2 hz)]
          exact ih (j + 1) acc n (by omega) (by omega) (by omega) (by omega)
        · rw [if_neg hz, if_pos ⟨hb, hz⟩, join56 lx sm hm hw hl (p_X2_readingsAsJoin_l10 n) (k := j) (by omega) _ (j + 2) _ zFuel rfl (by omega) (by unfold zFuel; omega) (by omega)]
          exact ih (j + 1) _ n (by omega) (by omega) (by omega) (by omega)
      · rw [if_neg hb, if_pos rfl, if_neg (fun q => hb q.1)]
        exact ih (j + 1) acc n (by omega) (by omega) (by omega) (by omega)
theorem readings_eq (lx : LxAt h x ls lr km ko kb ks) (sm : BkAt h km m1 p1 m2 p2 1548) (so : BkAt h ko o1 q1 o2 q2 10) (sb : BkAt h kb b1 c1 b2 c2 10) (hm : BkIs g km p1 p2 1548 lm) (ho : BkIs g ko q1 q2 10 lo) (hb : BkIs g kb c1 c2 10 lb) (hw : isW w) (hl : w.length ≤ 10) : p_X2_readingsOf (some x) (I (cN w)) (hI h g) = some (I (readF lm lo lb w), hI h g) := by
  have hr := cN_range hw hl
  have nz : ¬ (I (cN w : Int) = 0) := by rw [I_0, I_inj (by omega) (by omega)]; omega
  have jn : p_X2_readingsAsJoin_l10 zFuel (some x) (I (cN w)) (I w.length) 0 2 (hI h g) = _ := join10 (g := g) lx sm hm hw hl (w.length - 1 - 2) 2 0 zFuel rfl (by decide) (by unfold zFuel; omega) (by decide)
  have e9 : I (bget lm (cN w) : Int) &&& 255 = I ((bget lm (cN w) % 256 : Nat) : Int) := by
    rw [show (255 : Int32) = I ((255 : Nat) : Int) from rfl, I_and, show (255 : Nat) = 2 ^ 8 - 1 from rfl, Nat.and_two_pow_sub_one_eq_mod]
  unfold readF
  simp only [p_X2_readingsOf, ite_ap, z_b, z_n, z_rt, z_vr, z_gI, z_gR, z_pI, z_pR, hI_K, hI_R, hI_I, hI_hI, hI_T, hI_N, hI_L, hI_D, sI_hI, wI_hI, if_true, nz, if_false, lx.1, isBarred_eq lx sb hb hr.2]
  by_cases hz : bget lb (cN w) = 0
  · rw [if_pos hz, if_pos hz]
    simp only [ite_ap, z_b, z_n, z_rt, z_vr, z_gI, z_gR, z_pI, z_pR, hI_K, hI_R, hI_I, hI_hI, hI_T, hI_N, hI_L, hI_D, sI_hI, wI_hI, if_true, lx.1, lx.2.2.2.1, lx.2.2.2.2.1, so.1, sm.1, bk_valueOf so ho hr.2, bk_valueOf sm hm hr.2, p_X2_readingsAsJoin, sizeOf_eq (hI h g) hw hl, jn, e9, I_or]
    rfl
  · rw [if_neg hz, if_neg hz]
    rw [if_neg (by decide)]
    rfl
theorem readings_0 (x : Option Nat) (h : ZH) : p_X2_readingsOf x 0 h = some (0, h) := by
  simp only [p_X2_readingsOf, ite_ap, z_b, z_n, z_rt, z_vr, z_gI, z_gR, z_pI, z_pR, hI_K, hI_R, hI_I, hI_hI, hI_T, hI_N, hI_L, hI_D, sI_hI, wI_hI, if_true]
end
