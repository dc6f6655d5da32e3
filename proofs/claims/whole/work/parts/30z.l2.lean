/-! readings of a word: the reference -/
section
variable {h : ZH} {M : Nat} {ar : Nat → Nat} {f : FI} {g : FL} {l : Bk}
/-- the slot of a word -/
theorem tc_slot (m : MAt h M ar) (T : TC f g ar M l) (hl : l.length < 16384) {w : Wd} (hw : WdOk w) :
    ∃ s : Nat, s < 16384 ∧ p_X12_slotOf (some M) (J (mN w)) (hM h f g) = some (I (s : Int), hM h f g) ∧ f (ar 37) s = I ((bget l (cN w) % 256 : Nat) : Int) ∧ f (ar 38) s = I ((bget l (cN w) / 256 % 256 : Nat) : Int) := by
  obtain ⟨K, P, Q, O, t1, ⟨c1, c2, c3, c4, c5, c6, c7⟩, t3⟩ := T
  obtain ⟨z, hz, hz0⟩ := used_free 16384 (K := K) (by rw [c2]; exact hl)
  obtain ⟨s, hs⟩ := slot_ex hz hz0 (mN w)
  have hsl := slot_lt hs
  have hm2 : mN w < 281474976710656 := mN_range hw.1 (by have : w.length ≤ 10 := hw.2.2; omega)
  have hm1 : 1 ≤ mN w := mN_pos hw.2.1
  obtain ⟨p1, p2, p3⟩ := c6 s hsl
  have hb : bget l (cN w) = P s + 256 * Q s + 65536 * O s := by
    by_cases k0 : K s = 0
    · have hn : ¬ hk l (cN w) := fun q => by
        obtain ⟨t, t1, t2⟩ := c5 w hw q
        obtain ⟨t3, -⟩ := c3 t t1 (by omega)
        rw [t2] at t3
        have := slot_uniq t3 hs
        rw [this, k0] at t2
        omega
      obtain ⟨z1, z2, z3⟩ := c4 s hsl k0
      rw [bget_none hn, z1, z2, z3]
    · obtain ⟨t3, w', t4, t5, t6, t7⟩ := c3 s hsl k0
      have e : K s = mN w := by
        obtain ⟨d, -, rfl, d3, -⟩ := hs
        exact d3.resolve_left k0
      have : w' = w := (mN_inj t4.1 hw.1).mp (t5.symm.trans e)
      subst this
      exact t7
  obtain ⟨a1, a2, a3, a4⟩ := t1 s hsl
  refine ⟨s, hsl, slot_eq m (fun t ht => (t1 t ht).1) (by omega) hs, ?_, ?_⟩
  · rw [a2, hb, show (P s + 256 * Q s + 65536 * O s) % 256 = P s by omega]
  · rw [a3, hb, show (P s + 256 * Q s + 65536 * O s) / 256 % 256 = Q s by omega]
theorem inJoins_eq (m : MAt h M ar) (T : TC f g ar M l) (hl : l.length < 16384) {w : Wd} (hw : WdOk w) : p_X12_inJoins (some M) (J (mN w)) (hM h f g) = some (I ((bget l (cN w) / 256 % 256 : Nat) : Int), hM h f g) := by
  obtain ⟨s, s1, s2, s3, s4⟩ := tc_slot m T hl hw
  simp only [p_X12_inJoins, z_b, m_gR m 38 (by decide), m_vr m, s2, m_aI m 38 16384 (by decide) s1 (by decide), s4, z_rt]
theorem cut_len {w : Wd} {i j : Nat} (hj : j ≤ w.length) : (cut w i j).length = j - i := by
  unfold cut
  rw [List.length_drop, List.length_take]; omega
theorem cut_wd {w : Wd} (hw : isW w) (hl : w.length ≤ 10) {i j : Nat} (hij : i < j) (hj : j ≤ w.length) : WdOk (cut w i j) := by
  obtain ⟨a, b⟩ := cut_ok hw hl i j
  refine ⟨a, fun q => ?_, b⟩
  have := congrArg List.length q
  rw [cut_len hj] at this
  simp at this; omega
theorem cut_getD {w : Wd} {i j k : Nat} (hk : i + k < j) : (cut w i j).getD k 0 = w.getD (i + k) 0 := by
  unfold cut
  rw [List.getD_eq_getElem?_getD, List.getD_eq_getElem?_getD, List.getElem?_drop, List.getElem?_take, if_pos hk]
theorem jOf_in (m : MAt h M ar) (T : TC f g ar M l) (hl : l.length < 16384) {w : Wd} (hw : isW w) (hw10 : w.length ≤ 10) {i j : Nat} (hij : i < j) (hj : j ≤ w.length) : p_X12_inJoins (some M) (J (mN (cut w i j))) (hM h f g) = some (I (jOf l w i j), hM h f g) := inJoins_eq m T hl (cut_wd hw hw10 hij hj)
theorem cut_meets (h : ZH) {w : Wd} (hw : isW w) (hl : w.length ≤ 10) {i j k : Nat} (hij : i < j) (hjk : j < k) (hk : k ≤ w.length) : p_X12_meets (J (mN (cut w i j))) (J (mN (cut w j k))) h = some (if bd w j = true then 0 else 1, h) := by
  have a := cut_wd hw hl hij (by omega : j ≤ w.length)
  have b := cut_wd hw hl hjk hk
  rw [meets_eq h a.1 b.1 a.2.1 b.2.1 (by have := b.2.2; omega)]
  have e1 : (cut w i j).getD ((cut w i j).length - 1) 0 = w.getD (j - 1) 0 := by
    rw [cut_len (by omega), cut_getD (by omega)]; congr 1; omega
  have e2 : (cut w j k).getD 0 0 = w.getD j 0 := by rw [cut_getD (by omega)]; rfl
  rw [e1, e2]
  unfold bd
  by_cases q : w.getD (j - 1) 0 = w.getD j 0
  · rw [if_pos q, if_neg (fun z => bne_iff_ne.mp z q)]
  · rw [if_neg q, if_pos (bne_iff_ne.mpr q)]
theorem jz {l : Bk} {w : Wd} {i j : Nat} : (I (jOf l w i j : Int) = 0) ↔ jOf l w i j = 0 := Jzero
/-- the inner loop -/
theorem jn_l89 (m : MAt h M ar) (T : TC f g ar M l) (hl : l.length < 16384) {w : Wd} (hw : isW w) (hw10 : w.length ≤ 10) (r11 : Option Nat → Int64 → Int32 → Int32 → Int32 → ZM Int32) {k : Nat} (hk : 1 ≤ k) (hkl : k < w.length) :
    ∀ (c j acc n : Nat), c = w.length - 1 - j → k < j → c < n → j ≤ 12 →
      p_X12_joinsOf_l89 r11 n (some M) (J (mN w)) (I w.length) (I acc) (I k) (J (mN (cut w 0 k))) 1 (I j) (hM h f g) = r11 (some M) (J (mN w)) (I w.length) (I (if bd w k = true then jinF (jOf l w) (bd w) w.length k c j acc else acc)) (I ((k + 1 : Nat) : Int)) (hM h f g) := by
  intro c
  induction c with
  | zero =>
    intro j acc n hc hj hn hl2
    obtain ⟨n, rfl⟩ := Nat.exists_eq_add_of_lt hn
    show p_X12_joinsOf_c89 _ _ _ _ _ _ _ _ _ _ _ = _
    have e1 : (I (w.length : Int) - 2) < I (j : Int) := by
      rw [lit, I_sub, I_lt (by omega) (by omega)]; omega
    have e2 : I (k : Int) + 1 = I ((k + 1 : Nat) : Int) := I_add _ 1
    simp only [p_X12_joinsOf_c89, p_X12_joinsOf_b171, ite_ap, z_b, z_n, z_rt, z_vr, z_gI, z_gR, z_pI, z_pR, hI_K, hI_R, hI_I, hI_hI, hI_T, hI_N, hI_L, hI_D, sI_hI, wI_hI, if_true, e1, e2]
    simp only [jinF, ite_self]
  | succ c ih =>
    intro j acc n hc hj hn hl2
    cases n with
    | zero => exact absurd hn (Nat.not_lt_zero _)
    | succ n =>
      show p_X12_joinsOf_c89 _ (p_X12_joinsOf_l89 r11 n) _ _ _ _ _ _ _ _ _ = _
      have e1 : ¬ ((I (w.length : Int) - 2) < I (j : Int)) := by
        rw [lit, I_sub, I_lt (by omega) (by omega)]; omega
      have e2 : I (j : Int) + 1 = I ((j + 1 : Nat) : Int) := I_add _ 1
      have p1 : p_X12_part (J (mN w)) (I k) (I j) (hM h f g) = some (J (mN (cut w k j)), hM h f g) := part_eq _ hw (by omega) (by omega) (by omega)
      have p2 : p_X12_part (J (mN w)) (I j) (I w.length) (hM h f g) = some (J (mN (cut w j w.length)), hM h f g) := part_eq _ hw (by omega) (by omega) (by omega)
      have i1 := jOf_in (f := f) m T hl hw hw10 (i := k) (j := j) (by omega) (by omega)
      have i2 := jOf_in (f := f) m T hl hw hw10 (i := j) (j := w.length) (by omega) (Nat.le_refl _)
      have m1 := cut_meets (hM h f g) hw hw10 (i := 0) (j := k) (k := j) (by omega) (by omega) (by omega)
      have m2 := cut_meets (hM h f g) hw hw10 (i := k) (j := j) (k := w.length) (by omega) (by omega) (by omega)
      have o0 : ∀ a : Nat, I (a : Int) ||| 0 = I (a : Int) := fun a => by rw [show (0 : Int32) = I ((0 : Nat) : Int) from rfl, I_or, Nat.or_zero]
      have jeq : jinF (jOf l w) (bd w) w.length k (c + 1) j acc = jinF (jOf l w) (bd w) w.length k c (j + 1) (if bd w j = true ∧ jOf l w k j ≠ 0 then acc ||| jOf l w j w.length else acc) := rfl
      have skip : ¬ (bd w k = true ∧ bd w j = true ∧ jOf l w k j ≠ 0) → p_X12_joinsOf_b161 r11 (p_X12_joinsOf_l89 r11 n) (some M) (J (mN w)) (I w.length) (I k) (J (mN (cut w 0 k))) 1 (I j) (I acc) (hM h f g) = r11 (some M) (J (mN w)) (I w.length) (I (if bd w k = true then jinF (jOf l w) (bd w) w.length k (c + 1) j acc else acc)) (I ((k + 1 : Nat) : Int)) (hM h f g) := by
        intro hx
        simp only [p_X12_joinsOf_b161, p_X12_joinsOf_b162, z_n, o0, e2]
        rw [ih (j + 1) acc n (by omega) (by omega) (by omega) (by omega)]
        congr 2
        by_cases q : bd w k = true
        · rw [if_pos q, if_pos q, jeq, if_neg (fun z => hx ⟨q, z⟩)]
        · rw [if_neg q, if_neg q]
      simp only [p_X12_joinsOf_c89, ite_ap, e1, if_false, z_b, p1, p2, m_vr m, i1, jz]
      rw [if_neg (by decide)]
      by_cases hz : jOf l w k j = 0
      · rw [if_pos hz]; exact skip (fun q => q.2.2 hz)
      · rw [if_neg hz]
        simp only [m1]
        by_cases q : bd w k = true
        · rw [if_pos q, if_neg (fun z => z rfl)]
          simp only [m2]
          by_cases q2 : bd w j = true
          · rw [if_pos q2, if_neg (fun z => z rfl)]
            simp only [m_vr m, i2, p_X12_joinsOf_b162, z_n, I_or, e2]
            rw [ih (j + 1) _ n (by omega) (by omega) (by omega) (by omega), if_pos q, if_pos q, jeq, if_pos ⟨q2, hz⟩]
          · rw [if_neg q2, if_pos (by decide)]; exact skip (fun z => q2 z.2.1)
        · rw [if_neg q, if_pos (by decide)]; exact skip (fun z => q z.1)
theorem jn_l11 (m : MAt h M ar) (T : TC f g ar M l) (hl : l.length < 16384) {w : Wd} (hw : isW w) (hw10 : w.length ≤ 10) :
    ∀ (c k acc n : Nat), c = w.length - 1 - k → 2 ≤ k → c < n → k ≤ 12 →
      p_X12_joinsOf_l11 n (some M) (J (mN w)) (I w.length) (I acc) (I k) (hM h f g) = some (I (jouF (jOf l w) (bd w) w.length c k acc), hM h f g) := by
  intro c
  induction c with
  | zero =>
    intro j acc n hc hj hn hl2
    obtain ⟨n, rfl⟩ := Nat.exists_eq_add_of_lt hn
    show p_X12_joinsOf_c11 _ _ _ _ _ _ _ = _
    have e1 : (I (w.length : Int) - 2) < I (j : Int) := by
      rw [lit, I_sub, I_lt (by omega) (by omega)]; omega
    simp only [p_X12_joinsOf_c11, ite_ap, z_b, z_n, z_rt, z_vr, z_gI, z_gR, z_pI, z_pR, hI_K, hI_R, hI_I, hI_hI, hI_T, hI_N, hI_L, hI_D, sI_hI, wI_hI, if_true, e1]
    rfl
  | succ c ih =>
    intro j acc n hc hj hn hl2
    cases n with
    | zero => exact absurd hn (Nat.not_lt_zero _)
    | succ n =>
      show p_X12_joinsOf_c11 (p_X12_joinsOf_l11 n) _ _ _ _ _ _ = _
      have e1 : ¬ ((I (w.length : Int) - 2) < I (j : Int)) := by
        rw [lit, I_sub, I_lt (by omega) (by omega)]; omega
      have e2 : I (j : Int) + 1 = I ((j + 1 : Nat) : Int) := I_add _ 1
      have e3 : I (j : Int) + 2 = I ((j + 2 : Nat) : Int) := I_add _ 2
      have o0 : ∀ a : Nat, I (a : Int) ||| 0 = I (a : Int) := fun a => by rw [show (0 : Int32) = I ((0 : Nat) : Int) from rfl, I_or, Nat.or_zero]
      have p1 : p_X12_part (J (mN w)) 0 (I j) (hM h f g) = some (J (mN (cut w 0 j)), hM h f g) := part_eq (i := 0) _ hw (by omega) (by omega) (by omega)
      have p2 : p_X12_part (J (mN w)) (I j) (I w.length) (hM h f g) = some (J (mN (cut w j w.length)), hM h f g) := part_eq _ hw (by omega) (by omega) (by omega)
      have i1 := jOf_in (f := f) m T hl hw hw10 (i := 0) (j := j) (by omega) (by omega)
      have i2 := jOf_in (f := f) m T hl hw hw10 (i := j) (j := w.length) (by omega) (Nat.le_refl _)
      have m1 := cut_meets (hM h f g) hw hw10 (i := 0) (j := j) (k := w.length) (by omega) (by omega) (by omega)
      have l89 := fun (acc : Nat) => jn_l89 (f := f) m T hl hw hw10 (p_X12_joinsOf_l11 n) (k := j) (by omega) (by omega) (w.length - 1 - (j + 2)) (j + 2) acc zFuel rfl (by omega) (by unfold zFuel; omega) (by omega)
      show _ = some (I (jouF (jOf l w) (bd w) w.length c (j + 1) (if bd w j = true ∧ jOf l w 0 j ≠ 0 then jinF (jOf l w) (bd w) w.length j (w.length - 1 - (j + 2)) (j + 2) (acc ||| jOf l w j w.length) else acc)), _)
      simp only [p_X12_joinsOf_c11, ite_ap, e1, if_false, z_b, p1, p2, m_vr m, i1, jz]
      by_cases hz : jOf l w 0 j = 0
      · rw [if_pos hz, if_neg (fun q => q.2 hz)]
        simp only [p_X12_joinsOf_b51, p_X12_joinsOf_b79, p_X12_joinsOf_b80, ite_ap, if_true, z_n, o0, e3]
        rw [← ih (j + 1) acc n (by omega) (by omega) (by omega) (by omega)]
        have : p_X12_joinsOf_l89 (p_X12_joinsOf_l11 n) zFuel (some M) (J (mN w)) (I w.length) (I acc) (I j) (J (mN (cut w 0 j))) 0 (I ((j + 2 : Nat) : Int)) (hM h f g) = p_X12_joinsOf_c89 (p_X12_joinsOf_l11 n) (p_X12_joinsOf_l89 (p_X12_joinsOf_l11 n) (zFuel - 1)) (some M) (J (mN w)) (I w.length) (I acc) (I j) (J (mN (cut w 0 j))) 0 (I ((j + 2 : Nat) : Int)) (hM h f g) := rfl
        rw [this]
        simp only [p_X12_joinsOf_c89, p_X12_joinsOf_b171, ite_ap, if_true, z_n, e2, ite_self]
      · rw [if_neg hz]
        have nz : ¬ ((1 : Int32) = 0) := by decide
        simp only [p_X12_joinsOf_b51, p_X12_joinsOf_b79, ite_ap, nz, if_false, z_b, m1]
        by_cases q : bd w j = true
        · rw [if_pos q, if_neg (fun z => z rfl), if_pos ⟨q, hz⟩]
          simp only [m_vr m, i2, p_X12_joinsOf_b80, z_n, I_or, e3]
          rw [l89, if_pos q]
          exact ih (j + 1) _ n (by omega) (by omega) (by omega) (by omega)
        · rw [if_neg q, if_pos (by decide), if_neg (fun z => q z.1)]
          simp only [p_X12_joinsOf_b80, z_n, o0, e3]
          rw [l89, if_neg q]
          exact ih (j + 1) _ n (by omega) (by omega) (by omega) (by omega)
theorem joins_eq (m : MAt h M ar) (T : TC f g ar M l) (hl : l.length < 16384) {w : Wd} (hw : isW w) (hw10 : w.length ≤ 10) : p_X12_joinsOf (some M) (J (mN w)) (hM h f g) = some (I (joinsF (jOf l w) (bd w) w.length), hM h f g) := by
  have := jn_l11 (f := f) m T hl hw hw10 (w.length - 1 - 2) 2 0 zFuel rfl (by omega) (by unfold zFuel; omega) (by omega)
  have this' : p_X12_joinsOf_l11 zFuel (some M) (J (mN w)) (I w.length) 0 2 (hM h f g) = _ := this
  simp only [p_X12_joinsOf, z_b, lengthOf_eq _ hw (show w.length ≤ 12 by omega), this']
  rfl
end
