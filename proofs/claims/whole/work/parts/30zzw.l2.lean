section
variable {H H' H1 : ZH} {B nc : Nat} {f f' : FI} {g g' : FL} {dw dw' : Wd} {sl sl' : List St} {rs rs' : List Ru} {al al' : Nat → Nat → Bool} {os bs ig os' bs' ig' : List Ow} {tl tl' : Nat → Nat} {sy sy' : List Sty} {dr dr' : List It} {t t' : List Nat} {lo lb li lo' lb' li' : Bk} {wl wl' : List Wd}
theorem sug_wd (hW : BkW (sugO lo (sugM lb (madeOf rs sl []) [])) wl) {i k : Nat} {e : Nat × Wd} (h : (Sug wl al t i)[k]? = some e) : WdOk e.2 := hW.2 e.2 (catE_mem.mp (List.mem_of_getElem? h)).1
theorem call_cost (S : ST H B nc (dw, sl, rs, al, os, bs, ig, tl, sy, dr, t)) (hnc : nc < 512) (x x2 : Int32) : Call H B nc (p_L_cost (some B) x x2 (some (B + 141))) (p_X12_cost (some (B + 95)) x x2) := by
  obtain ⟨⟨lo, lb, li, wl, C⟩, M, ok, hT, hN⟩ := S
  obtain ⟨z, rfl, hz⟩ := int_of x
  obtain ⟨y, rfl, hy⟩ := int_of x2
  have c := C.2.2.2.1
  have n1 : ¬ ((1 : Int32) = 0) := by decide
  obtain ⟨f', a1, a2, a3, a4⟩ := chs C hz hy
  have hl := fun i => (sug_len C i).2
  by_cases q : (0 ≤ z ∧ z < (wsOf t).length) ∧ 0 ≤ y ∧ y < (Sug wl al t z.toNat).length
  · obtain ⟨q1, q2⟩ := q
    obtain ⟨i, rfl⟩ : ∃ i : Nat, z = i := ⟨z.toNat, by omega⟩
    obtain ⟨k, rfl⟩ : ∃ k : Nat, y = k := ⟨y.toNat, by omega⟩
    have nt : ((i : Int)).toNat = i := rfl
    rw [nt] at q2 a1 a4
    rw [if_pos ⟨q1, q2⟩] at a1
    have hk : k < (Sug wl al t i).length := by omega
    obtain ⟨e, he⟩ : ∃ e, (Sug wl al t i)[k]? = some e := ⟨_, List.getElem?_eq_getElem hk⟩
    obtain ⟨e1, e2⟩ := sug_get he
    have l1 := sug_len C i
    have lk : k < 1558 := by omega
    have cw := catW_cost e1
    refine call_ok (H1 := hI H f') (v := I e.1) rfl hnc C M hT hN ?_ a3 a2 (ok.up hnc) (fun Hm Mm => ?_)
    · have vr1 : ∀ (α : Type) (k : ZM α), z_vr 9 (some (B + cRf 1)) k (hI H f') = k (hI H f') := fun α k => o_vr C.1.os k
      have ce : p_X8_costOfListed (some (B + cRf 1)) (I k) (hI H f') = some (I (cst (ltr (wdT t i)) al (wdT t i).length e.2), hI H f') := col_eq C.1.os (a4 q1) (by omega) e1
      show p_X11_cost (some B) (I (i : Int)) (I (k : Int)) (hI H (zI H)) = some (Sum.inl _, hI H f')
      simp only [p_X11_cost, z_b, z_rt, ite_ap, x_vr C.1, a1, n1, not_false_eq_true, if_true, x_gR (f := f') C.1 1 (by decide), vr1, ce, z_xrt, e2]
    · obtain ⟨H2, p1, p2, p3, p4, p5⟩ := mhs Mm ok c.2.2.1.1 c.2.2.1.2.1 c.2.2.2.1 hl (z := (i : Int)) (y := (k : Int)) hz hy
      rw [nt] at p1 p4 p5
      rw [if_pos ⟨q1, q2⟩] at p1 p5
      refine ⟨H2, ?_, p2, p3, p5⟩
      have vr : ∀ (α : Type) (k : ZM α), z_vr 13 (some (B + 95)) k Hm = k Hm := fun α k => if_pos Mm.1.1.1
      have m := p3.1.1
      have b54 : z_gR 13 54 (some (B + 95)) H2 = some (some (arM B 54), H2) := m_gR (f := zI H2) (g := zL H2) m 54 (by decide)
      have c54 : z_aI (some (arM B 54)) (I k) H2 = some (zI H2 (arM B 54) k, H2) := m_aI (f := zI H2) (g := zL H2) m 54 8200 (by decide) (show k < 8200 by omega) (by decide)
      simp only [p_X12_cost, z_b, z_rt, ite_ap, vr, p1, n1, if_false, b54, c54, ((p4 q1).2 k e he).2]
  · rw [if_neg q] at a1
    refine call_th' (kk := 1) (f' := f') hnc C a2 a3 M ok hT hN (n := 2) ?_ rfl (by decide) (fun Hm Mm => ?_)
    · simp only [p_X11_cost, z_b, ite_ap, x_vr C.1, a1, not_true_eq_false, if_false, z_th]
    · obtain ⟨H2, p1, p2, p3, p4, p5⟩ := mhs Mm ok c.2.2.1.1 c.2.2.1.2.1 c.2.2.2.1 hl hz hy
      rw [if_neg q] at p1 p5
      refine ⟨H2, 0, ?_, p2, p3, p5⟩
      have vr : ∀ (α : Type) (k : ZM α), z_vr 13 (some (B + 95)) k Hm = k Hm := fun α k => if_pos Mm.1.1.1
      simp only [p_X12_cost, z_b, z_rt, ite_ap, vr, p1, if_true]
theorem let_of_code {u : Wd} (hu : isW u) (hl : u.length ≤ 10) {i : Nat} (hi : i < u.length) :
    (J (mN u : Int) >>> (Int32.toInt64 (4 * ((I (u.length : Int) - 1) - I (i : Int))) &&& 63)) &&& 15 = J ((u.getD i 0 + 1 : Nat) : Int) := by
  have hr := mN_range hu (by omega)
  have e1 : 4 * (I (u.length : Int) - 1 - I (i : Int)) = I ((4 * (u.length - (i + 1)) : Nat) : Int) := by
    rw [show (1 : Int32) = I ((1 : Nat) : Int) from rfl, I_sn _ _ (by omega), I_sn _ _ (by omega), show (4 : Int32) = I ((4 : Nat) : Int) from rfl, I_mn, show u.length - 1 - i = u.length - (i + 1) by omega]
  rw [e1, J_msk' (4 * (u.length - (i + 1))) (by omega), J_shr (show mN u < 9223372036854775808 by omega) (show 4 * (u.length - (i + 1)) < 64 by omega), mN_take hu, show (15 : Int64) = J ((15 : Nat) : Int) from rfl, J_and, show (15 : Nat) = 2 ^ 4 - 1 from rfl, Nat.and_two_pow_sub_one_eq_mod, show (2 : Nat) ^ 4 = 16 from rfl]
  have hn : u.take (i + 1) ≠ [] := fun q => by
    have := congrArg List.length q
    rw [List.length_take, List.length_nil] at this
    omega
  rw [mN_last (isW_take hu _) hn]
  have e2 : (u.take (i + 1)).length - 1 = i := by rw [List.length_take]; omega
  rw [e2, List.getD_eq_getElem?_getD, List.getElem?_take_of_lt (by omega), ← List.getD_eq_getElem?_getD]
theorem ch_let : ∀ l : Nat, l < 8 → (Int32.toUInt32 (97 + I (l : Nat)) % 65536).toInt32 = I (97 + l : Nat) ∧ (Int32.toUInt32 (96 + I (l + 1 : Nat)) % 65536).toInt32 = I (97 + l : Nat) := by decide +kernel
theorem call_suggested (S : ST H B nc (dw, sl, rs, al, os, bs, ig, tl, sy, dr, t)) (hnc : nc < 512) (x x2 x3 : Int32) : Call H B nc (p_L_suggested (some B) x x2 x3 (some (B + 141))) (p_X12_suggested (some (B + 95)) x x2 x3) := by
  obtain ⟨⟨lo, lb, li, wl, C⟩, M, ok, hT, hN⟩ := S
  obtain ⟨z, rfl, hz⟩ := int_of x
  obtain ⟨y, rfl, hy⟩ := int_of x2
  obtain ⟨p, rfl, hp⟩ := int_of x3
  have c := C.2.2.2.1
  have n1 : ¬ ((1 : Int32) = 0) := by decide
  obtain ⟨f', a1, a2, a3, a4⟩ := chs C hz hy
  have hl := fun i => (sug_len C i).2
  have g1 : (I p < 0) ↔ p < 0 := by rw [lit, I_lt (by omega) (by decide)]
  have g2 : (0 ≤ I p) ↔ 0 ≤ p := by rw [lit, I_le (by decide) (by omega)]
  have ch32 : (32 : Int32).toUInt32.toUInt16.toUInt32.toInt32 = 32 := by decide
  by_cases u : p < 0
  · refine call_th (kk := 1) hnc C M ok hT hN (n := 2) ?_ rfl (by decide) (fun Hm Mm => ?_)
    · show p_X11_suggested (some B) (I z) (I y) (I p) (hI H (zI H)) = _
      simp only [p_X11_suggested, p_X11_suggested_b13, z_b, ite_ap, g1, u, if_true, z_th]
      rfl
    · obtain ⟨H2, p1, p2, p3, p4, p5⟩ := mhs Mm ok c.2.2.1.1 c.2.2.1.2.1 c.2.2.2.1 hl hz hy
      have vr : ∀ (α : Type) (k : ZM α), z_vr 13 (some (B + 95)) k Hm = k Hm := fun α k => if_pos Mm.1.1.1
      have nu : ¬ 0 ≤ p := by omega
      have m := p3.1.1
      by_cases q : (0 ≤ z ∧ z < (wsOf t).length) ∧ 0 ≤ y ∧ y < (Sug wl al t z.toNat).length
      · rw [if_pos q] at p1 p5
        obtain ⟨q1, q2⟩ := q
        obtain ⟨i, rfl⟩ : ∃ i : Nat, z = i := ⟨z.toNat, by omega⟩
        obtain ⟨k, rfl⟩ : ∃ k : Nat, y = k := ⟨y.toNat, by omega⟩
        have nt : ((i : Int)).toNat = i := rfl
        rw [nt] at q2 p4
        have hk : k < (Sug wl al t i).length := by omega
        obtain ⟨e, he⟩ : ∃ e, (Sug wl al t i)[k]? = some e := ⟨_, List.getElem?_eq_getElem hk⟩
        have lk := hl i
        have we := sug_wd (al := al) (t := t) c.2.2.2.1 he
        refine ⟨hM H2 (zu (zI H2) (B + 95) 58 1) (zL H2), 32, ?_, p2.trans (KM.pI _ _), p3.pI (Or.inl rfl), zu_same _ _ _ _⟩
        have b58 : z_pI 13 58 (some (B + 95)) 1 H2 = some ((), hM H2 (zu (zI H2) (B + 95) 58 1) (zL H2)) := m_pI (f := zI H2) (g := zL H2) m 58 1
        have gv := ((p4 q1).2 k e he).1
        have lo1 := lengthOf_eq (hM H2 (zu (zI H2) (B + 95) 58 1) (zL H2)) we.1 (show e.2.length ≤ 12 by have := we.2.2; omega)
        have gt1 : (0 : Int32) < 1 := by decide
        simp only [p_X12_suggested, p_X12_suggested_b22, z_b, z_rc, ite_ap, vr, p1, n1, not_false_eq_true, if_true, g2, nu, if_false, b58, m_gR m 53 (by decide), m_aL m 53 8200 (by decide) (show k < 8200 by omega) (by decide), gv, lo1, m_gI m, zu_same, gt1, ch32]
      · rw [if_neg q] at p1 p5
        refine ⟨H2, 32, ?_, p2, p3, p5⟩
        simp only [p_X12_suggested, z_b, z_rc, ite_ap, vr, p1, not_true_eq_false, if_false, ch32, if_true]
  · have u' : 0 ≤ p := by omega
    obtain ⟨j, rfl⟩ : ∃ j : Nat, p = j := ⟨p.toNat, by omega⟩
    by_cases q : (0 ≤ z ∧ z < (wsOf t).length) ∧ 0 ≤ y ∧ y < (Sug wl al t z.toNat).length
    · obtain ⟨q1, q2⟩ := q
      obtain ⟨i, rfl⟩ : ∃ i : Nat, z = i := ⟨z.toNat, by omega⟩
      obtain ⟨k, rfl⟩ : ∃ k : Nat, y = k := ⟨y.toNat, by omega⟩
      have nt : ((i : Int)).toNat = i := rfl
      rw [nt] at q2 a1 a4
      rw [if_pos ⟨q1, q2⟩] at a1
      have hk : k < (Sug wl al t i).length := by omega
      obtain ⟨e, he⟩ : ∃ e, (Sug wl al t i)[k]? = some e := ⟨_, List.getElem?_eq_getElem hk⟩
      obtain ⟨e1, e2⟩ := sug_get he
      have l1 := sug_len C i
      have lk : k < 1558 := by omega
      have we := sug_wd (al := al) (t := t) c.2.2.2.1 he
      have w10 := we.2.2
      have s4 : f' (arL (B + 24) 4) k = I (cN e.2) := (a4 q1).2.1 k _ e1
      have cmp1 : (I (e.2.length : Int) ≤ I (j : Int)) ↔ e.2.length ≤ j := by rw [I_le (by omega) (by omega)]; omega
      have cmp2 : (I (j : Int) < I (e.2.length : Int)) ↔ j < e.2.length := by rw [I_lt (by omega) (by omega)]; omega
      have cl : j < e.2.length → e.2.getD j 0 < 8 := fun hj => we.1 _ (List.mem_of_getElem? (getD_some hj))
      refine call_ok (H1 := hI H f') (v := if e.2.length ≤ j then 32 else I (97 + e.2.getD j 0 : Nat)) rfl hnc C M hT hN ?_ a3 a2 (ok.up hnc) (fun Hm Mm => ?_)
      · have vr1 : ∀ (α : Type) (k : ZM α), z_vr 9 (some (B + cRf 1)) k (hI H f') = k (hI H f') := fun α k => o_vr C.1.os k
        have lw : p_X8_listedWord (some (B + cRf 1)) (I k) (hI H f') = some (I (cN e.2), hI H f') := by
          show p_X8_listedWord (some (B + 24)) (I k) (hI H f') = _
          simp only [p_X8_listedWord, z_b, z_rt, o_gR C.1.os 4 (by decide), o_rv C.1.os 4 (by decide), o_get C.1.os 4 1558 rfl lk, s4]
        have sz := sizeOf_eq (hI H f') we.1 w10
        show p_X11_suggested (some B) (I (i : Int)) (I (k : Int)) (I (j : Int)) (hI H (zI H)) = some (Sum.inl _, hI H f')
        simp only [p_X11_suggested, z_b, z_rt, ite_ap, g1, u, if_false, x_vr C.1, a1, n1, not_false_eq_true, if_true, x_gR (f := f') C.1 1 (by decide), vr1, lw, sz, cmp1]
        by_cases v : e.2.length ≤ j
        · rw [if_pos v, if_pos v]
          simp only [z_xrc, ch32, if_true]
        · rw [if_neg v, if_neg v]
          have lf := letterOf_eq (hI H f') we.1 w10 (i := j) (by omega)
          have cc := (ch_let _ (cl (by omega))).1
          have c2 := (ch_sm (97 + e.2.getD j 0) (by have := cl (by omega); omega)).2
          simp only [lf, cc, z_xrc, c2, if_true]
      · obtain ⟨H2, p1, p2, p3, p4, p5⟩ := mhs Mm ok c.2.2.1.1 c.2.2.1.2.1 c.2.2.2.1 hl (z := (i : Int)) (y := (k : Int)) hz hy
        rw [nt] at p1 p4 p5
        rw [if_pos ⟨q1, q2⟩] at p1 p5
        have m := p3.1.1
        refine ⟨hM H2 (zu (zI H2) (B + 95) 58 0) (zL H2), ?_, p2.trans (KM.pI _ _), p3.pI (Or.inl rfl), zu_same _ _ _ _⟩
        have vr : ∀ (α : Type) (k : ZM α), z_vr 13 (some (B + 95)) k Hm = k Hm := fun α k => if_pos Mm.1.1.1
        have b58 : z_pI 13 58 (some (B + 95)) 0 H2 = some ((), hM H2 (zu (zI H2) (B + 95) 58 0) (zL H2)) := m_pI (f := zI H2) (g := zL H2) m 58 0
        have gv := ((p4 q1).2 k e he).1
        have lo1 := lengthOf_eq (hM H2 (zu (zI H2) (B + 95) 58 0) (zL H2)) we.1 (show e.2.length ≤ 12 by omega)
        have gt1 : ¬ (0 : Int32) < 0 := by decide
        simp only [p_X12_suggested, p_X12_suggested_b22, z_b, ite_ap, vr, p1, n1, not_false_eq_true, if_true, g2, u', b58, m_gR m 53 (by decide), m_aL m 53 8200 (by decide) (show k < 8200 by omega) (by decide), gv, lo1, m_gI m, zu_same, gt1, if_false, cmp2]
        by_cases v : e.2.length ≤ j
        · rw [if_pos v, if_neg (by omega)]
          simp only [z_rc, ch32, if_true]
        · rw [if_neg v, if_pos (by omega)]
          have lf := let_of_code we.1 w10 (i := j) (by omega)
          have cc := (ch_let _ (cl (by omega))).2
          have c2 := (ch_sm (97 + e.2.getD j 0) (by have := cl (by omega); omega)).2
          have ji : Int64.toInt32 (J ((e.2.getD j 0 + 1 : Nat) : Int)) = I ((e.2.getD j 0 + 1 : Nat) : Int) := JI _
          simp only [lf, ji, cc, z_rc, c2, if_true]
    · rw [if_neg q] at a1
      refine call_th' (kk := 1) (f' := f') hnc C a2 a3 M ok hT hN (n := 2) ?_ rfl (by decide) (fun Hm Mm => ?_)
      · simp only [p_X11_suggested, p_X11_suggested_b13, z_b, ite_ap, g1, u, if_false, x_vr C.1, a1, not_true_eq_false, z_th]
      · obtain ⟨H2, p1, p2, p3, p4, p5⟩ := mhs Mm ok c.2.2.1.1 c.2.2.1.2.1 c.2.2.2.1 hl hz hy
        rw [if_neg q] at p1 p5
        refine ⟨H2, 32, ?_, p2, p3, p5⟩
        have vr : ∀ (α : Type) (k : ZM α), z_vr 13 (some (B + 95)) k Hm = k Hm := fun α k => if_pos Mm.1.1.1
        simp only [p_X12_suggested, z_b, z_rc, ite_ap, vr, p1, not_true_eq_false, if_false, ch32, if_true]
end
