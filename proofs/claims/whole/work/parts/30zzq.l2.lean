section
variable {H H' H1 : ZH} {B nc : Nat} {f f' : FI} {g g' : FL} {dw : Wd} {sl : List St} {rs : List Ru} {al : Nat → Nat → Bool} {os bs ig : List Ow} {tl : Nat → Nat} {sy : List Sty} {dr : List It} {t : List Nat} {lo lb li : Bk} {wl : List Wd}
theorem call_readings (S : ST H B nc (dw, sl, rs, al, os, bs, ig, tl, sy, dr, t)) (hnc : nc < 512) (x : Int32) : Call H B nc (p_L_readings (some B) x (some (B + 141))) (p_X12_readings (some (B + 95)) x) := by
  obtain ⟨⟨lo, lb, li, wl, C⟩, M, ok, hT, hN⟩ := S
  obtain ⟨z, rfl, hz⟩ := int_of x
  have c := C.2.2.2.1
  have ch := chas (f := zI H) C.1 c.2.2.2.2.2.2.1 hz
  have n1 : ¬ ((1 : Int32) = 0) := by decide
  by_cases q : 0 ≤ z ∧ z < (wsOf t).length
  · obtain ⟨i, rfl⟩ : ∃ i : Nat, z = i := ⟨z.toNat, by omega⟩
    have hi : i < (wsOf t).length := by omega
    have F : FoC (zI H) (B + 48) (arL (B + 48)) t := c.2.2.2.2.2.2.1
    have w50 := ws_100 F.1.2.1
    obtain ⟨f', a1, a2, a3, a4, a5, a6⟩ := cproof C ok
    have a1' : p_X11_proofread (some B) (hI H (zI H)) = some ((), hI H f') := a1
    have kc : KC H (hI H f') B := KC.ints (fun b h1 h2 => a6 b (by simp only [PA, List.mem_cons, List.not_mem_nil, or_false, not_or]; omega))
    have v1 := a3.1 i hi
    refine call_ok (H1 := hI H f') (v := I (Rof rs sl lo lb t i)) rfl hnc C M hT hN ?_ kc a2 (ok.up hnc) (fun Hm Mm => ?_)
    · rw [if_pos q] at ch
      have gt : p_X3_readingSet (some (B + cRf 8)) (I (i : Int)) (hI H f') = some (I (Rof rs sl lo lb t i), hI H f') := by
        show p_X3_readingSet (some (B + 79)) (I (i : Int)) (hI H f') = _
        simp only [p_X3_readingSet, z_b, z_rt, o_gR C.1.op 0 (by decide), o_rv C.1.op 0 (by decide), o_get C.1.op 0 50 rfl (show i < 50 by omega), v1]
      have vr8 : ∀ (α : Type) (k : ZM α), z_vr 4 (some (B + cRf 8)) k (hI H f') = k (hI H f') := fun α k => o_vr C.1.op k
      show p_X11_readings (some B) (I (i : Int)) (hI H (zI H)) = some (Sum.inl (I (Rof rs sl lo lb t i)), hI H f')
      simp only [p_X11_readings, z_b, ite_ap, x_vr C.1, ch, n1, not_false_eq_true, if_true, a1', x_gR (f := f') C.1 8 (by decide), vr8, gt, z_xrt]

    · obtain ⟨H2, p1, p2, p3, p4, p5, p6⟩ := mhas Mm ok c.2.2.1.1 c.2.2.1.2.1 (z := (i : Int)) hz
      rw [if_pos q] at p1 p6
      refine ⟨H2, ?_, p2, p3, p6⟩
      have vr : ∀ (α : Type) (k : ZM α), z_vr 13 (some (B + 95)) k Hm = k Hm := fun α k => if_pos Mm.1.1.1
      have b1 : z_gR 13 45 (some (B + 95)) H2 = some (some (arM B 45), H2) := m_gR (f := zI H2) (g := zL H2) p3.1.1 45 (by decide)
      have b2 : z_aI (some (arM B 45)) (I i) H2 = some (zI H2 (arM B 45) i, H2) := m_aI (f := zI H2) (g := zL H2) p3.1.1 45 101 (by decide) (show i < 101 by omega) (by decide)
      simp only [p_X12_readings, z_b, ite_ap, vr, p1, n1, if_false, b1, b2, (p4.2 i hi).1, z_rt]
  · refine call_th (kk := 1) hnc C M ok hT hN (n := 2) ?_ rfl (by decide) (fun Hm Mm => ?_)
    · rw [if_neg q] at ch
      show p_X11_readings (some B) (I z) (hI H (zI H)) = some (Sum.inr 2, znew (hI H (zI H)) (0, 0) 6)
      simp only [p_X11_readings, z_b, ite_ap, x_vr C.1, ch, not_true_eq_false, if_false, z_th]
    · obtain ⟨H2, p1, p2, p3, p4, p5, p6⟩ := mhas Mm ok c.2.2.1.1 c.2.2.1.2.1 hz
      rw [if_neg q] at p1 p6
      refine ⟨H2, 0, ?_, p2, p3, p6⟩
      have vr : ∀ (α : Type) (k : ZM α), z_vr 13 (some (B + 95)) k Hm = k Hm := fun α k => if_pos Mm.1.1.1
      simp only [p_X12_readings, z_b, ite_ap, vr, p1, if_true, z_rt, z_rz, true_or]
theorem call_reading (S : ST H B nc (dw, sl, rs, al, os, bs, ig, tl, sy, dr, t)) (hnc : nc < 512) (x : Int32) : Call H B nc (p_L_reading (some B) x (some (B + 141))) (p_X12_reading (some (B + 95)) x) := by
  obtain ⟨⟨lo, lb, li, wl, C⟩, M, ok, hT, hN⟩ := S
  obtain ⟨z, rfl, hz⟩ := int_of x
  have c := C.2.2.2.1
  have ch := chas (f := zI H) C.1 c.2.2.2.2.2.2.1 hz
  have n1 : ¬ ((1 : Int32) = 0) := by decide
  by_cases q : 0 ≤ z ∧ z < (wsOf t).length
  · obtain ⟨i, rfl⟩ : ∃ i : Nat, z = i := ⟨z.toNat, by omega⟩
    have hi : i < (wsOf t).length := by omega
    have F : FoC (zI H) (B + 48) (arL (B + 48)) t := c.2.2.2.2.2.2.1
    have w50 := ws_100 F.1.2.1
    obtain ⟨f', a1, a2, a3, a4, a5, a6⟩ := cproof C ok
    have a1' : p_X11_proofread (some B) (hI H (zI H)) = some ((), hI H f') := a1
    have kc : KC H (hI H f') B := KC.ints (fun b h1 h2 => a6 b (by simp only [PA, List.mem_cons, List.not_mem_nil, or_false, not_or]; omega))
    have v1 := (a3.2.1 i hi).1
    refine call_ok (H1 := hI H f') (v := I (pr (chE tl (Rof rs sl lo lb t) (snT t) (bnT t) i))) rfl hnc C M hT hN ?_ kc a2 (ok.up hnc) (fun Hm Mm => ?_)
    · rw [if_pos q] at ch
      have gt : p_X3_chosenReading (some (B + cRf 8)) (I (i : Int)) (hI H f') = some (I (pr (chE tl (Rof rs sl lo lb t) (snT t) (bnT t) i)), hI H f') := by
        show p_X3_chosenReading (some (B + 79)) (I (i : Int)) (hI H f') = _
        simp only [p_X3_chosenReading, z_b, z_rt, o_gR C.1.op 1 (by decide), o_rv C.1.op 1 (by decide), o_get C.1.op 1 50 rfl (show i < 50 by omega), v1]
      have vr8 : ∀ (α : Type) (k : ZM α), z_vr 4 (some (B + cRf 8)) k (hI H f') = k (hI H f') := fun α k => o_vr C.1.op k
      show p_X11_reading (some B) (I (i : Int)) (hI H (zI H)) = some (Sum.inl (I (pr (chE tl (Rof rs sl lo lb t) (snT t) (bnT t) i))), hI H f')
      simp only [p_X11_reading, z_b, ite_ap, x_vr C.1, ch, n1, not_false_eq_true, if_true, a1', x_gR (f := f') C.1 8 (by decide), vr8, gt, z_xrt]

    · obtain ⟨H2, p1, p2, p3, p4, p5, p6⟩ := mhas Mm ok c.2.2.1.1 c.2.2.1.2.1 (z := (i : Int)) hz
      rw [if_pos q] at p1 p6
      refine ⟨H2, ?_, p2, p3, p6⟩
      have vr : ∀ (α : Type) (k : ZM α), z_vr 13 (some (B + 95)) k Hm = k Hm := fun α k => if_pos Mm.1.1.1
      have b1 : z_gR 13 46 (some (B + 95)) H2 = some (some (arM B 46), H2) := m_gR (f := zI H2) (g := zL H2) p3.1.1 46 (by decide)
      have b2 : z_aI (some (arM B 46)) (I i) H2 = some (zI H2 (arM B 46) i, H2) := m_aI (f := zI H2) (g := zL H2) p3.1.1 46 101 (by decide) (show i < 101 by omega) (by decide)
      simp only [p_X12_reading, z_b, ite_ap, vr, p1, n1, if_false, b1, b2, (p4.2 i hi).2.1, z_rt]
  · refine call_th (kk := 1) hnc C M ok hT hN (n := 2) ?_ rfl (by decide) (fun Hm Mm => ?_)
    · rw [if_neg q] at ch
      show p_X11_reading (some B) (I z) (hI H (zI H)) = some (Sum.inr 2, znew (hI H (zI H)) (0, 0) 6)
      simp only [p_X11_reading, z_b, ite_ap, x_vr C.1, ch, not_true_eq_false, if_false, z_th]
    · obtain ⟨H2, p1, p2, p3, p4, p5, p6⟩ := mhas Mm ok c.2.2.1.1 c.2.2.1.2.1 hz
      rw [if_neg q] at p1 p6
      refine ⟨H2, 0, ?_, p2, p3, p6⟩
      have vr : ∀ (α : Type) (k : ZM α), z_vr 13 (some (B + 95)) k Hm = k Hm := fun α k => if_pos Mm.1.1.1
      simp only [p_X12_reading, z_b, ite_ap, vr, p1, if_true, z_rt, z_rz, true_or]
theorem call_isRight (S : ST H B nc (dw, sl, rs, al, os, bs, ig, tl, sy, dr, t)) (hnc : nc < 512) (x : Int32) : Call H B nc (p_L_isRight (some B) x (some (B + 141))) (p_X12_isRight (some (B + 95)) x) := by
  obtain ⟨⟨lo, lb, li, wl, C⟩, M, ok, hT, hN⟩ := S
  obtain ⟨z, rfl, hz⟩ := int_of x
  have c := C.2.2.2.1
  have ch := chas (f := zI H) C.1 c.2.2.2.2.2.2.1 hz
  have n1 : ¬ ((1 : Int32) = 0) := by decide
  by_cases q : 0 ≤ z ∧ z < (wsOf t).length
  · obtain ⟨i, rfl⟩ : ∃ i : Nat, z = i := ⟨z.toNat, by omega⟩
    have hi : i < (wsOf t).length := by omega
    have F : FoC (zI H) (B + 48) (arL (B + 48)) t := c.2.2.2.2.2.2.1
    have w50 := ws_100 F.1.2.1
    obtain ⟨f', a1, a2, a3, a4, a5, a6⟩ := cproof C ok
    have a1' : p_X11_proofread (some B) (hI H (zI H)) = some ((), hI H f') := a1
    have kc : KC H (hI H f') B := KC.ints (fun b h1 h2 => a6 b (by simp only [PA, List.mem_cons, List.not_mem_nil, or_false, not_or]; omega))
    have v1 := a3.1 i hi
    have hR : Rof rs sl lo lb t i < 256 := by
      obtain ⟨w, w1, w2, w3, w4, w5, w6⟩ := ws_at hi
      show rdW _ _ _ (wdT t i) < 256
      rw [w2]; exact rdW_lt c.2.2.1.1 w4 w5
    have r0 : (I (Rof rs sl lo lb t i : Int) = 0) ↔ Rof rs sl lo lb t i = 0 := I_eqN (k := 0) (by omega) (by decide)
    refine call_ok (H1 := hI H f') (v := if Rof rs sl lo lb t i = 0 then 0 else 1) (by split <;> rfl) hnc C M hT hN ?_ kc a2 (ok.up hnc) (fun Hm Mm => ?_)
    · rw [if_pos q] at ch
      have gt : p_X3_isSpelledRight (some (B + cRf 8)) (I (i : Int)) (hI H f') = some (if Rof rs sl lo lb t i = 0 then 0 else 1, hI H f') := by
        show p_X3_isSpelledRight (some (B + 79)) (I (i : Int)) (hI H f') = _
        simp only [p_X3_isSpelledRight, z_b, z_rz, ite_ap, o_gR C.1.op 0 (by decide), o_rv C.1.op 0 (by decide), o_get C.1.op 0 50 rfl (show i < 50 by omega), v1, r0, true_or, or_true, if_true]
        split <;> rfl
      have vr8 : ∀ (α : Type) (k : ZM α), z_vr 4 (some (B + cRf 8)) k (hI H f') = k (hI H f') := fun α k => o_vr C.1.op k
      show p_X11_isRight (some B) (I (i : Int)) (hI H (zI H)) = some (Sum.inl (if Rof rs sl lo lb t i = 0 then 0 else 1), hI H f')
      simp only [p_X11_isRight, z_b, ite_ap, x_vr C.1, ch, n1, not_false_eq_true, if_true, a1', x_gR (f := f') C.1 8 (by decide), vr8, gt, z_xrz]
      rw [if_pos (by split <;> simp)]
    · obtain ⟨H2, p1, p2, p3, p4, p5, p6⟩ := mhas Mm ok c.2.2.1.1 c.2.2.1.2.1 (z := (i : Int)) hz
      rw [if_pos q] at p1 p6
      refine ⟨H2, ?_, p2, p3, p6⟩
      have vr : ∀ (α : Type) (k : ZM α), z_vr 13 (some (B + 95)) k Hm = k Hm := fun α k => if_pos Mm.1.1.1
      have b1 : z_gR 13 45 (some (B + 95)) H2 = some (some (arM B 45), H2) := m_gR (f := zI H2) (g := zL H2) p3.1.1 45 (by decide)
      have b2 : z_aI (some (arM B 45)) (I i) H2 = some (zI H2 (arM B 45) i, H2) := m_aI (f := zI H2) (g := zL H2) p3.1.1 45 101 (by decide) (show i < 101 by omega) (by decide)
      simp only [p_X12_isRight, z_b, z_rz, ite_ap, vr, p1, n1, if_false, b1, b2, (p4.2 i hi).1, r0, true_or, or_true, if_true]
      split <;> rfl
  · refine call_th (kk := 1) hnc C M ok hT hN (n := 2) ?_ rfl (by decide) (fun Hm Mm => ?_)
    · rw [if_neg q] at ch
      show p_X11_isRight (some B) (I z) (hI H (zI H)) = some (Sum.inr 2, znew (hI H (zI H)) (0, 0) 6)
      simp only [p_X11_isRight, z_b, ite_ap, x_vr C.1, ch, not_true_eq_false, if_false, z_th]
    · obtain ⟨H2, p1, p2, p3, p4, p5, p6⟩ := mhas Mm ok c.2.2.1.1 c.2.2.1.2.1 hz
      rw [if_neg q] at p1 p6
      refine ⟨H2, 0, ?_, p2, p3, p6⟩
      have vr : ∀ (α : Type) (k : ZM α), z_vr 13 (some (B + 95)) k Hm = k Hm := fun α k => if_pos Mm.1.1.1
      simp only [p_X12_isRight, z_b, ite_ap, vr, p1, if_true, z_rt, z_rz, true_or]
end
