/-! ===== calls that ask for words ===== -/
section
variable {H H' H1 : ZH} {B nc : Nat} {f f' : FI} {g g' : FL} {dw : Wd} {sl : List St} {rs : List Ru} {al : Nat → Nat → Bool} {os bs ig : List Ow} {tl : Nat → Nat} {sy : List Sty} {dr : List It} {t : List Nat} {lo lb li : Bk} {wl : List Wd}
theorem int_of (x : Int32) : ∃ z : Int, x = I z ∧ -2147483648 ≤ z ∧ z < 2147483648 := ⟨x.toInt, (toInt_I x).symm, Int32.le_toInt x, Int32.toInt_lt x⟩
theorem h1_2 : z_h1 2 (z_rt (1 : Int32)) 2 = z_rt 1 := rfl
theorem hM_eta (H : ZH) : hM H (zI H) (zL H) = H := rfl
/-- a field of the reference that is set, its 58 -/
theorem call_wordAt (S : ST H B nc (dw, sl, rs, al, os, bs, ig, tl, sy, dr, t)) (hnc : nc < 512) (x : Int32) : Call H B nc (p_L_wordAt (some B) x (some (B + 141))) (p_X12_wordAt (some (B + 95)) x) := by
  obtain ⟨⟨lo, lb, li, wl, C⟩, M, ok, hT, hN⟩ := S
  obtain ⟨z, rfl, hz⟩ := int_of x
  have c := C.2.2.2.1
  have ch := chas (f := zI H) C.1 c.2.2.2.2.2.2.1 hz
  have n1 : ¬ ((1 : Int32) = 0) := by decide
  by_cases q : 0 ≤ z ∧ z < (wsOf t).length
  · obtain ⟨i, rfl⟩ : ∃ i : Nat, z = i := ⟨z.toNat, by omega⟩
    have hi : i < (wsOf t).length := by omega
    obtain ⟨w, w1, w2, -⟩ := ws_at hi
    have F : FoC (zI H) (B + 48) (arL (B + 48)) t := c.2.2.2.2.2.2.1
    have w50 := ws_100 F.1.2.1
    have e1 := (F.2.2.1.2 i w w1).1
    refine call_ok (H1 := H) (v := I w.1) rfl hnc C M hT hN ?_ (KC.refl H B) C (ok.up hnc) (fun Hm Mm => ?_)
    · rw [if_pos q] at ch
      have ws : p_X9_wordStart (some (B + cRf 5)) (I (i : Int)) (hI H (zI H)) = some (I w.1, hI H (zI H)) := by
        show p_X9_wordStart (some (B + 48)) (I (i : Int)) (hI H (zI H)) = _
        simp only [p_X9_wordStart, z_b, z_rt, o_gR C.1.ot 1 (by decide), o_rv C.1.ot 1 (by decide), o_get C.1.ot 1 50 rfl (show i < 50 by omega), e1]
      have vr5 : ∀ (α : Type) (k : ZM α), z_vr 10 (some (B + cRf 5)) k (hI H (zI H)) = k (hI H (zI H)) := fun α k => o_vr C.1.ot k
      show p_X11_wordAt (some B) (I (i : Int)) (hI H (zI H)) = some (Sum.inl (I w.1), hI H (zI H))
      simp only [p_X11_wordAt, z_b, ite_ap, x_vr C.1, ch, n1, not_false_eq_true, if_true, x_gR C.1 5 (by decide), vr5, ws, z_xrt]
    · obtain ⟨H2, p1, p2, p3, p4, p5, p6⟩ := mhas Mm ok c.2.2.1.1 c.2.2.1.2.1 (z := (i : Int)) hz
      rw [if_pos q] at p1 p6
      refine ⟨H2, ?_, p2, p3, p6⟩
      have vr : ∀ (α : Type) (k : ZM α), z_vr 13 (some (B + 95)) k Hm = k Hm := fun α k => if_pos Mm.1.1.1
      have a1 : z_gR 13 41 (some (B + 95)) H2 = some (some (arM B 41), H2) := m_gR (f := zI H2) (g := zL H2) p3.1.1 41 (by decide)
      have a2 : z_aI (some (arM B 41)) (I i) H2 = some (zI H2 (arM B 41) i, H2) := m_aI (f := zI H2) (g := zL H2) p3.1.1 41 101 (by decide) (show i < 101 by omega) (by decide)
      simp only [p_X12_wordAt, z_b, ite_ap, vr, p1, n1, if_false, a1, a2, (p4.1.2 i w w1).1, z_rt]
  · refine call_th (kk := 1) hnc C M ok hT hN (n := 2) ?_ rfl (by decide) (fun Hm Mm => ?_)
    · rw [if_neg q] at ch
      show p_X11_wordAt (some B) (I z) (hI H (zI H)) = some (Sum.inr 2, znew (hI H (zI H)) (0, 0) 6)
      simp only [p_X11_wordAt, z_b, ite_ap, x_vr C.1, ch, not_true_eq_false, if_false, z_th]
    · obtain ⟨H2, p1, p2, p3, p4, p5, p6⟩ := mhas Mm ok c.2.2.1.1 c.2.2.1.2.1 hz
      rw [if_neg q] at p1 p6
      refine ⟨H2, 0, ?_, p2, p3, p6⟩
      have vr : ∀ (α : Type) (k : ZM α), z_vr 13 (some (B + 95)) k Hm = k Hm := fun α k => if_pos Mm.1.1.1
      simp only [p_X12_wordAt, z_b, ite_ap, vr, p1, if_true, z_rt]
end
