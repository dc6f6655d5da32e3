theorem catW_le (cs : Wd → Nat) : ∀ wl : List Wd, (catW cs wl).length ≤ wl.length
  | [] => Nat.le_refl _
  | w :: wl => by
    have ih := catW_le cs wl
    unfold catW grp at ih ⊢
    simp only [List.length_append, List.filter_cons, List.length_cons] at ih ⊢
    have h : ∀ c : Nat, (if (cs w == c) = true then w :: List.filter (fun w => cs w == c) wl else List.filter (fun w => cs w == c) wl).length = (List.filter (fun w => cs w == c) wl).length + if cs w = c then 1 else 0 := fun c => by
      by_cases q : cs w = c
      · rw [if_pos (by simp [q]), if_pos q]; rfl
      · rw [if_neg (by simp [q]), if_neg q]; rfl
    rw [h 1, h 2, h 3, h 4]
    by_cases q1 : cs w = 1
    · simp [q1]; omega
    · by_cases q2 : cs w = 2
      · simp [q2]; omega
      · by_cases q3 : cs w = 3
        · simp [q3]; omega
        · by_cases q4 : cs w = 4
          · simp [q4]; omega
          · simp [q1, q2, q3, q4]; omega
section
variable {H H' H1 : ZH} {B nc : Nat} {f f' : FI} {g g' : FL} {dw dw' : Wd} {sl sl' : List St} {rs rs' : List Ru} {al al' : Nat → Nat → Bool} {os bs ig os' bs' ig' : List Ow} {tl tl' : Nat → Nat} {sy sy' : List Sty} {dr dr' : List It} {t t' : List Nat} {lo lb li lo' lb' li' : Bk} {wl wl' : List Wd}
theorem sug_len (S : CS H B dw sl rs al os bs ig tl sy dr t lo lb li wl) (i : Nat) : (Sug wl al t i).length = (catW (cst (ltr (wdT t i)) al (wdT t i).length) wl).length ∧ (Sug wl al t i).length ≤ 1558 := by
  have hW : BkW (sugO lo (sugM lb (madeOf rs sl []) [])) wl := S.2.2.2.1.2.2.2.1
  have hB := S.2.2.2.1.2.1.2.2.2.1.2.2.1
  have e1 : (sugO lo (sugM lb (madeOf rs sl []) [])).length = wl.length := by
    have := congrArg List.length hW.1
    simpa using this
  have e2 := catW_le (cst (ltr (wdT t i)) al (wdT t i).length) wl
  have e3 : (Sug wl al t i).length = (catW (cst (ltr (wdT t i)) al (wdT t i).length) wl).length := by unfold Sug catE; rw [List.length_map]
  exact ⟨e3, by omega⟩
theorem sug_get {i k : Nat} {e : Nat × Wd} (h : (Sug wl al t i)[k]? = some e) : (catW (cst (ltr (wdT t i)) al (wdT t i).length) wl)[k]? = some e.2 ∧ e.1 = cst (ltr (wdT t i)) al (wdT t i).length e.2 := by
  unfold Sug catE at h
  rw [List.getElem?_map] at h
  cases q : (catW (cst (ltr (wdT t i)) al (wdT t i).length) wl)[k]? with
  | none => rw [q] at h; cases h
  | some w => rw [q] at h; cases h; exact ⟨rfl, rfl⟩
theorem call_suggestions (S : ST H B nc (dw, sl, rs, al, os, bs, ig, tl, sy, dr, t)) (hnc : nc < 512) (x : Int32) : Call H B nc (p_L_suggestions (some B) x (some (B + 141))) (p_X12_suggestions (some (B + 95)) x) := by
  obtain ⟨⟨lo, lb, li, wl, C⟩, M, ok, hT, hN⟩ := S
  obtain ⟨z, rfl, hz⟩ := int_of x
  have c := C.2.2.2.1
  have ch := chas (f := zI H) C.1 c.2.2.2.2.2.2.1 hz
  have n1 : ¬ ((1 : Int32) = 0) := by decide
  by_cases q : 0 ≤ z ∧ z < (wsOf t).length
  · obtain ⟨i, rfl⟩ : ∃ i : Nat, z = i := ⟨z.toNat, by omega⟩
    have hi : i < (wsOf t).length := by omega
    obtain ⟨f', a1, a2, a3, a4⟩ := csug C hi
    have sl1 := (sug_len C i).1
    refine call_ok (H1 := hI H f') (v := I (Sug wl al t i).length) rfl hnc C M hT hN ?_ a3 a2 (ok.up hnc) (fun Hm Mm => ?_)
    · rw [if_pos q] at ch
      have vr1 : ∀ (α : Type) (k : ZM α), z_vr 9 (some (B + cRf 1)) k (hI H f') = k (hI H f') := fun α k => o_vr C.1.os k
      have g7 : z_gI 9 7 (some (B + cRf 1)) (hI H f') = some (f' (B + 24) 7, hI H f') := o_gI C.1.os 7
      show p_X11_suggestions (some B) (I (i : Int)) (hI H (zI H)) = some (Sum.inl _, hI H f')
      simp only [p_X11_suggestions, p_X8_count, z_b, z_rt, ite_ap, x_vr C.1, ch, n1, not_false_eq_true, if_true, a1, x_gR (f := f') C.1 1 (by decide), vr1, g7, a4.1, z_xrt, sl1]
    · obtain ⟨H2, p1, p2, p3, p4, p5, p6⟩ := mhas Mm ok c.2.2.1.1 c.2.2.1.2.1 (z := (i : Int)) hz
      rw [if_pos q] at p1 p6
      obtain ⟨H3, r1, r2, r3, r4, r5⟩ := msug p3 ok c.2.2.1.1 c.2.2.1.2.1 c.2.2.2.1 hi p4 p5
      refine ⟨H3, ?_, p2.trans r2, r3, r5.trans p6⟩
      have vr : ∀ (α : Type) (k : ZM α), z_vr 13 (some (B + 95)) k Hm = k Hm := fun α k => if_pos Mm.1.1.1
      have vr2 : ∀ (α : Type) (k : ZM α), z_vr 13 (some (B + 95)) k H2 = k H2 := fun α k => if_pos p3.1.1.1
      have b52 : z_gI 13 52 (some (B + 95)) H3 = some (zI H3 (B + 95) 52, H3) := m_gI (f := zI H3) (g := zL H3) r3.1.1 52
      simp only [p_X12_suggestions, z_b, z_rt, ite_ap, vr, p1, n1, not_false_eq_true, if_true, vr2, r1, b52, r4.1]
  · refine call_th (kk := 1) hnc C M ok hT hN (n := 2) ?_ rfl (by decide) (fun Hm Mm => ?_)
    · rw [if_neg q] at ch
      show p_X11_suggestions (some B) (I z) (hI H (zI H)) = some (Sum.inr 2, znew (hI H (zI H)) (0, 0) 6)
      simp only [p_X11_suggestions, z_b, ite_ap, x_vr C.1, ch, not_true_eq_false, if_false, z_th]
    · obtain ⟨H2, p1, p2, p3, p4, p5, p6⟩ := mhas Mm ok c.2.2.1.1 c.2.2.1.2.1 hz
      rw [if_neg q] at p1 p6
      refine ⟨H2, 0, ?_, p2, p3, p6⟩
      have vr : ∀ (α : Type) (k : ZM α), z_vr 13 (some (B + 95)) k Hm = k Hm := fun α k => if_pos Mm.1.1.1
      simp only [p_X12_suggestions, z_b, ite_ap, vr, p1, not_true_eq_false, if_false, z_rt]
theorem call_suggestionsByAll (S : ST H B nc (dw, sl, rs, al, os, bs, ig, tl, sy, dr, t)) (hnc : nc < 512) (x : Int32) : Call H B nc (p_L_suggestionsByAll (some B) x (some (B + 141))) (p_X12_suggestionsByAll (some (B + 95)) x) := by
  obtain ⟨⟨lo, lb, li, wl, C⟩, M, ok, hT, hN⟩ := S
  obtain ⟨z, rfl, hz⟩ := int_of x
  have c := C.2.2.2.1
  have ch := chas (f := zI H) C.1 c.2.2.2.2.2.2.1 hz
  have n1 : ¬ ((1 : Int32) = 0) := by decide
  by_cases q : 0 ≤ z ∧ z < (wsOf t).length
  · obtain ⟨i, rfl⟩ : ∃ i : Nat, z = i := ⟨z.toNat, by omega⟩
    have hi : i < (wsOf t).length := by omega
    obtain ⟨f', a1, a2, a3⟩ := clist C (r := 100) (by omega) hi
    obtain ⟨b1, b2, b3⟩ := a3 (-1) (Or.inl rfl)
    have sl1 := (sug_len C i).1
    refine call_ok (H1 := hI H (zu f' B 12 (-1))) (v := I (Sug wl al t i).length) rfl hnc C M hT hN ?_ b2 b1 (ok.up hnc) (fun Hm Mm => ?_)
    · rw [if_pos q] at ch
      have vr0 : ∀ (α : Type) (k : ZM α), z_vr 3 (some (B + cRf 0)) k (hI H (zI H)) = k (hI H (zI H)) := fun α k => lx_vr C.1 k
      have sg : p_X2_suggestable (some (B + cRf 0)) (hI H (zI H)) = some (some (B + 19), hI H (zI H)) := by
        show p_X2_suggestable (some (B + 1)) (hI H (zI H)) = _
        have lx := C.1.2.1
        simp only [p_X2_suggestable, ite_ap, z_b, z_n, z_rt, z_vr, z_gI, z_gR, z_pI, z_pR, hI_K, hI_R, hI_I, hI_hI, hI_T, hI_N, hI_L, hI_D, sI_hI, wI_hI, if_true, lx.1, lx.2.2.2.2.2.2]
      have vr1 : ∀ (α : Type) (k : ZM α), z_vr 9 (some (B + cRf 1)) k (hI H (zI H)) = k (hI H (zI H)) := fun α k => o_vr C.1.os k
      have vr1' : ∀ (α : Type) (k : ZM α), z_vr 9 (some (B + cRf 1)) k (hI H (zu f' B 12 (-1))) = k (hI H (zu f' B 12 (-1))) := fun α k => o_vr C.1.os k
      have a1' : p_X8_list (some (B + cRf 1)) (some (B + cRf 5)) (I i) (some (B + 19)) 100 (hI H (zI H)) = some ((), hI H f') := a1
      have g7 : z_gI 9 7 (some (B + cRf 1)) (hI H (zu f' B 12 (-1))) = some (zu f' B 12 (-1) (B + 24) 7, hI H (zu f' B 12 (-1))) := o_gI C.1.os 7
      show p_X11_suggestionsByAll (some B) (I (i : Int)) (hI H (zI H)) = some (Sum.inl _, hI H (zu f' B 12 (-1)))
      simp only [p_X11_suggestionsByAll, p_X8_count, z_b, z_rt, ite_ap, x_vr C.1, ch, n1, not_false_eq_true, if_true, x_gR C.1 1 (by decide), x_gR C.1 5 (by decide), x_gR C.1 0 (by decide), vr0, sg, vr1, a1', x_pI C.1, vr1', g7, b3.1, z_xrt, sl1]
    · obtain ⟨H2, p1, p2, p3, p4, p5, p6⟩ := mhas Mm ok c.2.2.1.1 c.2.2.1.2.1 (z := (i : Int)) hz
      rw [if_pos q] at p1 p6
      obtain ⟨H3, r1, r2, r3, r4, r5⟩ := msug p3 ok c.2.2.1.1 c.2.2.1.2.1 c.2.2.2.1 hi p4 p5
      refine ⟨H3, ?_, p2.trans r2, r3, r5.trans p6⟩
      have vr : ∀ (α : Type) (k : ZM α), z_vr 13 (some (B + 95)) k Hm = k Hm := fun α k => if_pos Mm.1.1.1
      have vr2 : ∀ (α : Type) (k : ZM α), z_vr 13 (some (B + 95)) k H2 = k H2 := fun α k => if_pos p3.1.1.1
      have b52 : z_gI 13 52 (some (B + 95)) H3 = some (zI H3 (B + 95) 52, H3) := m_gI (f := zI H3) (g := zL H3) r3.1.1 52
      simp only [p_X12_suggestionsByAll, p_X12_suggestions, z_b, z_rt, ite_ap, vr, p1, n1, not_false_eq_true, if_true, vr2, r1, b52, r4.1]
  · refine call_th (kk := 1) hnc C M ok hT hN (n := 2) ?_ rfl (by decide) (fun Hm Mm => ?_)
    · rw [if_neg q] at ch
      show p_X11_suggestionsByAll (some B) (I z) (hI H (zI H)) = some (Sum.inr 2, znew (hI H (zI H)) (0, 0) 6)
      simp only [p_X11_suggestionsByAll, z_b, ite_ap, x_vr C.1, ch, not_true_eq_false, if_false, z_th]
    · obtain ⟨H2, p1, p2, p3, p4, p5, p6⟩ := mhas Mm ok c.2.2.1.1 c.2.2.1.2.1 hz
      rw [if_neg q] at p1 p6
      refine ⟨H2, 0, ?_, p2, p3, p6⟩
      have vr : ∀ (α : Type) (k : ZM α), z_vr 13 (some (B + 95)) k Hm = k Hm := fun α k => if_pos Mm.1.1.1
      simp only [p_X12_suggestionsByAll, p_X12_suggestions, z_b, ite_ap, vr, p1, not_true_eq_false, if_false, z_rt]
/-- is there such a suggestion: the class -/
theorem chs (S : CS H B dw sl rs al os bs ig tl sy dr t lo lb li wl) {z y : Int} (hz : -2147483648 ≤ z ∧ z < 2147483648) (hy : -2147483648 ≤ y ∧ y < 2147483648) :
    ∃ f', p_X11_hasSuggestion (some B) (I z) (I y) (hI H (zI H)) = some (if (0 ≤ z ∧ z < (wsOf t).length) ∧ 0 ≤ y ∧ y < (Sug wl al t z.toNat).length then 1 else 0, hI H f') ∧ CS (hI H f') B dw sl rs al os bs ig tl sy dr t lo lb li wl ∧ KC H (hI H f') B ∧
      ((0 ≤ z ∧ z < (wsOf t).length) → SuC f' (B + 24) (arL (B + 24)) (cst (ltr (wdT t z.toNat)) al (wdT t z.toNat).length) wl) := by
  have c := S.2.2.2.1
  have C := S.1
  have ch := chas (f := zI H) C c.2.2.2.2.2.2.1 hz
  have n1 : ¬ ((1 : Int32) = 0) := by decide
  by_cases q : 0 ≤ z ∧ z < (wsOf t).length
  · obtain ⟨i, rfl⟩ : ∃ i : Nat, z = i := ⟨z.toNat, by omega⟩
    have hi : i < (wsOf t).length := by omega
    obtain ⟨f', a1, a2, a3, a4⟩ := csug S hi
    obtain ⟨l1, l2⟩ := sug_len S i
    refine ⟨f', ?_, a2, a3, fun _ => a4⟩
    have e1 : I ((Sug wl al t i).length : Int) - 1 = I (((Sug wl al t i).length : Int) - 1) := by rw [show (1 : Int32) = I 1 from rfl, I_sub]
    have e2 : ((0 : Int32) ≤ I y ∧ I y ≤ I (((Sug wl al t i).length : Int) - 1)) ↔ (0 ≤ y ∧ y < (Sug wl al t i).length) := by
      rw [lit, I_le (by decide) (by omega), I_le (by omega) (by omega)]; omega
    rw [if_pos q] at ch
    have vr1 : ∀ (α : Type) (k : ZM α), z_vr 9 (some (B + cRf 1)) k (hI H f') = k (hI H f') := fun α k => o_vr C.os k
    have g7 : z_gI 9 7 (some (B + cRf 1)) (hI H f') = some (I (Sug wl al t i).length, hI H f') := (o_gI C.os 7).trans (by rw [a4.1, l1])
    have nt : ((i : Int)).toNat = i := rfl
    simp only [p_X11_hasSuggestion, p_X8_count, z_b, z_rt, ite_ap, x_vr C, ch, n1, not_false_eq_true, if_true, a1, x_gR (f := f') C 1 (by decide), vr1, g7, e1, isIn_eq, e2, bI_rz, q, true_and, nt]
  · refine ⟨zI H, ?_, S, KC.refl H B, fun z => absurd z q⟩
    rw [if_neg q] at ch
    simp only [p_X11_hasSuggestion, z_b, ite_ap, x_vr C, ch, not_true_eq_false, if_false, z_rz, q, false_and, true_or, if_true]
/-- is there such a suggestion: the reference -/
theorem mhs (S : MS H B dw sl rs al os bs ig tl sy dr t) (ok : AbOk dw sl rs os bs ig sy dr t nc) (Ro : OwR lo os) (Rb : OwR lb bs) (hW : BkW (sugO lo (sugM lb (madeOf rs sl []) [])) wl) (hl : ∀ i, (Sug wl al t i).length ≤ 1558) {z y : Int} (hz : -2147483648 ≤ z ∧ z < 2147483648) (hy : -2147483648 ≤ y ∧ y < 2147483648) :
    ∃ H2, p_X12_hasSuggestion (some (B + 95)) (I z) (I y) H = some (if (0 ≤ z ∧ z < (wsOf t).length) ∧ 0 ≤ y ∧ y < (Sug wl al t z.toNat).length then 1 else 0, H2) ∧ KM H H2 B ∧ MS H2 B dw sl rs al os bs ig tl sy dr t ∧
      ((0 ≤ z ∧ z < (wsOf t).length) → FoM (zI H2) (zL H2) (arM B) (B + 95) (Sug wl al t z.toNat)) ∧ zI H2 (B + 95) 58 = if (0 ≤ z ∧ z < (wsOf t).length) ∧ 0 ≤ y ∧ y < (Sug wl al t z.toNat).length then 0 else 1 := by
  obtain ⟨H2, p1, p2, p3, p4, p5, p6⟩ := mhas S ok Ro Rb hz
  have n1 : ¬ ((1 : Int32) = 0) := by decide
  have vr : ∀ (α : Type) (k : ZM α), z_vr 13 (some (B + 95)) k H = k H := fun α k => if_pos S.1.1.1
  by_cases q : 0 ≤ z ∧ z < (wsOf t).length
  · obtain ⟨i, rfl⟩ : ∃ i : Nat, z = i := ⟨z.toNat, by omega⟩
    have hi : i < (wsOf t).length := by omega
    rw [if_pos q] at p1 p6
    obtain ⟨H3, r1, r2, r3, r4, r5⟩ := msug p3 ok Ro Rb hW hi p4 p5
    have l2 := hl i
    have e1 : I ((Sug wl al t i).length : Int) - 1 = I (((Sug wl al t i).length : Int) - 1) := by rw [show (1 : Int32) = I 1 from rfl, I_sub]
    have e2 : ((0 : Int32) ≤ I y ∧ I y ≤ I (((Sug wl al t i).length : Int) - 1)) ↔ (0 ≤ y ∧ y < (Sug wl al t i).length) := by
      rw [lit, I_le (by decide) (by omega), I_le (by omega) (by omega)]; omega
    have nt : ((i : Int)).toNat = i := rfl
    have m := r3.1.1
    have vr2 : ∀ (α : Type) (k : ZM α), z_vr 13 (some (B + 95)) k H2 = k H2 := fun α k => if_pos p3.1.1.1
    have b52 : z_gI 13 52 (some (B + 95)) H3 = some (I (Sug wl al t i).length, H3) := (m_gI (f := zI H3) (g := zL H3) m 52).trans (by rw [r4.1]; rfl)
    have b58 : ∀ v, z_pI 13 58 (some (B + 95)) v H3 = some ((), hM H3 (zu (zI H3) (B + 95) 58 v) (zL H3)) := fun v => m_pI (f := zI H3) (g := zL H3) m 58 v
    have gj : ∀ v, z_gI 13 58 (some (B + 95)) (hM H3 (zu (zI H3) (B + 95) 58 v) (zL H3)) = some (v, hM H3 (zu (zI H3) (B + 95) 58 v) (zL H3)) := fun v => (m_gI (f := zu (zI H3) (B + 95) 58 v) (g := zL H3) m 58).trans (by rw [zu_same])
    have fo : ∀ v, FoM (zu (zI H3) (B + 95) 58 v) (zL H3) (arM B) (B + 95) (Sug wl al t i) := fun v => by
      refine ⟨by rw [zu_cell, if_neg (by decide)]; exact r4.1, fun k e he => ?_⟩
      rw [zu_ne (by have := arM_in (B := B) (j := 54) (by decide); omega)]
      exact r4.2 k e he
    by_cases u : 0 ≤ y ∧ y < (Sug wl al t i).length
    · refine ⟨hM H3 (zu (zI H3) (B + 95) 58 0) (zL H3), ?_, (p2.trans r2).trans (KM.pI _ _), r3.pI (Or.inl rfl), fun _ => fo 0, ?_⟩
      · rw [nt, if_pos ⟨q, u⟩]
        simp only [p_X12_hasSuggestion, p_X12_hasSuggestion_b33, p_X12_hasSuggestion_b36, z_b, ite_ap, vr, p1, n1, if_false, vr2, r1, b52, e1, min_eq, e2, if_pos u, b58, gj, not_true_eq_false, z_rz, or_true, if_true]
      · rw [nt, if_pos ⟨q, u⟩]; exact zu_same _ _ _ _
    · refine ⟨hM H3 (zu (zI H3) (B + 95) 58 1) (zL H3), ?_, (p2.trans r2).trans (KM.pI _ _), r3.pI (Or.inl rfl), fun _ => fo 1, ?_⟩
      · rw [nt, if_neg (fun y => u y.2)]
        simp only [p_X12_hasSuggestion, p_X12_hasSuggestion_b33, p_X12_hasSuggestion_b36, z_b, ite_ap, vr, p1, n1, if_false, vr2, r1, b52, e1, min_eq, e2, if_neg u, if_true, b58, gj, not_false_eq_true, z_rz, true_or]
      · rw [nt, if_neg (fun y => u y.2)]; exact zu_same _ _ _ _
  · rw [if_neg q] at p1 p6
    refine ⟨H2, ?_, p2, p3, fun z => absurd z q, ?_⟩
    · rw [if_neg (fun y => q y.1)]
      have b58 : z_gI 13 58 (some (B + 95)) H2 = some (1, H2) := (m_gI (f := zI H2) (g := zL H2) p3.1.1 58).trans (by rw [p6]; rfl)
      simp only [p_X12_hasSuggestion, p_X12_hasSuggestion_b36, z_b, ite_ap, vr, p1, if_true, b58, n1, not_false_eq_true, z_rz, true_or]
    · rw [if_neg (fun y => q y.1)]; exact p6
end
