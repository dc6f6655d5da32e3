section
variable {h : ZH} {M : Nat} {ar : Nat → Nat} {f : FI} {g : FL}
theorem sty_step (m : MAt h M ar) {n k : Nat} (hn : n < 8) (hk : k < 3) (h26 : f M 26 = I n) (r : Option Nat → Int32 → Int32 → ZM Int32) (v1 : Int32) :
    p_X12_style_c69 r (some M) v1 (I k) (hM h f g) = r (some M) v1 (I ((k + 1 : Nat) : Int)) (hM h (zu f (ar 27) (3 * n + k) (f (ar 27) (24 + k))) (zu g (ar 28) (3 * n + k) (g (ar 28) (24 + k)))) := by
  have e1 : ¬ (3 : Int32) ≤ I (k : Int) := by rw [lit, I_le (by decide) (by omega)]; omega
  have e24 : 24 + I (k : Int) = I ((24 + k : Nat) : Int) := I_add 24 _
  have e3 : 3 * I (n : Int) + I (k : Int) = I ((3 * n + k : Nat) : Int) := by rw [show (3 : Int32) = I ((3 : Nat) : Int) from rfl, I_mn, I_an]
  have e2 : I (k : Int) + 1 = I ((k + 1 : Nat) : Int) := I_add _ 1
  have n27 := (m.2.1 27 (by decide)).2.2
  have c26 : ∀ i v, zu f (ar 27) i v M 26 = I n := fun i v => by rw [zu_ne n27.symm]; exact h26
  simp only [p_X12_style_c69, z_b, z_n, ite_ap, e1, if_false, m_gR m 27 (by decide), m_gI m, h26, e24, m_aI m 27 27 (by decide) (show 24 + k < 27 by omega) (by decide), e3, m_sI m 27 27 (by decide) (show 3 * n + k < 27 by omega) (by decide), m_gR m 28 (by decide), c26, m_aL m 28 27 (by decide) (show 24 + k < 27 by omega) (by decide), m_sL m 28 27 (by decide) (show 3 * n + k < 27 by omega) (by decide), e2]
/-- the drafted items go to the style's place -/
theorem sty_l (m : MAt h M ar) {n : Nat} (hn : n < 8) (h26 : f M 26 = I n) (v1 : Int32) :
    ∃ f' g', p_X12_style_l69 zFuel (some M) v1 0 (hM h f g) = p_X12_style_b124 (some M) v1 (hM h f' g') ∧ (∀ j, j < 3 → f' (ar 27) (3 * n + j) = f (ar 27) (24 + j) ∧ g' (ar 28) (3 * n + j) = g (ar 28) (24 + j)) ∧ (∀ i, i < 3 * n → f' (ar 27) i = f (ar 27) i ∧ g' (ar 28) i = g (ar 28) i) ∧ MFr f f' g g' ar M [] [27, 28] := by
  obtain ⟨z, hz⟩ : ∃ m, zFuel = m + 4 := ⟨zFuel - 4, by unfold zFuel; rfl⟩
  have n27 := (m.2.1 27 (by decide)).2.2
  have n28 := (m.2.1 28 (by decide)).2.2
  have e4 : (3 : Int32) ≤ I ((3 : Nat) : Int) := by decide
  refine ⟨zu (zu (zu f (ar 27) (3 * n + 0) (f (ar 27) (24 + 0))) (ar 27) (3 * n + 1) (zu f (ar 27) (3 * n + 0) (f (ar 27) (24 + 0)) (ar 27) (24 + 1))) (ar 27) (3 * n + 2) (zu (zu f (ar 27) (3 * n + 0) (f (ar 27) (24 + 0))) (ar 27) (3 * n + 1) (zu f (ar 27) (3 * n + 0) (f (ar 27) (24 + 0)) (ar 27) (24 + 1)) (ar 27) (24 + 2)), zu (zu (zu g (ar 28) (3 * n + 0) (g (ar 28) (24 + 0))) (ar 28) (3 * n + 1) (zu g (ar 28) (3 * n + 0) (g (ar 28) (24 + 0)) (ar 28) (24 + 1))) (ar 28) (3 * n + 2) (zu (zu g (ar 28) (3 * n + 0) (g (ar 28) (24 + 0))) (ar 28) (3 * n + 1) (zu g (ar 28) (3 * n + 0) (g (ar 28) (24 + 0)) (ar 28) (24 + 1)) (ar 28) (24 + 2)), ?_, ?_, ?_, ?_⟩
  · rw [hz]
    refine (sty_step m hn (k := 0) (by decide) h26 (p_X12_style_l69 (z + 3)) v1).trans ?_
    refine (sty_step m hn (k := 1) (by decide) (by rw [zu_ne n27.symm]; exact h26) (p_X12_style_l69 (z + 2)) v1).trans ?_
    refine (sty_step m hn (k := 2) (by decide) (by rw [zu_ne n27.symm, zu_ne n27.symm]; exact h26) (p_X12_style_l69 (z + 1)) v1).trans ?_
    show p_X12_style_c69 (p_X12_style_l69 z) _ _ _ _ = _
    simp only [p_X12_style_c69, ite_ap, e4, if_true]
  · intro j hj
    have hj' : j = 0 ∨ j = 1 ∨ j = 2 := by omega
    rcases hj' with rfl | rfl | rfl
    · rw [zu_cell, if_neg (by omega), zu_cell, if_neg (by omega), zu_same, zu_cell, if_neg (by omega), zu_cell, if_neg (by omega), zu_same]
      exact ⟨rfl, rfl⟩
    · rw [zu_cell, if_neg (by omega), zu_same, zu_cell, if_neg (by omega), zu_cell, if_neg (by omega), zu_same, zu_cell, if_neg (by omega)]
      exact ⟨rfl, rfl⟩
    · rw [zu_same, zu_cell, if_neg (by omega), zu_cell, if_neg (by omega), zu_same, zu_cell, if_neg (by omega), zu_cell, if_neg (by omega)]
      exact ⟨rfl, rfl⟩
  · intro i hi
    rw [zu_cell, if_neg (by omega), zu_cell, if_neg (by omega), zu_cell, if_neg (by omega), zu_cell, if_neg (by omega), zu_cell, if_neg (by omega), zu_cell, if_neg (by omega)]
    exact ⟨rfl, rfl⟩
  · refine ⟨fun j _ => ⟨by rw [zu_ne n27.symm, zu_ne n27.symm, zu_ne n27.symm], by rw [zu_ne n28.symm, zu_ne n28.symm, zu_ne n28.symm]⟩, fun b h1 h2 => ⟨?_, ?_⟩⟩
    · rw [zu_ne (fun q => h2 (by simp [q])), zu_ne (fun q => h2 (by simp [q])), zu_ne (fun q => h2 (by simp [q]))]
    · rw [zu_ne (fun q => h2 (by simp [q])), zu_ne (fun q => h2 (by simp [q])), zu_ne (fun q => h2 (by simp [q]))]
end
section
variable {H H' H1 : ZH} {B nc : Nat} {f f' : FI} {g g' : FL} {dw dw' : Wd} {sl sl' : List St} {rs rs' : List Ru} {al al' : Nat → Nat → Bool} {os bs ig os' bs' ig' : List Ow} {tl tl' : Nat → Nat} {sy sy' : List Sty} {dr dr' : List It} {t t' : List Nat} {lo lb li lo' lb' li' : Bk} {wl wl' : List Wd}
/-- a style more: the reference -/
theorem mstyle {Hm : ZH} (Mm : MS Hm B dw sl rs al os bs ig tl sy dr t) {k : Nat} (hl : sy.length < 8) (hs : SyOk (dr, k, dw)) :
    ∃ H2, p_X12_style_b55 (some (B + 95)) (I (k : Int)) (some (B + 95)) 0 Hm = some (I sy.length, H2) ∧ KM Hm H2 B ∧ MS H2 B [] sl rs al os bs ig tl (sy ++ [(dr, k, dw)]) [] t ∧ zI H2 (B + 95) 58 = 0 := by
  have m := Mm.1.1
  have M0 : MS (hM Hm (zu (zI Hm) (B + 95) 58 0) (zL Hm)) B dw sl rs al os bs ig tl sy dr t := Mm.pI (Or.inl rfl)
  have S0 : SyM (zu (zI Hm) (B + 95) 58 0) (zL Hm) (arM B) (B + 95) sy := M0.2.2.2.2.2.2.2.2.2.1
  have D0 : DrM (zu (zI Hm) (B + 95) 58 0) (zL Hm) (arM B) dr := M0.2.2.2.2.2.2.2.2.2.2.1.1
  have g0 : zL Hm (B + 95) 0 = J (mN dw) := Mm.2.1
  have nn : ∀ j, (mSz j).1 ≠ 0 → arM B j ≠ B + 95 := fun j hj => (m.2.1 j hj).2.2
  have inj : ∀ i j, (mSz i).1 ≠ 0 → (mSz j).1 ≠ 0 → i ≠ j → arM B i ≠ arM B j := fun i j hi hj hij e => hij (m.2.2 i j hi hj e)
  obtain ⟨f1, g1, p1, p2, p3, p4⟩ := sty_l (h := Hm) (f := zu (zI Hm) (B + 95) 58 0) (g := zL Hm) m hl S0.1 (I (k : Int))
  let n := sy.length
  have d3 : dr.length ≤ 3 := hs.2.1
  let fb := zu (zu (zu (zu f1 (arM B 29) n (I dr.length)) (arM B 30) n (I k)) (B + 95) 26 (I ((n + 1 : Nat) : Int))) (arM B 29) 8 0
  let gb := zu g1 (arM B 31) n (J (mN dw))
  have F : MFr (zu (zI Hm) (B + 95) 58 0) fb (zL Hm) gb (arM B) (B + 95) [26] [27, 28, 29, 30, 31] := by
    refine (p4.mono (by simp) (by simp)).trans ⟨fun j hj => ⟨?_, ?_⟩, fun b' h1 h2 => ⟨?_, zu_ne (fun q => h2 (by simp [q])) _ _⟩⟩
    · show zu (zu (zu (zu f1 (arM B 29) n _) (arM B 30) n _) (B + 95) 26 _) (arM B 29) 8 0 (B + 95) j = _
      rw [zu_ne (nn 29 (by decide)).symm, zu_cell, if_neg (fun q => hj (by simp [q])), zu_ne (nn 30 (by decide)).symm, zu_ne (nn 29 (by decide)).symm]
    · show zu g1 (arM B 31) n _ (B + 95) j = _
      rw [zu_ne (nn 31 (by decide)).symm]
    · show zu (zu (zu (zu f1 (arM B 29) n _) (arM B 30) n _) (B + 95) 26 _) (arM B 29) 8 0 b' = _
      rw [zu_ne (fun q => h2 (by simp [q])), zu_ne h1, zu_ne (fun q => h2 (by simp [q])), zu_ne (fun q => h2 (by simp [q]))]
  obtain ⟨k1, k2, k3, k4, k5, k6, k7, k8, k9, k10, k11, k12⟩ := MC.comps Mm.1 M0.2 F (by decide)
  have v27 : fb (arM B 27) = f1 (arM B 27) := by
    show zu (zu (zu (zu f1 (arM B 29) n _) (arM B 30) n _) (B + 95) 26 _) (arM B 29) 8 0 (arM B 27) = _
    rw [zu_ne (inj 27 29 (by decide) (by decide) (by decide)), zu_ne (nn 27 (by decide)), zu_ne (inj 27 30 (by decide) (by decide) (by decide)), zu_ne (inj 27 29 (by decide) (by decide) (by decide))]
  have v28 : gb (arM B 28) = g1 (arM B 28) := zu_ne (inj 28 31 (by decide) (by decide) (by decide)) _ _
  have v29 : ∀ i, fb (arM B 29) i = if i = 8 then 0 else if i = n then I dr.length else zu (zI Hm) (B + 95) 58 0 (arM B 29) i := fun i => by
    show zu (zu (zu (zu f1 (arM B 29) n _) (arM B 30) n _) (B + 95) 26 _) (arM B 29) 8 0 (arM B 29) i = _
    rw [zu_cell]
    by_cases e : i = 8
    · rw [if_pos e, if_pos e]
    · rw [if_neg e, if_neg e, zu_ne (nn 29 (by decide)), zu_ne (inj 29 30 (by decide) (by decide) (by decide)), zu_cell, (p4.at_ m (j := 29) (by decide) (by decide) (by decide)).1]
  have v30 : ∀ i, fb (arM B 30) i = if i = n then I k else zu (zI Hm) (B + 95) 58 0 (arM B 30) i := fun i => by
    show zu (zu (zu (zu f1 (arM B 29) n _) (arM B 30) n _) (B + 95) 26 _) (arM B 29) 8 0 (arM B 30) i = _
    rw [zu_ne (inj 30 29 (by decide) (by decide) (by decide)), zu_ne (nn 30 (by decide)), zu_cell, zu_ne (inj 30 29 (by decide) (by decide) (by decide)), (p4.at_ m (j := 30) (by decide) (by decide) (by decide)).1]
  have v31 : ∀ i, gb (arM B 31) i = if i = n then J (mN dw) else zL Hm (arM B 31) i := fun i => by
    show zu g1 (arM B 31) n _ (arM B 31) i = _
    rw [zu_cell, (p4.at_ m (j := 31) (by decide) (by decide) (by decide)).2]
  have S1 : SyM fb gb (arM B) (B + 95) (sy ++ [(dr, k, dw)]) := by
    obtain ⟨s1, s2, s3⟩ := S0
    refine ⟨?_, by rw [List.length_append, List.length_singleton]; omega, fun i s hi => ?_⟩
    · show zu (zu (zu (zu f1 (arM B 29) n _) (arM B 30) n _) (B + 95) 26 _) (arM B 29) 8 0 (B + 95) 26 = _
      rw [zu_ne (nn 29 (by decide)).symm, zu_same, List.length_append]; rfl
    · rcases snoc_get.mp hi with h2 | ⟨h1, h2⟩
      · have hil := lt_of_get h2
        have ne : ¬ i = n := by show ¬ i = sy.length; omega
        obtain ⟨⟨r1, r2, r3, r4⟩, r5⟩ := s3 i s h2
        refine ⟨⟨by rw [v29, if_neg (by omega), if_neg ne]; exact r1, by rw [v30, if_neg ne]; exact r2, by rw [v31, if_neg ne]; exact r3, fun j it hj => ?_⟩, r5⟩
        have hj3 := lt_of_get hj
        have h13 := r5.2.1
        obtain ⟨q1, q2⟩ := r4 j it hj
        rw [v27, v28, (p3 (3 * i + j) (by omega)).1, (p3 (3 * i + j) (by omega)).2]
        exact ⟨q1, q2⟩
      · have hin : i = n := h1
        have hn8 : ¬ n = 8 := by show ¬ sy.length = 8; omega
        rw [h2]
        refine ⟨⟨by rw [v29, hin, if_neg hn8, if_pos rfl], by rw [v30, if_pos hin], by rw [v31, if_pos hin], fun j it hj => ?_⟩, hs⟩
        have hj3 : j < dr.length := lt_of_get hj
        obtain ⟨q1, q2⟩ := D0.2 j it hj
        rw [v27, v28, hin, (p2 j (by omega)).1, (p2 j (by omega)).2]
        exact ⟨q1, q2⟩
  have kD : DrM fb gb (arM B) [] ∧ ∀ i, rs.length ≤ i → fb (arM B 15) i = 0 := by
    refine ⟨⟨by rw [v29, if_pos rfl]; rfl, fun j it hj => by cases hj⟩, fun i hi => ?_⟩
    rw [(F.at_ m (j := 15) (by decide) (by decide) (by decide)).1]
    exact M0.2.2.2.2.2.2.2.2.2.2.1.2 i hi
  have mc : MC fb gb B dw sl rs al os bs ig tl (sy ++ [(dr, k, dw)]) [] t := ⟨k1 (by decide), k2 (by decide) (by decide), k3 (by decide) (by decide), k4 (by decide), k5 (by decide) (by decide), k6 (by decide) (by decide), k7 (by decide) (by decide), k8 (by decide), S1, kD, k11 (by decide) (by decide), k12 (by decide) (by decide) (by decide)⟩
  refine ⟨hM Hm fb (zu gb (B + 95) 0 (J (mN []))), ?_, ?_, ⟨Mm.1, MC.dft mc⟩, ?_⟩
  · have g00 : (0 : Int32) ≤ 0 := by decide
    have f26 : f1 (B + 95) 26 = I n := by rw [(p4.1 26 (by decide)).1]; exact S0.1
    have f29 : f1 (arM B 29) 8 = I dr.length := by rw [(p4.at_ m (j := 29) (by decide) (by decide) (by decide)).1]; exact D0.1
    have g10 : g1 (B + 95) 0 = J (mN dw) := by rw [(p4.1 0 (by decide)).2]; exact g0
    have n8 : n < 8 := hl
    have e8 : (8 : Int32) = I ((8 : Nat) : Int) := rfl
    have e1 : I (n : Int) + 1 = I ((n + 1 : Nat) : Int) := I_add _ 1
    have e2 : I ((n + 1 : Nat) : Int) - 1 = I (n : Int) := by rw [show (1 : Int32) = I ((1 : Nat) : Int) from rfl, I_sn _ _ (by omega), Nat.add_sub_cancel]
    have e0 : (0 : Int64) = J (mN []) := rfl
    have c26 : ∀ a, a ≠ B + 95 → ∀ (f : FI) i v, zu f a i v (B + 95) 26 = f (B + 95) 26 := fun a ha f i v => by rw [zu_ne ha.symm]
    have b124 : p_X12_style_b124 (some (B + 95)) (I (k : Int)) (hM Hm f1 g1) = some (I n, hM Hm fb (zu gb (B + 95) 0 (J (mN [])))) := by
      simp only [p_X12_style_b124, z_b, z_rt, m_gR m 29 (by decide), m_gI m, f26, e8, m_aI m 29 9 (by decide) (i := 8) (by decide) (by decide), f29, m_sI m 29 9 (by decide) (show n < 9 by omega) (by decide), m_gR m 30 (by decide), c26 _ (nn 29 (by decide)), m_sI m 30 9 (by decide) (show n < 9 by omega) (by decide), m_gR m 31 (by decide), c26 _ (nn 30 (by decide)), m_gL m, g10, m_sL m 31 9 (by decide) (show n < 9 by omega) (by decide), e1, m_pI m, m_sI m 29 9 (by decide) (i := 8) (by decide) (by decide), m_pL m, zu_same, e2, e0]
      rfl
    show p_X12_style_b55 _ _ _ _ (hM Hm (zI Hm) (zL Hm)) = _
    simp only [p_X12_style_b55, z_b, z_rt, ite_ap, m_pI m, m_gI m, zu_same, g00, if_true]
    exact p1.trans b124
  · exact (KM.pI 58 0).trans ((KM.mk_ (H := hM Hm (zu (zI Hm) (B + 95) 58 0) (zL Hm)) m F (by decide)).trans ⟨_, _, rfl, fun b' hb => ⟨rfl, zu_ne (by omega) _ _⟩⟩)
  · show fb (B + 95) 58 = 0
    rw [(F.1 58 (by decide)).1, zu_same]
end
