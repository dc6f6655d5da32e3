section
variable {h : ZH} {M : Nat} {ar : Nat → Nat} {tl R sn bn : Nat → Nat} {nn : Nat}
theorem ToldC.frM {f f' : FI} {g g' : FL} {ss as : List Nat} (T : ToldC f (ar 25) tl) (F : MFr f f' g g' ar M ss as) (m : MAt h M ar) (h2 : 25 ∉ as) (h3 : ∀ i ∈ as, (mSz i).1 ≠ 0) : ToldC f' (ar 25) tl := fun i hi => by
  rw [(F.at_ m (j := 25) (by decide) h2 h3).1]; exact T i hi
theorem RdM.fr {f f' : FI} {g g' : FL} {ss as : List Nat} (D : RdM f ar M R sn nn) (F : MFr f f' g g' ar M ss as) (m : MAt h M ar) (h1 : 40 ∉ ss) (h2 : 43 ∉ as) (h4 : 45 ∉ as) (h3 : ∀ i ∈ as, (mSz i).1 ≠ 0) : RdM f' ar M R sn nn := by
  refine ⟨by rw [(F.1 40 h1).1]; exact D.1, fun i hi => ?_⟩
  rw [(F.at_ m (j := 43) (by decide) h2 h3).1, (F.at_ m (j := 45) (by decide) h4 h3).1]
  exact D.2 i hi
theorem ch38 (m : MAt h M ar) (g : FL) (N : SnOk sn bn nn) (hn : nn ≤ 50) (hR : ∀ j, j < nn → R j < 256) {i : Nat} (hi : i < nn) (h0 : R i ≠ 0) (r7 : Option Nat → Int32 → ZM Unit) :
    ∀ (c k n : Nat) (f : FI), k + c = 8 → c < n → RdM f ar M R sn nn → ToldC f (ar 25) tl → (i + 1 < bn i → FewM f (ar 49) (i + 1) (R (i + 1)) (fewN tl R (bn (i + 1) - 1 - (i + 1)) (i + 1))) → (∀ x, x < k → R i / 2 ^ x % 2 = 1 → f (ar 49) (8 * i + x) = I (fewN tl R (bn i - 1 - i) i (x + 1))) →
      ∃ f', p_X12_chooses_l38 r7 n (some M) (I i) (I k) (hM h f g) = r7 (some M) (I ((i : Int) - 1)) (hM h f' g) ∧ FewM f' (ar 49) i (R i) (fewN tl R (bn i - 1 - i) i) ∧ (∀ x, 8 * (i + 1) ≤ x → f' (ar 49) x = f (ar 49) x) ∧ MFr f f' g g ar M [] [49] := by
  have em : I (i : Int) + -1 = I ((i : Int) - 1) := by rw [show (-1 : Int32) = I (-1) from rfl, I_add]; rfl
  have n0 : ¬ (I (R i : Int) = 0) := by
    have := hR i hi
    rw [show (0 : Int32) = I ((0 : Nat) : Int) from rfl, I_eqN (by omega) (by decide)]; exact h0
  intro c
  induction c with
  | zero =>
    intro k n f hk hn' D T W X
    obtain ⟨n, rfl⟩ := Nat.exists_eq_add_of_lt hn'
    have e1 : (8 : Int32) ≤ I (k : Int) := by rw [lit, I_le (by decide) (by omega)]; omega
    refine ⟨f, ?_, ⟨fun x hx hs => X x (by omega) hs, fun z => absurd z h0⟩, fun _ _ => rfl, MFr.refl _ _ _ _ _ _⟩
    show p_X12_chooses_c38 _ _ _ _ _ _ = _
    simp only [p_X12_chooses_c38, p_X12_chooses_b89, z_n, ite_ap, e1, if_true, em]
  | succ c ih =>
    intro k n f hk hn' D T W X
    cases n with
    | zero => exact absurd hn' (Nat.not_lt_zero _)
    | succ n =>
      have e1 : ¬ (8 : Int32) ≤ I (k : Int) := by rw [lit, I_le (by decide) (by omega)]; omega
      have e2 : I (k : Int) + 1 = I ((k + 1 : Nat) : Int) := I_add _ 1
      have e3 : 8 * I (i : Int) + I (k : Int) = I ((8 * i + k : Nat) : Int) := by
        rw [show (8 : Int32) = I ((8 : Nat) : Int) from rfl, I_mn, I_an]
      have hh := has_eq (f := f) (g := g) m D hn hi (k := k) (by omega) (hR i hi)
      have step : ∀ v : Nat, (R i / 2 ^ k % 2 = 1 → v = fewN tl R (bn i - 1 - i) i (k + 1)) → ∃ f', p_X12_chooses_b82 r7 (p_X12_chooses_l38 r7 n) (some M) (I i) (I k) (some (ar 49)) (I ((8 * i + k : Nat) : Int)) (I v) (hM h f g) = r7 (some M) (I ((i : Int) - 1)) (hM h f' g) ∧ FewM f' (ar 49) i (R i) (fewN tl R (bn i - 1 - i) i) ∧ (∀ x, 8 * (i + 1) ≤ x → f' (ar 49) x = f (ar 49) x) ∧ MFr f f' g g ar M [] [49] := by
        intro v hv
        have F1 : MFr f (zu f (ar 49) (8 * i + k) (I v)) g g ar M [] [49] := MFr.sI m 49 _ _ (by decide) (by simp)
        obtain ⟨f', p1, p2, p3, p4⟩ := ih (k + 1) n (zu f (ar 49) (8 * i + k) (I v)) (by omega) (by omega) (D.fr F1 m (by simp) (by simp) (by simp) (by decide)) (T.frM F1 m (by simp) (by decide))
          (fun hlt => ⟨fun x hx hs => by rw [zu_cell, if_neg (by omega)]; exact (W hlt).1 x hx hs, fun z => by rw [zu_cell, if_neg (by omega)]; exact (W hlt).2 z⟩)
          (fun x hx hs => by
            rw [zu_cell]
            by_cases q : 8 * i + x = 8 * i + k
            · have hxk : x = k := by omega
              subst hxk
              rw [if_pos q, hv hs]
            · rw [if_neg q]; exact X x (by omega) hs)
        refine ⟨f', ?_, p2, fun x hx => ?_, F1.trans p4⟩
        · rw [← p1]
          simp only [p_X12_chooses_b82, z_b, z_n, m_sI m 49 808 (by decide) (show 8 * i + k < 808 by omega) (by decide), e2]
        · rw [p3 x hx, zu_cell, if_neg (by omega)]
      show ∃ f', p_X12_chooses_c38 r7 (p_X12_chooses_l38 r7 n) _ _ _ _ = _ ∧ _
      simp only [p_X12_chooses_c38, z_b, ite_ap, e1, if_false, m_gR m 45 (by decide), m_aI m 45 101 (by decide) (show i < 101 by omega) (by decide), (D.2 i hi).2, n0, m_gR m 49 (by decide), m_vr m, hh, e3]
      by_cases z : R i / 2 ^ k % 2 = 1
      · rw [if_pos z, if_neg (by decide)]
        have ff := fewestFrom_eq (f := f) (g := g) m D N T hn hi hR W (e := k + 1) (by omega)
        have ff' : p_X12_fewestFrom (some M) (I i) (I k) (hM h f g) = _ := ff
        simp only [m_vr m, ff']
        exact step _ (fun _ => rfl)
      · rw [if_neg z, if_pos rfl]
        exact step 0 (fun y => absurd y z)
theorem ch7 (m : MAt h M ar) (g : FL) (N : SnOk sn bn nn) (hn : nn ≤ 50) (hR : ∀ j, j < nn → R j < 256) :
    ∀ (c n : Nat) (f : FI), c ≤ nn → c < n → RdM f ar M R sn nn → ToldC f (ar 25) tl → (∀ j, c ≤ j → j < nn → FewM f (ar 49) j (R j) (fewN tl R (bn j - 1 - j) j)) → 
      ∃ f', p_X12_chooses_l7 n (some M) (I ((c : Int) - 1)) (hM h f g) = p_X12_chooses_l97 zFuel (some M) 0 (hM h f' g) ∧ (∀ j, j < nn → FewM f' (ar 49) j (R j) (fewN tl R (bn j - 1 - j) j)) ∧ MFr f f' g g ar M [] [49] := by
  intro c
  induction c with
  | zero =>
    intro n f hc hn' D T W
    obtain ⟨n, rfl⟩ := Nat.exists_eq_add_of_lt hn'
    refine ⟨f, ?_, fun j hj => W j (Nat.zero_le _) hj, MFr.refl _ _ _ _ _ _⟩
    have e1 : I (((0 : Nat) : Int) - 1) < 0 := by decide
    show p_X12_chooses_c7 _ _ _ _ = _
    simp only [p_X12_chooses_c7, p_X12_chooses_b95, ite_ap, e1, if_true]
  | succ c ih =>
    intro n f hc hn' D T W
    cases n with
    | zero => exact absurd hn' (Nat.not_lt_zero _)
    | succ n =>
      have hi : c < nn := by omega
      have ei : I (((c + 1 : Nat) : Int) - 1) = I (c : Int) := by rw [show ((c + 1 : Nat) : Int) - 1 = (c : Int) by omega]
      have e1 : ¬ I (c : Int) < 0 := by rw [lit, I_lt (by omega) (by decide)]; omega
      have q0 : (I (R c : Int) = 0) ↔ R c = 0 := by
        have := hR c hi
        rw [show (0 : Int32) = I ((0 : Nat) : Int) from rfl, I_eqN (by omega) (by decide)]
      obtain ⟨n1, n2, n3, n4, n5⟩ := N c hi
      have Wn : c + 1 < bn c → FewM f (ar 49) (c + 1) (R (c + 1)) (fewN tl R (bn (c + 1) - 1 - (c + 1)) (c + 1)) := fun hlt => W (c + 1) (Nat.le_refl _) (by omega)
      have fin : ∀ f1 : FI, FewM f1 (ar 49) c (R c) (fewN tl R (bn c - 1 - c) c) → (∀ x, 8 * (c + 1) ≤ x → f1 (ar 49) x = f (ar 49) x) → MFr f f1 g g ar M [] [49] → ∃ f', p_X12_chooses_l7 n (some M) (I ((c : Int) - 1)) (hM h f1 g) = p_X12_chooses_l97 zFuel (some M) 0 (hM h f' g) ∧ (∀ j, j < nn → FewM f' (ar 49) j (R j) (fewN tl R (bn j - 1 - j) j)) ∧ MFr f f' g g ar M [] [49] := by
        intro f1 v1 v2 v3
        obtain ⟨f', p1, p2, p3⟩ := ih n f1 (by omega) (by omega) (D.fr v3 m (by simp) (by simp) (by simp) (by decide)) (T.frM v3 m (by simp) (by decide)) (fun j h1 h2 => by
          by_cases q : j = c
          · rw [q]; exact v1
          · have w := W j (by omega) h2
            exact ⟨fun x hx hs => by rw [v2 _ (by omega)]; exact w.1 x hx hs, fun z => by rw [v2 _ (by omega)]; exact w.2 z⟩)
        exact ⟨f', p1, p2, v3.trans p3⟩
      show ∃ f', p_X12_chooses_c7 (p_X12_chooses_l7 n) _ _ _ = _ ∧ _
      simp only [p_X12_chooses_c7, p_X12_chooses_b36, z_b, ite_ap, ei, e1, if_false, m_gR m 45 (by decide), m_aI m 45 101 (by decide) (show c < 101 by omega) (by decide), (D.2 c hi).2, q0]
      by_cases z : R c = 0
      · rw [if_neg (fun y => y z)]
        have ff := fewestFrom_eq (f := f) (g := g) m D N T hn hi hR Wn (e := 0) (by omega)
        have ff' : p_X12_fewestFrom (some M) (I c) 8 (hM h f g) = _ := ff
        have e3 : 8 * I (c : Int) = I ((8 * c : Nat) : Int) := I_mn 8 _
        have F1 : MFr f (zu f (ar 49) (8 * c) (I (fewN tl R (bn c - 1 - c) c 0))) g g ar M [] [49] := MFr.sI m 49 _ _ (by decide) (by simp)
        obtain ⟨f', p1, p2, p3⟩ := fin (zu f (ar 49) (8 * c) (I (fewN tl R (bn c - 1 - c) c 0))) ⟨fun x hx hs => by rw [z] at hs; simp at hs, fun _ => zu_same _ _ _ _⟩ (fun x hx => by rw [zu_cell, if_neg (by omega)]) F1
        refine ⟨f', ?_, p2, p3⟩
        rw [← p1]
        have D1 := D.fr F1 m (by simp) (by simp) (by simp) (by decide)
        have em : I (c : Int) + -1 = I ((c : Int) - 1) := by rw [show (-1 : Int32) = I (-1) from rfl, I_add]; rfl
        simp only [m_gR m 49 (by decide), m_vr m, ff', e3, m_sI m 49 808 (by decide) (show 8 * c < 808 by omega) (by decide)]
        show p_X12_chooses_c38 _ _ _ _ _ _ = _
        have x0 : (I (R c : Int) = 0) = True := eq_true (q0.mpr z)
        have e8 : ¬ ((8 : Int32) ≤ 0) := by decide
        simp only [p_X12_chooses_c38, p_X12_chooses_b89, z_b, z_n, ite_ap, e8, if_false, m_gR m 45 (by decide), m_aI m 45 101 (by decide) (show c < 101 by omega) (by decide), (D1.2 c hi).2, x0, if_true, em]
      · rw [if_pos z]
        obtain ⟨f1, v0, v1, v2, v3⟩ := ch38 (tl := tl) m g N hn hR hi z (p_X12_chooses_l7 n) 8 0 zFuel f rfl (by unfold zFuel; omega) D T Wn (fun x hx => absurd hx (Nat.not_lt_zero _))
        obtain ⟨f', p1, p2, p3⟩ := fin f1 v1 v2 v3
        refine ⟨f', ?_, p2, p3⟩
        rw [← p1, ← v0]
        rfl
/-- the best reading of a word -/
theorem ch147 (m : MAt h M ar) {f : FI} {g : FL} (hn : nn ≤ 50) (hR : ∀ j, j < nn → R j < 256) {i : Nat} (hi : i < nn) (r97 : Option Nat → Int32 → ZM Unit) {F : Nat → Nat} (hF : ∀ e, F e ≤ 50) (D : RdM f ar M R sn nn) (T : ToldC f (ar 25) tl) (W : FewM f (ar 49) i (R i) F) {p : Nat} (hp : p ≤ 8) :
    ∀ (c k best least n : Nat), k + c = 8 → c < n → best ≤ k → (best = 0 → least = 100000) → least ≤ 100000 →
      ∃ v4, p_X12_chooses_l147 r97 n (some M) (I i) (I (pr p)) (I (pr best)) (if best = 0 then 0 else I least) (I k) (hM h f g) = p_X12_chooses_b224 r97 (some M) (I i) (I (pr p)) (I (pr (boL tl F (R i) p c k best least))) (hM h f g) ∧ v4 = (0 : Nat) := by
  intro c
  induction c with
  | zero =>
    intro k best least n hk hn' hb inv hl
    obtain ⟨n, rfl⟩ := Nat.exists_eq_add_of_lt hn'
    have e1 : (8 : Int32) ≤ I (k : Int) := by rw [lit, I_le (by decide) (by omega)]; omega
    refine ⟨0, ?_, rfl⟩
    show p_X12_chooses_c147 _ _ _ _ _ _ _ _ _ = p_X12_chooses_b224 r97 (some M) (I i) (I (pr p)) (I (pr best)) (hM h f g)
    simp only [p_X12_chooses_c147, ite_ap, e1, if_true]
  | succ c ih =>
    intro k best least n hk hn' hb inv hl
    cases n with
    | zero => exact absurd hn' (Nat.not_lt_zero _)
    | succ n =>
      have e1 : ¬ (8 : Int32) ≤ I (k : Int) := by rw [lit, I_le (by decide) (by omega)]; omega
      have e2 : I (k : Int) + 1 = I ((k + 1 : Nat) : Int) := I_add _ 1
      have e3 : 8 * I (i : Int) + I (k : Int) = I ((8 * i + k : Nat) : Int) := by
        rw [show (8 : Int32) = I ((8 : Nat) : Int) from rfl, I_mn, I_an]
      have hh := has_eq (f := f) (g := g) m D hn hi (k := k) (by omega) (hR i hi)
      have fk := hF (k + 1)
      have bk1 := bkn_le tl p (k + 1)
      have n1 : ¬ ((1 : Int32) = 0) := by decide
      have pk : I (k : Int) = I (pr (k + 1)) := (pr_nat k).symm
      refine ⟨0, ?_, rfl⟩
      show p_X12_chooses_c147 r97 (p_X12_chooses_l147 r97 n) _ _ _ _ _ _ _ = p_X12_chooses_b224 r97 (some M) (I i) (I (pr p)) (I (pr (if R i / 2 ^ k % 2 = 1 ∧ F (k + 1) + bkn tl p (k + 1) < least then boL tl F (R i) p c (k + 1) (k + 1) (F (k + 1) + bkn tl p (k + 1)) else boL tl F (R i) p c (k + 1) best least))) (hM h f g)
      by_cases z : R i / 2 ^ k % 2 = 1
      · have Wk := W.1 k (by omega) z
        have go : p_X12_chooses_b186 r97 (p_X12_chooses_l147 r97 n) (some M) (I i) (I (pr p)) (I (pr best)) (if best = 0 then 0 else I least) (I k) (I (F (k + 1))) (I (bkn tl p (k + 1))) (hM h f g) = p_X12_chooses_b224 r97 (some M) (I i) (I (pr p)) (I (pr (if R i / 2 ^ k % 2 = 1 ∧ F (k + 1) + bkn tl p (k + 1) < least then boL tl F (R i) p c (k + 1) (k + 1) (F (k + 1) + bkn tl p (k + 1)) else boL tl F (R i) p c (k + 1) best least))) (hM h f g) := by
          obtain ⟨-, tk, -⟩ := ih (k + 1) (k + 1) (F (k + 1) + bkn tl p (k + 1)) n (by omega) (by omega) (Nat.le_refl _) (fun q => absurd q (Nat.succ_ne_zero _)) (by omega)
          rw [if_neg (Nat.succ_ne_zero _), ← pk] at tk
          simp only [p_X12_chooses_b186, p_X12_chooses_b211, p_X12_chooses_b218, z_b, z_n, ite_ap, I_an, m_vr m, hh, e2, pr_m1 (show best ≤ 1000 by omega)]
          rw [if_pos z, if_neg n1]
          by_cases q : best = 0
          · rw [if_pos q, if_pos ⟨z, by rw [inv q]; omega⟩]
            exact tk
          · rw [if_neg q, if_neg q]
            by_cases y : F (k + 1) + bkn tl p (k + 1) < least
            · rw [if_neg (show ¬ I (least : Int) ≤ I ((F (k + 1) + bkn tl p (k + 1) : Nat) : Int) by rw [I_le (by omega) (by omega)]; omega), if_pos ⟨z, y⟩]
              exact tk
            · rw [if_pos (show I (least : Int) ≤ I ((F (k + 1) + bkn tl p (k + 1) : Nat) : Int) by rw [I_le (by omega) (by omega)]; omega), if_neg (fun w => y w.2)]
              obtain ⟨-, kp, -⟩ := ih (k + 1) best least n (by omega) (by omega) (by omega) inv hl
              rw [if_neg q] at kp
              exact kp
        rw [← go]
        simp only [p_X12_chooses_c147, z_b, ite_ap, e1, if_false, m_gR m 49 (by decide), e3, m_aI m 49 808 (by decide) (show 8 * i + k < 808 by omega) (by decide), Wk, pr_m1 (show p ≤ 1000 by omega), p_X12_chooses_b185]
        by_cases z0 : p = 0
        · have : bkn tl p (k + 1) = 0 := by rw [z0]; unfold bkn bk; rw [if_pos (Or.inl rfl)]; rfl
          rw [if_pos z0, this]
          rfl
        · rw [if_neg z0]
          have bq := breaks_eq (f := f) (g := g) m T (a := p - 1) (b := k) (by omega) (by omega)
          rw [show p - 1 + 1 = p by omega] at bq
          rw [pr_succ p z0]
          simp only [m_vr m, bq]
          unfold bkn
          cases bk tl p (k + 1) with
          | true => rw [if_neg (show ¬ bI true = 0 by decide)]; rfl
          | false => rw [if_pos (show bI false = 0 from rfl)]; rfl
      · rw [if_neg (show ¬ (R i / 2 ^ k % 2 = 1 ∧ F (k + 1) + bkn tl p (k + 1) < least) from fun y => z y.1)]
        obtain ⟨-, kp, -⟩ := ih (k + 1) best least n (by omega) (by omega) (by omega) inv hl
        have sk : ∀ a b : Int32, p_X12_chooses_b186 r97 (p_X12_chooses_l147 r97 n) (some M) (I i) (I (pr p)) (I (pr best)) (if best = 0 then 0 else I least) (I k) a b (hM h f g) = p_X12_chooses_b224 r97 (some M) (I i) (I (pr p)) (I (pr (boL tl F (R i) p c (k + 1) best least))) (hM h f g) := by
          intro a b
          rw [← kp]
          simp only [p_X12_chooses_b186, p_X12_chooses_b218, z_b, z_n, ite_ap, m_vr m, hh, e2]
          rw [if_neg z, if_pos rfl]
        simp only [p_X12_chooses_c147, z_b, ite_ap, e1, if_false, m_gR m 49 (by decide), e3, m_aI m 49 808 (by decide) (show 8 * i + k < 808 by omega) (by decide), pr_m1 (show p ≤ 1000 by omega), p_X12_chooses_b185, sk]
        by_cases z0 : p = 0
        · rw [if_pos z0]
        · rw [if_neg z0]
          have bq := breaks_eq (f := f) (g := g) m T (a := p - 1) (b := k) (by omega) (by omega)
          rw [pr_succ p z0]
          simp only [m_vr m, bq]
          rw [← pr_succ p z0]
          simp only [sk, ite_self]
end
