section
variable {h : ZH} {M : Nat} {ar : Nat → Nat} {tl R sn bn : Nat → Nat} {nn : Nat}
theorem chE_le (i : Nat) : chE tl R sn bn i ≤ 8 := by rw [chE_eq]; exact bestOf_le _ _ _ _
theorem prvE_le {E : Nat → Nat} (hE : ∀ i, E i ≤ 8) (i : Nat) : prvE sn E i ≤ 8 := by
  unfold prvE
  split
  · exact hE _
  · decide
/-- readings are chosen, breaks are marked, of the words from i on -/
theorem ch97 (m : MAt h M ar) (g : FL) (N : SnOk sn bn nn) (hn : nn ≤ 50) (hR : ∀ j, j < nn → R j < 256) :
    ∀ (c i n : Nat) (f : FI), i + c = nn → c < n → RdM f ar M R sn nn → ToldC f (ar 25) tl → (∀ j, j < nn → FewM f (ar 49) j (R j) (fewN tl R (bn j - 1 - j) j)) → (∀ j, j < i → f (ar 46) j = I (pr (chE tl R sn bn j)) ∧ f (ar 47) j = I (bkn tl (prvE sn (chE tl R sn bn) j) (chE tl R sn bn j))) →
      ∃ f', p_X12_chooses_l97 n (some M) (I i) (hM h f g) = some ((), hM h f' g) ∧ (∀ j, j < nn → f' (ar 46) j = I (pr (chE tl R sn bn j)) ∧ f' (ar 47) j = I (bkn tl (prvE sn (chE tl R sn bn) j) (chE tl R sn bn j))) ∧ MFr f f' g g ar M [] [46, 47] := by
  intro c
  induction c with
  | zero =>
    intro i n f hi hn' D T W X
    obtain ⟨n, rfl⟩ := Nat.exists_eq_add_of_lt hn'
    have e1 : I (nn : Int) ≤ I (i : Int) := by rw [I_le (by omega) (by omega)]; omega
    refine ⟨f, ?_, fun j hj => X j (by omega), MFr.refl _ _ _ _ _ _⟩
    show p_X12_chooses_c97 _ _ _ _ = _
    simp only [p_X12_chooses_c97, z_b, z_rt, ite_ap, m_gI m, D.1, e1, if_true]
  | succ c ih =>
    intro i n f hi hn' D T W X
    cases n with
    | zero => exact absurd hn' (Nat.not_lt_zero _)
    | succ n =>
      have hin : i < nn := by omega
      have e1 : ¬ I (nn : Int) ≤ I (i : Int) := by rw [I_le (by omega) (by omega)]; omega
      have e2 : I (i : Int) + 1 = I ((i + 1 : Nat) : Int) := I_add _ 1
      have e3 : I (i : Int) ≤ 0 ↔ ¬ 0 < i := by rw [lit, I_le (by omega) (by decide)]; omega
      have hp := prvE_le (sn := sn) (E := chE tl R sn bn) chE_le i
      have hE := chE_le (tl := tl) (R := R) (sn := sn) (bn := bn) i
      have hF : ∀ e, fewN tl R (bn i - 1 - i) i e ≤ 50 := fun e => by
        have := fewN_le tl R (bn i - 1 - i) i e
        have := (N i hin).2.1
        omega
      -- with the reading ahead
      have go : p_X12_chooses_b138 (p_X12_chooses_l97 n) (some M) (I i) (I (pr (prvE sn (chE tl R sn bn) i))) (hM h f g) = p_X12_chooses_l97 n (some M) (I ((i + 1 : Nat) : Int)) (hM h (zu (zu f (ar 46) i (I (pr (chE tl R sn bn i)))) (ar 47) i (I (bkn tl (prvE sn (chE tl R sn bn) i) (chE tl R sn bn i)))) g) := by
        obtain ⟨-, b, -⟩ := ch147 (f := f) (g := g) m hn hR hin (p_X12_chooses_l97 n) hF D T (W i hin) hp 8 0 0 100000 zFuel rfl (by unfold zFuel; omega) (Nat.le_refl _) (fun _ => rfl) (Nat.le_refl _)
        have hbo : boL tl (fewN tl R (bn i - 1 - i) i) (R i) (prvE sn (chE tl R sn bn) i) 8 0 0 100000 = chE tl R sn bn i := (chE_eq i).symm
        rw [hbo] at b
        have b' : p_X12_chooses_b138 (p_X12_chooses_l97 n) (some M) (I i) (I (pr (prvE sn (chE tl R sn bn) i))) (hM h f g) = _ := b
        rw [b']
        have T' : ToldC (zu f (ar 46) i (I (pr (chE tl R sn bn i)))) (ar 25) tl := fun x hx => by rw [zu_ne (ar_ne m (by decide) (by decide) (by decide))]; exact T x hx
        simp only [p_X12_chooses_b224, p_X12_chooses_b259, p_X12_chooses_b260, z_b, z_n, ite_ap, m_gR m 46 (by decide), m_sI m 46 101 (by decide) (show i < 101 by omega) (by decide), m_gR m 47 (by decide), pr_m1 (show prvE sn (chE tl R sn bn) i ≤ 1000 by omega), pr_m1 (show chE tl R sn bn i ≤ 1000 by omega), m_sI m 47 101 (by decide) (show i < 101 by omega) (by decide), e2]
        unfold bkn
        by_cases z1 : chE tl R sn bn i = 0
        · rw [if_pos z1]
          have : bk tl (prvE sn (chE tl R sn bn) i) (chE tl R sn bn i) = false := by unfold bk; rw [if_pos (Or.inr z1)]
          rw [this]; rfl
        · rw [if_neg z1]
          by_cases z2 : prvE sn (chE tl R sn bn) i = 0
          · rw [if_pos z2]
            have : bk tl (prvE sn (chE tl R sn bn) i) (chE tl R sn bn i) = false := by unfold bk; rw [if_pos (Or.inl z2)]
            rw [this]; rfl
          · rw [if_neg z2]
            have bq := breaks_eq (f := zu f (ar 46) i (I (pr (chE tl R sn bn i)))) (g := g) m T' (a := prvE sn (chE tl R sn bn) i - 1) (b := chE tl R sn bn i - 1) (by omega) (by omega)
            rw [show prvE sn (chE tl R sn bn) i - 1 + 1 = prvE sn (chE tl R sn bn) i by omega, show chE tl R sn bn i - 1 + 1 = chE tl R sn bn i by omega] at bq
            rw [← pr_succ _ z2, ← pr_succ _ z1] at bq
            simp only [m_vr m, bq, m_sI m 47 101 (by decide) (show i < 101 by omega) (by decide)]
            cases bk tl (prvE sn (chE tl R sn bn) i) (chE tl R sn bn i) with
            | true => rw [if_neg (show ¬ bI true = 0 by decide)]; rfl
            | false => rw [if_pos (show bI false = 0 from rfl)]; rfl
      have F1 : MFr f (zu (zu f (ar 46) i (I (pr (chE tl R sn bn i)))) (ar 47) i (I (bkn tl (prvE sn (chE tl R sn bn) i) (chE tl R sn bn i)))) g g ar M [] [46, 47] := (MFr.sI m 46 _ _ (by decide) (by simp)).trans (MFr.sI m 47 _ _ (by decide) (by simp))
      have n67 := ar_ne m (i := 46) (j := 47) (by decide) (by decide) (by decide)
      obtain ⟨f', p1, p2, p3⟩ := ih (i + 1) n _ (by omega) (by omega) (D.fr F1 m (by simp) (by simp) (by simp) (by decide)) (T.frM F1 m (by simp) (by decide))
        (fun j hj => ⟨fun x hx hs => by rw [(F1.at_ m (j := 49) (by decide) (by simp) (by decide)).1]; exact (W j hj).1 x hx hs, fun z => by rw [(F1.at_ m (j := 49) (by decide) (by simp) (by decide)).1]; exact (W j hj).2 z⟩)
        (fun j hj => by
          rw [zu_ne n67, zu_cell, zu_cell, zu_ne n67.symm]
          by_cases q : j = i
          · rw [if_pos q, if_pos q, q]; exact ⟨rfl, rfl⟩
          · rw [if_neg q, if_neg q]; exact X j (by omega))
      refine ⟨f', ?_, p2, F1.trans p3⟩
      rw [← p1, ← go]
      show p_X12_chooses_c97 (p_X12_chooses_l97 n) _ _ _ = _
      simp only [p_X12_chooses_c97, p_X12_chooses_b137, z_b, ite_ap, m_gI m, D.1, e1, if_false, e3]
      by_cases q : 0 < i
      · rw [if_neg (fun z => z q)]
        have e4 : I (i : Int) - 1 = I ((i - 1 : Nat) : Int) := I_sn _ 1 (by omega)
        have b1 := (N (i - 1) (by omega)).2.2.2.2
        have b2 := (N i hin).2.2.2.2
        have e5 : (I (sn (i - 1) : Int) = I (sn i)) ↔ sn (i - 1) = sn i := I_eqN (by omega) (by omega)
        simp only [m_gR m 43 (by decide), e4, m_aI m 43 101 (by decide) (show i - 1 < 101 by omega) (by decide), m_aI m 43 101 (by decide) (show i < 101 by omega) (by decide), (D.2 (i - 1) (by omega)).1, (D.2 i hin).1, e5]
        by_cases z : sn (i - 1) = sn i
        · rw [if_neg (fun y => y z)]
          simp only [m_gR m 46 (by decide), m_aI m 46 101 (by decide) (show i - 1 < 101 by omega) (by decide), (X (i - 1) (by omega)).1]
          have : prvE sn (chE tl R sn bn) i = chE tl R sn bn (i - 1) := by unfold prvE; rw [if_pos ⟨q, z⟩]
          rw [this]
        · rw [if_pos z]
          have : prvE sn (chE tl R sn bn) i = 0 := by unfold prvE; rw [if_neg (fun y => z y.2)]
          rw [this]; rfl
      · rw [if_pos q]
        have : prvE sn (chE tl R sn bn) i = 0 := by unfold prvE; rw [if_neg (fun y => q y.1)]
        rw [this]; rfl
theorem chooses_eq (m : MAt h M ar) {f : FI} (g : FL) (N : SnOk sn bn nn) (hn : nn ≤ 50) (hR : ∀ j, j < nn → R j < 256) (D : RdM f ar M R sn nn) (T : ToldC f (ar 25) tl) :
    ∃ f', p_X12_chooses (some M) (hM h f g) = some ((), hM h f' g) ∧ (∀ j, j < nn → f' (ar 46) j = I (pr (chE tl R sn bn j)) ∧ f' (ar 47) j = I (bkn tl (prvE sn (chE tl R sn bn) j) (chE tl R sn bn j))) ∧ MFr f f' g g ar M [] [46, 47, 49] := by
  obtain ⟨f1, v1, v2, v3⟩ := ch7 (tl := tl) m g N hn hR nn zFuel f (Nat.le_refl _) (by unfold zFuel; omega) D T (fun j h1 h2 => absurd h2 (by omega))
  obtain ⟨f', p1, p2, p3⟩ := ch97 (tl := tl) m g N hn hR nn 0 zFuel f1 (by omega) (by unfold zFuel; omega) (D.fr v3 m (by simp) (by simp) (by simp) (by decide)) (T.frM v3 m (by simp) (by decide)) v2 (fun j hj => absurd hj (Nat.not_lt_zero _))
  refine ⟨f', ?_, p2, (v3.mono (by simp) (by simp)).trans (p3.mono (by simp) (by simp))⟩
  have e : I (nn : Int) - 1 = I ((nn : Int) - 1) := by rw [show (1 : Int32) = I 1 from rfl, I_sub]
  simp only [p_X12_chooses, z_b, z_n, m_gI m, D.1, e]
  exact v1.trans p1
end
