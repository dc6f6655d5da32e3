section
variable {h : ZH} {M : Nat} {ar : Nat → Nat} {f f' : FI} {g g' : FL}
/-- the loop over the signs -/
theorem fin_l (m : MAt h M ar) {t : List Nat} (hs : ∀ c ∈ t, isSg c) :
    ∀ (r : List Nat) (k n : Nat) (s : Sc) (f : FI) (g : FL), t.drop k = r → k + r.length = t.length → r.length < n → SOk t k s → TxM f ar M t → WsM f g ar M s.2.2.1 →
      ∃ f' g', p_X12_finds_l14 n (some M) (I s.2.2.2.length) (bI s.1) (bI s.2.1) (I k) (hM h f g) = some ((), hM h f' g') ∧ WsM f' g' ar M (scanL r k s).2.2.1 ∧ MFr f f' g g' ar M [40] [41, 42, 43, 44] := by
  intro r
  induction r with
  | nil =>
    intro k n s f g h1 h2 h3 S T W
    obtain ⟨n, rfl⟩ := Nat.exists_eq_add_of_lt h3
    have hk : k = t.length := by simpa using h2
    have e1 : I (t.length : Int) ≤ I (k : Int) := by
      rw [hk]; have := T.2.1; rw [I_le (by omega) (by omega)]; omega
    refine ⟨f, g, ?_, W, MFr.refl _ _ _ _ _ _⟩
    show p_X12_finds_c14 _ _ _ _ _ _ _ = _
    simp only [p_X12_finds_c14, z_b, z_rt, ite_ap, m_gI m, T.1, e1, if_true]
  | cons c r ih =>
    intro k n s f g h1 h2 h3 S T W
    obtain ⟨hat, hd⟩ := drop_at h1
    cases n with
    | zero => exact absurd h3 (Nat.not_lt_zero _)
    | succ n =>
      simp only [List.length_cons] at h2 h3
      have t100 := T.2.1
      have hcs := hs c (List.mem_of_getElem? hat)
      have hc := sg_lt hcs
      have e1 : ¬ I (t.length : Int) ≤ I (k : Int) := by rw [I_le (by omega) (by omega)]; omega
      have e2 : I (k : Int) + 1 = I ((k + 1 : Nat) : Int) := I_add _ 1
      have lt : k < 100 := by omega
      have sg := T.2.2 k c hat
      have S' := sok_step S hat
      have q46 : (I (c : Int) = 46) ↔ c = 46 := I_eqN (k := 46) (by omega) (by decide)
      have q60 : (I (c : Int) = 60) ↔ c = 60 := I_eqN (k := 60) (by omega) (by decide)
      have q62 : (I (c : Int) = 62) ↔ c = 62 := I_eqN (k := 62) (by omega) (by decide)
      obtain ⟨mk, inw, ws, es⟩ := s
      show ∃ f' g', p_X12_finds_c14 (p_X12_finds_l14 n) (some M) (I es.length) (bI mk) (bI inw) (I k) (hM h f g) = _ ∧ _
      have b1 : ¬ (bI true = 0) := by decide
      have b0 : bI false = 0 := rfl
      have n1 : ¬ ((1 : Int32) = 0) := by decide
      have z0 : I (es.length : Int) + 0 = I (es.length : Int) := I_add _ 0
      have z1 : I (es.length : Int) + 1 = I ((es.length + 1 : Nat) : Int) := I_add _ 1
      simp only [scanL]
      have off : ∀ (mk' : Bool) (es' : List (Nat × Nat)), scStep (mk, inw, ws, es) k c = (mk', false, ws, es') → p_X12_finds_c14 (p_X12_finds_l14 n) (some M) (I es.length) (bI mk) (bI inw) (I k) (hM h f g) = p_X12_finds_l14 n (some M) (I es'.length) (bI mk') (bI false) (I ((k + 1 : Nat) : Int)) (hM h f g) → ∃ f' g', p_X12_finds_c14 (p_X12_finds_l14 n) (some M) (I es.length) (bI mk) (bI inw) (I k) (hM h f g) = some ((), hM h f' g') ∧ WsM f' g' ar M (scanL r (k + 1) (scStep (mk, inw, ws, es) k c)).2.2.1 ∧ MFr f f' g g' ar M [40] [41, 42, 43, 44] := by
        intro mk' es' hst hrun
        rw [hst] at S' ⊢
        rw [hrun]
        exact ih (k + 1) n (mk', false, ws, es') f g hd (by omega) (by omega) S' T W
      by_cases q : mk = false ∧ 97 ≤ c ∧ c ≤ 104
      · obtain ⟨qa, qb, qc⟩ := q
        subst qa
        obtain ⟨f1, g1, v1, v2, v3⟩ := fin69 (f := f) (g := g) m (p_X12_finds_l14 n) 0 0 ⟨qb, qc⟩ lt S W
        have hst : scStep (false, inw, ws, es) k c = (false, true, addL (scW (false, inw, ws, es) k) (c - 97), es) := if_pos ⟨rfl, qb, qc⟩
        rw [hst] at S' ⊢
        obtain ⟨f', g', p1, p2, p3⟩ := ih (k + 1) n _ f1 g1 hd (by omega) (by omega) S' (T.fr v3 m (by simp) (by simp) (by decide)) v2
        refine ⟨f', g', ?_, p2, v3.trans p3⟩
        rw [← p1]
        have hlt : (97 ≤ c ∧ c ≤ 104) = True := eq_true ⟨qb, qc⟩
        have x60 : ¬ c = 60 := by omega
        have x46 : ¬ c = 46 := by omega
        simp only [p_X12_finds_c14, z_b, ite_ap, m_gI m, T.1, e1, if_false, m_gR m 33 (by decide), m_aI m 33 100 (by decide) lt (by decide), sg, b0, not_true_eq_false, not_false_eq_true, q60, x60, if_true, p_X12_finds_b51, mIsLt_eq _ hc, hlt, n1, v1, p_X12_finds_b204, q46, x46, p_X12_finds_b223, p_X12_finds_b224, p_X12_finds_b246, p_X12_finds_b247, z_n, z0, e2]
        rfl
      · -- no letter of a word
        have b204 : ∀ (v2 v6 : Int32), p_X12_finds_b131 (p_X12_finds_l14 n) (some M) (I es.length) v2 (I k) (I c) v6 0 = p_X12_finds_b204 (p_X12_finds_l14 n) (some M) (I es.length) v2 (I k) (I c) v6 0 := fun v2 v6 => by
          unfold p_X12_finds_b131
          exact if_pos rfl
        have b69 : ∀ (v2 v3 v6 : Int32), p_X12_finds_b69 (p_X12_finds_l14 n) (some M) (I es.length) v2 v3 (I k) (I c) v6 0 = p_X12_finds_b204 (p_X12_finds_l14 n) (some M) (I es.length) v2 (I k) (I c) v6 0 := fun v2 v3 v6 => by
          unfold p_X12_finds_b69
          exact (if_pos rfl).trans (b204 _ _)
        have mark : p_X12_finds_b46 (p_X12_finds_l14 n) (some M) (I es.length) (bI inw) (I k) (I c) (bI mk) (hM h f g) = p_X12_finds_l14 n (some M) (I es.length) (bI (!(mk && c == 62))) (bI false) (I ((k + 1 : Nat) : Int)) (hM h f g) := by
          simp only [p_X12_finds_b46, p_X12_finds_b51, ite_ap, n1, not_false_eq_true, if_true, p_X12_finds_b68, b69, p_X12_finds_b204, p_X12_finds_b223, p_X12_finds_b224, z_n, z0, if_false, p_X12_finds_b242, p_X12_finds_b246, p_X12_finds_b247, e2, q62]
          cases mk with
          | false => rw [if_pos b0]; rfl
          | true =>
            rw [if_neg b1]
            by_cases z62 : c = 62
            · rw [if_pos z62]; subst z62; rfl
            · rw [if_neg z62]
              have : (!(true && c == 62)) = true := by simp [z62]
              rw [this]; rfl
        cases mk with
        | true =>
          have hrun : p_X12_finds_c14 (p_X12_finds_l14 n) (some M) (I es.length) (bI true) (bI inw) (I k) (hM h f g) = p_X12_finds_l14 n (some M) (I es.length) (bI (!(true && c == 62))) (bI false) (I ((k + 1 : Nat) : Int)) (hM h f g) := by
            rw [← mark]
            simp only [p_X12_finds_c14, z_b, ite_ap, m_gI m, T.1, e1, if_false, m_gR m 33 (by decide), m_aI m 33 100 (by decide) lt (by decide), sg]
            rw [if_pos b1]
          refine off _ es ?_ hrun
          unfold scStep
          rw [if_neg q, if_neg (fun z => by cases z.2)]
          by_cases z60 : c = 60
          · rw [if_pos z60]; subst z60; rfl
          · rw [if_neg z60]
            by_cases z62 : c = 62
            · rw [if_pos z62]; subst z62; rfl
            · rw [if_neg z62]
              have : (!(true && c == 62)) = true := by simp [z62]
              rw [this]
        | false =>
          have nl : ¬ (97 ≤ c ∧ c ≤ 104) := fun z => q ⟨rfl, z⟩
          by_cases z60 : c = 60
          · have hrun : p_X12_finds_c14 (p_X12_finds_l14 n) (some M) (I es.length) (bI false) (bI inw) (I k) (hM h f g) = p_X12_finds_l14 n (some M) (I es.length) (bI (!(false && c == 62))) (bI false) (I ((k + 1 : Nat) : Int)) (hM h f g) := by
              rw [← mark]
              simp only [p_X12_finds_c14, z_b, ite_ap, m_gI m, T.1, e1, if_false, m_gR m 33 (by decide), m_aI m 33 100 (by decide) lt (by decide), sg, q60, z60]
              rw [if_neg (fun z => z b0), if_neg (fun z => z rfl)]
            refine off _ es ?_ hrun
            unfold scStep
            rw [if_neg q, if_neg (by omega), if_pos z60]
            rfl
          · have hrun0 : p_X12_finds_c14 (p_X12_finds_l14 n) (some M) (I es.length) (bI false) (bI inw) (I k) (hM h f g) = p_X12_finds_b204 (p_X12_finds_l14 n) (some M) (I es.length) 0 (I k) (I c) 0 0 (hM h f g) := by
              rw [← b69 0 (bI inw) 0]
              simp only [p_X12_finds_c14, z_b, ite_ap, m_gI m, T.1, e1, if_false, m_gR m 33 (by decide), m_aI m 33 100 (by decide) lt (by decide), sg, q60]
              rw [if_neg (fun z => z b0), if_pos z60]
              simp only [p_X12_finds_b51, ite_ap, z_b, mIsLt_eq _ hc]
              rw [if_neg (fun z => z trivial), if_neg nl, if_pos rfl]
              rfl
            by_cases z46 : c = 46
            · refine off false (es ++ [(k + 1, ws.length)]) ?_ (hrun0.trans ?_)
              · unfold scStep
                rw [if_neg q, if_pos ⟨z46, rfl⟩]
              · simp only [p_X12_finds_b204, p_X12_finds_b224, p_X12_finds_b246, p_X12_finds_b247, ite_ap, not_true_eq_false, if_false, if_true, q46, z46, z_n, z1, e2, List.length_append, List.length_singleton]
                rfl
            · refine off false es ?_ (hrun0.trans ?_)
              · unfold scStep
                rw [if_neg q, if_neg (fun z => z46 z.1), if_neg z60]
                split <;> rfl
              · simp only [p_X12_finds_b204, p_X12_finds_b223, p_X12_finds_b224, p_X12_finds_b246, p_X12_finds_b247, ite_ap, not_true_eq_false, not_false_eq_true, if_false, if_true, q46, z46, z_n, z0, e2]
                rfl
theorem finds_eq (m : MAt h M ar) {t : List Nat} (hs : ∀ c ∈ t, isSg c) (T : TxM f ar M t) :
    ∃ f' g', p_X12_finds (some M) (hM h f g) = some ((), hM h f' g') ∧ WsM f' g' ar M (wsOf t) ∧ MFr f f' g g' ar M [40] [41, 42, 43, 44] := by
  have F1 : MFr f (zu f M 40 0) g g ar M [40] [41, 42, 43, 44] := MFr.pI 40 0 (by simp)
  obtain ⟨f', g', p1, p2, p3⟩ := fin_l m hs t 0 zFuel sc0 (zu f M 40 0) g rfl (by omega) (by have := T.2.1; unfold zFuel; omega) (SOk0 t) (T.fr F1 m (by simp) (by simp) (by decide)) ⟨by rw [zu_same]; rfl, fun i w hw => by cases hw⟩
  refine ⟨f', g', ?_, p2, F1.trans p3⟩
  have p1' : p_X12_finds_l14 zFuel (some M) 0 0 0 0 (hM h (zu f M 40 0) g) = some ((), hM h f' g') := p1
  simp only [p_X12_finds, z_b, m_pI m, p1']
end
