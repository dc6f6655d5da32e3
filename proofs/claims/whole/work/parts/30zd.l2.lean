/-! the class finds the words -/
def bI (b : Bool) : Int32 := if b = true then 1 else 0
section
variable {h : ZH} {tx : Nat} {rw ar : Nat → Nat} {f f' f'' : FI}
theorem end_eq (o : Ob h 10 tx rw ar tSz) {ws : List Wr} {es : List (Nat × Nat)} (W : WsC f tx ar ws) (E : EsC f tx ar es) (he : es.length ≤ 100) (e : Nat) :
    ∃ f', p_X9_endSentence (some tx) (I e) (hI h f) = some ((), hI h f') ∧ WsC f' tx ar ws ∧ EsC f' tx ar (es ++ [(e, ws.length)]) ∧ TFr f f' tx ar := by
  have n45 := o_ne o (i := 4) (j := 5) (by decide) (by decide) (by decide)
  have n4x := o_nx o (j := 4) (by decide)
  have n5x := o_nx o (j := 5) (by decide)
  have n14 := o_ne o (i := 1) (j := 4) (by decide) (by decide) (by decide)
  have n24 := o_ne o (i := 2) (j := 4) (by decide) (by decide) (by decide)
  have n34 := o_ne o (i := 3) (j := 4) (by decide) (by decide) (by decide)
  have n15 := o_ne o (i := 1) (j := 5) (by decide) (by decide) (by decide)
  have n25 := o_ne o (i := 2) (j := 5) (by decide) (by decide) (by decide)
  have n35 := o_ne o (i := 3) (j := 5) (by decide) (by decide) (by decide)
  have n1x := o_nx o (j := 1) (by decide)
  have n2x := o_nx o (j := 2) (by decide)
  have n3x := o_nx o (j := 3) (by decide)
  have hlen : (es ++ [(e, ws.length)]).length = es.length + 1 := by simp
  refine ⟨zu (zu (zu f tx 8 (I ((es.length + 1 : Nat) : Int))) (ar 4) (es.length + 1) (I e)) (ar 5) (es.length + 1) (I ws.length), ?_, ⟨?_, fun i w hw => ?_⟩, ⟨?_, ?_, ?_, fun i e' he' => ?_⟩, ((Fr.zu (by simp)).trans (Fr.zu (by simp))).trans (Fr.zu (by simp)), fun j _ h8 => ?_⟩
  · have e1 : I (es.length : Int) + 1 = I ((es.length + 1 : Nat) : Int) := I_add _ 1
    have e2 : zu f tx 8 (I ((es.length + 1 : Nat) : Int)) tx 8 = I ((es.length + 1 : Nat) : Int) := zu_same _ _ _ _
    have e3 : zu (zu f tx 8 (I ((es.length + 1 : Nat) : Int))) (ar 4) (es.length + 1) (I e) tx 8 = I ((es.length + 1 : Nat) : Int) := by rw [zu_ne n4x.symm]; exact zu_same _ _ _ _
    have e4 : zu (zu f tx 8 (I ((es.length + 1 : Nat) : Int))) (ar 4) (es.length + 1) (I e) tx 7 = I ws.length := by rw [zu_ne n4x.symm, zu_cell, if_neg (by decide)]; exact W.1
    have lt : es.length + 1 < 102 := by omega
    simp only [p_X9_endSentence, z_b, z_rt, o_gI o, E.1, e1, o_pI o, o_gR o 4 (by decide), o_rv o 4 (by decide), o_set o 4 102 rfl lt, e2, o_gR o 5 (by decide), o_rv o 5 (by decide), o_set o 5 102 rfl lt, e3, e4]
  · rw [zu_ne n5x.symm, zu_ne n4x.symm, zu_cell, if_neg (by decide)]; exact W.1
  · rw [zu_ne n15, zu_ne n14, zu_ne n1x, zu_ne n25, zu_ne n24, zu_ne n2x, zu_ne n35, zu_ne n34, zu_ne n3x]; exact W.2 i w hw
  · rw [zu_ne n5x.symm, zu_ne n4x.symm, zu_same, hlen]
  · rw [zu_ne n45, zu_cell, if_neg (by omega), zu_ne n4x]; exact E.2.1
  · rw [zu_cell, if_neg (by omega), zu_ne n45.symm, zu_ne n5x]; exact E.2.2.1
  · rw [zu_ne n45, zu_cell, zu_ne n4x, zu_cell, zu_ne n45.symm, zu_ne n5x]
    rcases snoc_get.mp he' with z | ⟨z1, z⟩
    · have := lt_of_get z
      rw [if_neg (by omega), if_neg (by omega)]
      exact E.2.2.2 i e' z
    · subst z
      subst z1
      rw [if_pos rfl, if_pos rfl]
      exact ⟨rfl, rfl⟩
  · rw [zu_ne n5x.symm, zu_ne n4x.symm, zu_cell, if_neg h8]
theorem add_eq (o : Ob h 10 tx rw ar tSz) {t : List Nat} {k : Nat} {es : List (Nat × Nat)} {ws : List Wr} {inw : Bool} (S : SOk t k (false, inw, ws, es)) (hk : k < 100) {l : Nat} (hl : l < 8) (W : WsC f tx ar ws) (E : EsC f tx ar es) :
    ∃ f', p_X9_addLetter (some tx) (I k) (I l) (bI inw) (hI h f) = some ((), hI h f') ∧ WsC f' tx ar (addL (scW (false, inw, ws, es) k) l) ∧ EsC f' tx ar es ∧ TFr f f' tx ar := by
  obtain ⟨s1, s2, s3, s4, s5⟩ := S
  cases inw with
  | true =>
    obtain ⟨-, u, w, w1, w2, w3⟩ := s3 rfl
    have w1' : ws = u ++ [w] := w1
    subst w1'
    have s1' : 2 * (u ++ [w]).length ≤ k + 1 := s1
    rw [List.length_append] at s1'
    simp at s1'
    obtain ⟨f', v1, v2, v3, v4⟩ := add50 o hl (u := u) (w := w) (by omega) (by omega) W E
    refine ⟨f', ?_, ?_, v3, v4⟩
    · rw [← v1]
      show p_X9_addLetter (some tx) (I k) (I l) 1 (hI h f) = _
      simp only [p_X9_addLetter, ite_ap]
      rw [if_pos (by decide)]
    · show WsC f' tx ar (addL (u ++ [w]) l)
      rw [addL_snoc]; exact v2
  | false =>
    have s1' : 2 * ws.length ≤ k + 0 := s1
    have lt : ws.length < 50 := by omega
    have n12 := o_ne o (i := 1) (j := 2) (by decide) (by decide) (by decide)
    have n13 := o_ne o (i := 1) (j := 3) (by decide) (by decide) (by decide)
    have n23 := o_ne o (i := 2) (j := 3) (by decide) (by decide) (by decide)
    have n1x := o_nx o (j := 1) (by decide)
    have n2x := o_nx o (j := 2) (by decide)
    have n3x := o_nx o (j := 3) (by decide)
    have n14 := o_ne o (i := 1) (j := 4) (by decide) (by decide) (by decide)
    have n24 := o_ne o (i := 2) (j := 4) (by decide) (by decide) (by decide)
    have n34 := o_ne o (i := 3) (j := 4) (by decide) (by decide) (by decide)
    have n15 := o_ne o (i := 1) (j := 5) (by decide) (by decide) (by decide)
    have n25 := o_ne o (i := 2) (j := 5) (by decide) (by decide) (by decide)
    have n35 := o_ne o (i := 3) (j := 5) (by decide) (by decide) (by decide)
    have n4x := o_nx o (j := 4) (by decide)
    have n5x := o_nx o (j := 5) (by decide)
    let f1 : FI := zu (zu (zu (zu f (ar 1) ws.length (I k)) (ar 2) ws.length 0) (ar 3) ws.length 1) tx 7 (I ((ws.length + 1 : Nat) : Int))
    have W1 : WsC f1 tx ar (ws ++ [(k, [], es.length)]) := by
      refine ⟨?_, fun i w hw => ?_⟩
      · show zu _ tx 7 _ tx 7 = _
        rw [zu_same, List.length_append]; rfl
      · show zu _ tx 7 _ (ar 1) i = _ ∧ zu _ tx 7 _ (ar 2) i = _ ∧ zu _ tx 7 _ (ar 3) i = _
        rw [zu_ne n1x, zu_ne n13, zu_ne n12, zu_cell, zu_ne n2x, zu_ne n23, zu_cell, zu_ne n12.symm, zu_ne n3x, zu_cell, zu_ne n23.symm, zu_ne n13.symm]
        rcases snoc_get.mp hw with z | ⟨z1, z⟩
        · have := lt_of_get z
          rw [if_neg (by omega), if_neg (by omega), if_neg (by omega)]
          exact W.2 i w z
        · subst z
          subst z1
          rw [if_pos rfl, if_pos rfl, if_pos rfl]
          exact ⟨rfl, rfl, rfl⟩
    have E1 : EsC f1 tx ar es := by
      refine ⟨?_, ?_, ?_, fun i e he => ?_⟩
      · show zu _ tx 7 _ tx 8 = _
        rw [zu_cell, if_neg (by decide), zu_ne n3x.symm, zu_ne n2x.symm, zu_ne n1x.symm]; exact E.1
      · show zu _ tx 7 _ (ar 4) 0 = _
        rw [zu_ne n4x, zu_ne n34.symm, zu_ne n24.symm, zu_ne n14.symm]; exact E.2.1
      · show zu _ tx 7 _ (ar 5) 0 = _
        rw [zu_ne n5x, zu_ne n35.symm, zu_ne n25.symm, zu_ne n15.symm]; exact E.2.2.1
      · show zu _ tx 7 _ (ar 4) _ = _ ∧ zu _ tx 7 _ (ar 5) _ = _
        rw [zu_ne n4x, zu_ne n34.symm, zu_ne n24.symm, zu_ne n14.symm, zu_ne n5x, zu_ne n35.symm, zu_ne n25.symm, zu_ne n15.symm]; exact E.2.2.2 i e he
    have F1 : TFr f f1 tx ar := by
      refine ⟨(((Fr.zu (by simp)).trans (Fr.zu (by simp))).trans (Fr.zu (by simp))).trans (Fr.zu (by simp)), fun j h7 _ => ?_⟩
      show zu _ tx 7 _ tx j = _
      rw [zu_cell, if_neg h7, zu_ne n3x.symm, zu_ne n2x.symm, zu_ne n1x.symm]
    obtain ⟨f', v1, v2, v3, v4⟩ := add50 o hl (u := ws) (w := (k, [], es.length)) lt (by simp) W1 E1
    refine ⟨f', ?_, ?_, v3, F1.trans v4⟩
    · rw [← v1]
      show p_X9_addLetter (some tx) (I k) (I l) 0 (hI h f) = _
      have e1 : I (ws.length : Int) + 1 = I ((ws.length + 1 : Nat) : Int) := I_add _ 1
      have g1 : zu f (ar 1) ws.length (I k) tx 7 = I ws.length := by rw [zu_ne n1x.symm]; exact W.1
      have g2 : zu (zu f (ar 1) ws.length (I k)) (ar 2) ws.length 0 tx 7 = I ws.length := by rw [zu_ne n2x.symm]; exact g1
      have g3 : zu (zu (zu f (ar 1) ws.length (I k)) (ar 2) ws.length 0) (ar 3) ws.length 1 tx 7 = I ws.length := by rw [zu_ne n3x.symm]; exact g2
      simp only [p_X9_addLetter, ite_ap, z_b, o_gR o 1 (by decide), o_gI o, W.1, o_rv o 1 (by decide), o_set o 1 50 rfl lt, o_gR o 2 (by decide), o_rv o 2 (by decide), g1, o_set o 2 50 rfl lt, o_gR o 3 (by decide), o_rv o 3 (by decide), g2, o_set o 3 50 rfl lt, g3, e1, o_pI o]
      rw [if_neg (by decide)]
    · show WsC f' tx ar (addL (ws ++ [(k, [], es.length)]) l)
      rw [addL_snoc]; exact v2
theorem isLt_eq (h : ZH) {c : Nat} (hc : c < 1000) : p_X11_isLetter (I c) h = some (if 97 ≤ c ∧ c ≤ 104 then 1 else 0, h) := by
  have e1 : (97 : Int32) ≤ I (c : Int) ↔ 97 ≤ c := by rw [lit, I_le (by decide) (by omega)]; omega
  have e2 : I (c : Int) ≤ (104 : Int32) ↔ c ≤ 104 := by rw [lit, I_le (by omega) (by decide)]; omega
  simp only [p_X11_isLetter, z_b, isIn_eq, bI_rz, e1, e2]
theorem sg_lt {c : Nat} (h : isSg c) : c < 1000 := by
  unfold isSg isLt at h; omega
theorem I_eqN {c k : Nat} (hc : c < 100000) (hk : k < 100000) : (I (c : Int) = I (k : Int)) ↔ c = k := by
  rw [I_inj (by omega) (by omega)]; omega
/-- the loop over the signs -/
theorem fw_l (o : Ob h 10 tx rw ar tSz) {t : List Nat} (hs : ∀ c ∈ t, isSg c) :
    ∀ (r : List Nat) (k n : Nat) (s : Sc) (f : FI), t.drop k = r → k + r.length = t.length → r.length < n → SOk t k s → TxC f tx ar t → WsC f tx ar s.2.2.1 → EsC f tx ar s.2.2.2 →
      ∃ f', p_X9_findWords_l16 n (some tx) (bI s.1) (bI s.2.1) (I k) (hI h f) = some ((), hI h f') ∧ WsC f' tx ar (scanL r k s).2.2.1 ∧ EsC f' tx ar ((scanL r k s).2.2.2 ++ [(t.length, (scanL r k s).2.2.1.length)]) ∧ TFr f f' tx ar := by
  intro r
  induction r with
  | nil =>
    intro k n s f h1 h2 h3 S T W E
    obtain ⟨n, rfl⟩ := Nat.exists_eq_add_of_lt h3
    have hk : k = t.length := by simpa using h2
    have e1 : I (t.length : Int) ≤ I (k : Int) := by
      rw [hk]; have := T.2.1; rw [I_le (by omega) (by omega)]; omega
    have := T.2.1
    obtain ⟨f', v1, v2, v3, v4⟩ := end_eq o W E (by have := S.2.1; omega) t.length
    refine ⟨f', ?_, v2, v3, v4⟩
    show p_X9_findWords_c16 _ _ _ _ _ _ = _
    simp only [p_X9_findWords_c16, p_X9_findWords_b129, z_b, z_rt, ite_ap, o_gI o, T.1, e1, if_true, o_vr o, v1]
  | cons c r ih =>
    intro k n s f h1 h2 h3 S T W E
    obtain ⟨hat, hd⟩ := drop_at h1
    cases n with
    | zero => exact absurd h3 (Nat.not_lt_zero _)
    | succ n =>
      simp only [List.length_cons] at h2 h3
      have t100 := T.2.1
      have hcs := hs c (List.mem_of_getElem? hat)
      have hc := sg_lt hcs
      have e1 : ¬ I (t.length : Int) ≤ I (k : Int) := by rw [I_le (by omega) (by omega)]; omega
      have e2 : I (k : Int) + 1 = I ((k + 1 : Nat) : Int) := I_add _ 1
      have lt : k < 100 := by omega
      have sg := T.2.2 k c hat
      have S' := sok_step S hat
      have q46 : (I (c : Int) = 46) ↔ c = 46 := I_eqN (k := 46) (by omega) (by decide)
      have q60 : (I (c : Int) = 60) ↔ c = 60 := I_eqN (k := 60) (by omega) (by decide)
      have q62 : (I (c : Int) = 62) ↔ c = 62 := I_eqN (k := 62) (by omega) (by decide)
      obtain ⟨mk, inw, ws, es⟩ := s
      show ∃ f', p_X9_findWords_c16 (p_X9_findWords_l16 n) (some tx) (bI mk) (bI inw) (I k) (hI h f) = _ ∧ _
      have b1 : ¬ (bI true = 0) := by decide
      have b0 : bI false = 0 := rfl
      have n1 : ¬ ((1 : Int32) = 0) := by decide
      simp only [scanL]
      -- signs that are no part of a word and end no sentence
      have off : ∀ mk' : Bool, scStep (mk, inw, ws, es) k c = (mk', false, ws, es) → p_X9_findWords_c16 (p_X9_findWords_l16 n) (some tx) (bI mk) (bI inw) (I k) (hI h f) = p_X9_findWords_l16 n (some tx) (bI mk') (bI false) (I ((k + 1 : Nat) : Int)) (hI h f) → ∃ f', p_X9_findWords_c16 (p_X9_findWords_l16 n) (some tx) (bI mk) (bI inw) (I k) (hI h f) = some ((), hI h f') ∧ WsC f' tx ar (scanL r (k + 1) (scStep (mk, inw, ws, es) k c)).2.2.1 ∧ EsC f' tx ar ((scanL r (k + 1) (scStep (mk, inw, ws, es) k c)).2.2.2 ++ [(t.length, (scanL r (k + 1) (scStep (mk, inw, ws, es) k c)).2.2.1.length)]) ∧ TFr f f' tx ar := by
        intro mk' hst hrun
        rw [hst] at S' ⊢
        rw [hrun]
        exact ih (k + 1) n (mk', false, ws, es) f hd (by omega) (by omega) S' T W E
      by_cases q : mk = false ∧ 97 ≤ c ∧ c ≤ 104
      · obtain ⟨qa, qb, qc⟩ := q
        subst qa
        have e3 : I (c : Int) - 97 = I ((c - 97 : Nat) : Int) := I_sn c 97 qb
        obtain ⟨f1, v1, v2, v3, v4⟩ := add_eq o S lt (l := c - 97) (by omega) W E
        have hst : scStep (false, inw, ws, es) k c = (false, true, addL (scW (false, inw, ws, es) k) (c - 97), es) := if_pos ⟨rfl, qb, qc⟩
        rw [hst] at S' ⊢
        obtain ⟨f', p1, p2, p3, p4⟩ := ih (k + 1) n _ f1 hd (by omega) (by omega) S' (T.fr o v4) v2 v3
        refine ⟨f', ?_, p2, p3, v4.trans p4⟩
        rw [← p1]
        have hlt : (97 ≤ c ∧ c ≤ 104) = True := eq_true ⟨qb, qc⟩
        simp only [p_X9_findWords_c16, z_b, ite_ap, o_gI o, T.1, e1, if_false, o_gR o 0 (by decide), o_rv o 0 (by decide), o_get o 0 100 rfl lt, sg, b0, not_true_eq_false, isLt_eq _ hc, hlt, if_true, n1, p_X9_findWords_b51, e3, o_vr o, v1, p_X9_findWords_b120, z_n, e2]
        rfl
      · by_cases q2 : c = 46 ∧ mk = false
        · obtain ⟨qa, qb⟩ := q2
          subst qa
          subst qb
          obtain ⟨f1, v1, v2, v3, v4⟩ := end_eq o W E (by have := S.2.1; have this' : es.length ≤ k := this; omega) (k + 1)
          have hst : scStep (false, inw, ws, es) k 46 = (false, false, ws, es ++ [(k + 1, ws.length)]) := rfl
          rw [hst] at S' ⊢
          obtain ⟨f', p1, p2, p3, p4⟩ := ih (k + 1) n (false, false, ws, es ++ [(k + 1, ws.length)]) f1 hd (by omega) (by omega) S' (T.fr o v4) v2 v3
          refine ⟨f', ?_, p2, p3, v4.trans p4⟩
          rw [← p1]
          have hlt : (97 ≤ 46 ∧ 46 ≤ 104) = False := eq_false (by decide)
          have x46 : (I ((46 : Nat) : Int) = 46) = True := eq_true rfl
          simp only [p_X9_findWords_c16, z_b, ite_ap, o_gI o, T.1, e1, if_false, o_gR o 0 (by decide), o_rv o 0 (by decide), o_get o 0 100 rfl lt, sg, b0, not_true_eq_false, isLt_eq _ hc, hlt, if_true, p_X9_findWords_b50, p_X9_findWords_b51, x46, o_vr o, e2, v1, p_X9_findWords_b120, z_n]
        · -- the others
          have run : ∀ X, p_X9_findWords_b51 (p_X9_findWords_l16 n) (some tx) (bI mk) (bI inw) (I k) (I c) 0 (hI h f) = X → p_X9_findWords_c16 (p_X9_findWords_l16 n) (some tx) (bI mk) (bI inw) (I k) (hI h f) = X := by
            intro X hX
            rw [← hX]
            simp only [p_X9_findWords_c16, z_b, ite_ap, o_gI o, T.1, e1, if_false, o_gR o 0 (by decide), o_rv o 0 (by decide), o_get o 0 100 rfl lt, sg, isLt_eq _ hc]
            cases mk with
            | true => rw [if_pos b1]; rfl
            | false =>
              have : ¬ (97 ≤ c ∧ c ≤ 104) := fun z => q ⟨rfl, z⟩
              rw [if_neg (fun z => z b0), if_neg this, if_pos rfl]
              rfl
          have to93 : p_X9_findWords_b51 (p_X9_findWords_l16 n) (some tx) (bI mk) (bI inw) (I k) (I c) 0 (hI h f) = p_X9_findWords_b93 (p_X9_findWords_l16 n) (some tx) (bI mk) (I k) (I c) 0 (hI h f) := by
            simp only [p_X9_findWords_b51, ite_ap, if_true, q46]
            by_cases z : c = 46
            · cases mk with
              | true => rw [if_neg (fun y => y z), if_pos b1]
              | false => exact absurd ⟨z, rfl⟩ q2
            · rw [if_pos z]
          by_cases z60 : c = 60
          · refine off true ?_ (run _ (to93.trans ?_))
            · unfold scStep
              rw [if_neg q, if_neg q2, if_pos z60]
            · simp only [p_X9_findWords_b93, p_X9_findWords_b107, p_X9_findWords_b119, p_X9_findWords_b120, ite_ap, q60, z60, if_true, not_true_eq_false, if_false, z_n, e2]
              rfl
          · by_cases z62 : c = 62
            · refine off false ?_ (run _ (to93.trans ?_))
              · unfold scStep
                rw [if_neg q, if_neg q2, if_neg z60, if_pos z62]
              · simp only [p_X9_findWords_b93, p_X9_findWords_b107, p_X9_findWords_b119, p_X9_findWords_b120, ite_ap, q60, q62, z60, z62, if_true, not_true_eq_false, not_false_eq_true, if_false, z_n, e2]
                rfl
            · refine off mk ?_ (run _ (to93.trans ?_))
              · unfold scStep
                rw [if_neg q, if_neg q2, if_neg z60, if_neg z62]
              · simp only [p_X9_findWords_b93, p_X9_findWords_b120, ite_ap, q60, q62, z60, z62, if_true, not_false_eq_true, if_false, z_n, e2]
                rfl
/-- the class has found the words of the text t -/
def FoS (f : FI) (tx : Nat) (ar : Nat → Nat) (t : List Nat) : Prop := TxC f tx ar t ∧ (∀ c ∈ t, isSg c) ∧ WsC f tx ar (wsOf t) ∧ EsC f tx ar (esOf t)
/-- a new text counts no sentence as yet -/
def EsW (f : FI) (tx : Nat) (ar : Nat → Nat) (t : List Nat) : Prop := (f tx 8 = I (esOf t).length ∨ t = [] ∧ f tx 8 = 0) ∧ f (ar 4) 0 = 0 ∧ f (ar 5) 0 = 0 ∧ ∀ (i : Nat) (e : Nat × Nat), (esOf t)[i]? = some e → f (ar 4) (i + 1) = I e.1 ∧ f (ar 5) (i + 1) = I e.2
def FoC (f : FI) (tx : Nat) (ar : Nat → Nat) (t : List Nat) : Prop := TxC f tx ar t ∧ (∀ c ∈ t, isSg c) ∧ WsC f tx ar (wsOf t) ∧ EsW f tx ar t
theorem FoS.toC {f : FI} {tx : Nat} {ar : Nat → Nat} {t : List Nat} (F : FoS f tx ar t) : FoC f tx ar t := ⟨F.1, F.2.1, F.2.2.1, Or.inl F.2.2.2.1, F.2.2.2.2⟩
theorem fw_eqS (o : Ob h 10 tx rw ar tSz) {t : List Nat} (hs : ∀ c ∈ t, isSg c) (T : TxC f tx ar t) (z4 : f (ar 4) 0 = 0) (z5 : f (ar 5) 0 = 0) :
    ∃ f', p_X9_findWords (some tx) (hI h f) = some ((), hI h f') ∧ FoS f' tx ar t ∧ TFr f f' tx ar := by
  have n4x := o_nx o (j := 4) (by decide)
  have n5x := o_nx o (j := 5) (by decide)
  have F1 : TFr f (zu (zu f tx 7 0) tx 8 0) tx ar := ⟨(Fr.zu (by simp)).trans (Fr.zu (by simp)), fun j h7 h8 => by rw [zu_cell, if_neg h8, zu_cell, if_neg h7]⟩
  obtain ⟨f', p1, p2, p3, p4⟩ := fw_l o hs t 0 zFuel sc0 (zu (zu f tx 7 0) tx 8 0) rfl (by omega) (by have := T.2.1; unfold zFuel; omega) (SOk0 t) (T.fr o F1) ⟨by rw [zu_cell, if_neg (by decide), zu_same]; rfl, fun i w hw => by cases hw⟩ ⟨by rw [zu_same]; rfl, by rw [zu_ne n4x, zu_ne n4x]; exact z4, by rw [zu_ne n5x, zu_ne n5x]; exact z5, fun i w hw => by cases hw⟩
  refine ⟨f', ?_, ⟨(T.fr o F1).fr o p4, hs, p2, p3⟩, F1.trans p4⟩
  have p1' : p_X9_findWords_l16 zFuel (some tx) 0 0 0 (hI h (zu (zu f tx 7 0) tx 8 0)) = some ((), hI h f') := p1
  simp only [p_X9_findWords, z_b, o_pI o, p1']
theorem fw_eq (o : Ob h 10 tx rw ar tSz) {t : List Nat} (hs : ∀ c ∈ t, isSg c) (T : TxC f tx ar t) (z4 : f (ar 4) 0 = 0) (z5 : f (ar 5) 0 = 0) :
    ∃ f', p_X9_findWords (some tx) (hI h f) = some ((), hI h f') ∧ FoC f' tx ar t ∧ TFr f f' tx ar := by
  obtain ⟨f', a, b, c⟩ := fw_eqS o hs T z4 z5
  exact ⟨f', a, b.toC, c⟩
end
