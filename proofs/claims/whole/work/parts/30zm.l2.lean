/-! edits of the reference's text -/
theorem repT_get {t : List Nat} {s n : Nat} {u : Wd} (hs : s + n ≤ t.length) (i : Nat) : (repT t s n u)[i]? = if i < s then t[i]? else if i < s + u.length then some (97 + u.getD (i - s) 0) else t[i - u.length + n]? := by
  unfold repT
  have hl : (t.take s).length = s := by rw [List.length_take]; omega
  have hu : (sgs u).length = u.length := by unfold sgs; rw [List.length_map]
  by_cases h1 : i < s
  · rw [if_pos h1, List.getElem?_append_left (by omega), List.getElem?_take, if_pos h1]
  · rw [if_neg h1, List.getElem?_append_right (by omega), hl]
    by_cases h2 : i < s + u.length
    · rw [if_pos h2, List.getElem?_append_left (by omega)]
      unfold sgs
      rw [List.getElem?_map, getD_some (t := u) (d := 0) (show i - s < u.length by omega)]
      rfl
    · rw [if_neg h2, List.getElem?_append_right (by omega), hu, List.getElem?_drop, show s + n + (i - s - u.length) = i - u.length + n by omega]
theorem repT_len {t : List Nat} {s n : Nat} {u : Wd} (hs : s + n ≤ t.length) : (repT t s n u).length + n = t.length + u.length := by
  unfold repT sgs
  rw [List.length_append, List.length_append, List.length_map, List.length_take, List.length_drop]; omega
section
variable {h : ZH} {M : Nat} {ar : Nat → Nat} {t : List Nat}
theorem mrem_l (m : MAt h M ar) (g : FL) :
    ∀ (c k n : Nat) (f : FI), k + c = t.length → c < n → TxM f ar M t → (∀ i, i < k → f (ar 55) i = I (t.getD i 0)) →
      ∃ f', p_X12_remembers_l10 n (some M) (I k) (hM h f g) = some ((), hM h f' g) ∧ TxA f' (ar 55) t ∧ MFr f f' g g ar M [] [55] := by
  intro c
  induction c with
  | zero =>
    intro k n f hk hn T Ti
    obtain ⟨n, rfl⟩ := Nat.exists_eq_add_of_lt hn
    have hl := T.2.1
    have e1 : I (t.length : Int) ≤ I (k : Int) := by rw [I_le (by omega) (by omega)]; omega
    refine ⟨f, ?_, fun i c hc => ?_, MFr.refl _ _ _ _ _ _⟩
    · show p_X12_remembers_c10 _ _ _ _ = _
      simp only [p_X12_remembers_c10, z_b, z_rt, ite_ap, m_gI m, T.1, e1, if_true]
    · have hi := lt_of_get hc
      have := Ti i (by omega)
      rw [List.getD_eq_getElem?_getD, hc] at this
      exact this
  | succ c ih =>
    intro k n f hk hn T Ti
    cases n with
    | zero => exact absurd hn (Nat.not_lt_zero _)
    | succ n =>
      have hl := T.2.1
      have e1 : ¬ I (t.length : Int) ≤ I (k : Int) := by rw [I_le (by omega) (by omega)]; omega
      have e2 : I (k : Int) + 1 = I ((k + 1 : Nat) : Int) := I_add _ 1
      have g1 : f (ar 33) k = I (t.getD k 0) := T.2.2 k _ (getD_some (by omega))
      have F1 : MFr f (zu f (ar 55) k (I (t.getD k 0))) g g ar M [] [55] := MFr.sI m 55 k _ (by decide) (by simp)
      obtain ⟨f', p1, p2, p3⟩ := ih (k + 1) n _ (by omega) (by omega) (T.fr F1 m (by simp) (by simp) (by decide)) (fun i hi => by
        rw [zu_cell]
        by_cases q : i = k
        · rw [if_pos q, q]
        · rw [if_neg q]; exact Ti i (by omega))
      refine ⟨f', ?_, p2, F1.trans p3⟩
      rw [← p1]
      show p_X12_remembers_c10 (p_X12_remembers_l10 n) _ _ _ = _
      simp only [p_X12_remembers_c10, z_b, z_n, ite_ap, m_gI m, T.1, e1, if_false, m_gR m 33 (by decide), m_gR m 55 (by decide), m_aI m 33 100 (by decide) (show k < 100 by omega) (by decide), g1, m_sI m 55 100 (by decide) (show k < 100 by omega) (by decide), e2]
theorem mrem_eq (m : MAt h M ar) {f : FI} {g : FL} (T : TxM f ar M t) :
    ∃ f', p_X12_remembers (some M) (hM h f g) = some ((), hM h f' g) ∧ f' M 56 = I t.length ∧ TxA f' (ar 55) t ∧ MFr f f' g g ar M [56] [55] := by
  have F1 : MFr f (zu f M 56 (I t.length)) g g ar M [56] [55] := MFr.pI 56 _ (by simp)
  obtain ⟨f', p1, p2, p3⟩ := mrem_l m g t.length 0 zFuel (zu f M 56 (I t.length)) (by omega) (by have := T.2.1; unfold zFuel; omega) (T.fr F1 m (by simp) (by simp) (by decide)) (fun i hi => absurd hi (Nat.not_lt_zero _))
  refine ⟨f', ?_, ?_, p2, F1.trans (p3.mono (by simp) (by simp))⟩
  · have p1' : p_X12_remembers_l10 zFuel (some M) 0 (hM h (zu f M 56 (I t.length)) g) = some ((), hM h f' g) := p1
    simp only [p_X12_remembers, z_b, m_gI m, m_pI m, T.1, p1']
  · rw [(p3.1 56 (by simp)).1]; exact zu_same _ _ _ _
/-- the place is made free, the sign goes there -/
theorem put98 (m : MAt h M ar) (g : FL) {p c : Nat} (hp : p ≤ t.length) (hlt : t.length < 100) (ht : ∀ d ∈ t, isSg d) (hc : isSg c) {b : List Nat} (hs' : ∀ d ∈ b, isSg d) (hb : b.length ≤ 100) :
    ∀ (j k n : Nat) (f : FI), p + j = k → k ≤ t.length → j < n → f M 32 = I t.length → f M 56 = I b.length ∧ TxA f (ar 55) b → (∀ i, i < k → i < t.length → f (ar 33) i = I (t.getD i 0)) → (∀ i, k < i → i ≤ t.length → f (ar 33) i = I (t.getD (i - 1) 0)) →
      ∃ f' g', p_X12_put_l98 n (some M) (I p) (I c) (I k) (hM h f g) = some (I (chkF (insT t p c) b), hM h f' g') ∧ TxM f' ar M (insT t p c) ∧ WsM f' g' ar M (wsOf (insT t p c)) ∧ MFr f f' g g' ar M [32, 40] [33, 41, 42, 43, 44] := by
  intro j
  induction j with
  | zero =>
    intro k n f hk hkl hn T1 B Ta Tb
    obtain ⟨n, rfl⟩ := Nat.exists_eq_add_of_lt hn
    have hk' : k = p := by omega
    subst hk'
    have e1 : I (k : Int) ≤ I (k : Int) := by rw [I_le (by omega) (by omega)]; omega
    have e2 : I (t.length : Int) + 1 = I ((t.length + 1 : Nat) : Int) := I_add _ 1
    have n33 := (m.2.1 33 (by decide)).2.2
    have F1 : MFr f (zu (zu f (ar 33) k (I c)) M 32 (I ((t.length + 1 : Nat) : Int))) g g ar M [32, 40] [33, 41, 42, 43, 44] := (MFr.sI m 33 k _ (by decide) (by simp)).trans (MFr.pI 32 _ (by simp))
    have T' : TxM (zu (zu f (ar 33) k (I c)) M 32 (I ((t.length + 1 : Nat) : Int))) ar M (insT t k c) := by
      refine ⟨by rw [zu_same, insT_len hp], by rw [insT_len hp]; omega, fun i d hd => ?_⟩
      have hi := lt_of_get hd
      rw [insT_len hp] at hi
      rw [insT_get hp] at hd
      rw [zu_ne n33, zu_cell]
      by_cases q1 : i < k
      · rw [if_pos q1] at hd
        rw [if_neg (by omega), Ta i q1 (by omega), List.getD_eq_getElem?_getD, hd]; rfl
      · rw [if_neg q1] at hd
        by_cases q2 : i = k
        · rw [if_pos q2] at hd
          rw [if_pos q2]; cases hd; rfl
        · rw [if_neg q2] at hd
          rw [if_neg q2, Tb i (by omega) (by omega), List.getD_eq_getElem?_getD, hd]; rfl
    have B' : (zu (zu f (ar 33) k (I c)) M 32 (I ((t.length + 1 : Nat) : Int))) M 56 = I b.length ∧ TxA (zu (zu f (ar 33) k (I c)) M 32 (I ((t.length + 1 : Nat) : Int))) (ar 55) b := by
      refine ⟨by rw [(F1.1 56 (by simp)).1]; exact B.1, fun i d hd => ?_⟩
      rw [(F1.at_ m (j := 55) (by decide) (by simp) (by decide)).1]; exact B.2 i d hd
    obtain ⟨f', g', v1, v2, v3⟩ := checks_eq (f := zu (zu f (ar 33) k (I c)) M 32 (I ((t.length + 1 : Nat) : Int))) (g := g) m T' B' (insT_mem ht hc) hs' hb
    refine ⟨f', g', ?_, T'.fr v3 m (by simp) (by simp) (by decide), v2, F1.trans (v3.mono (by simp) (by simp))⟩
    show p_X12_put_c98 _ _ _ _ _ _ = _
    have e3 : zu f (ar 33) k (I c) M 32 = I t.length := by rw [zu_ne n33.symm]; exact T1
    simp only [p_X12_put_c98, p_X12_put_b126, z_b, z_rt, ite_ap, e1, if_true, m_gR m 33 (by decide), m_sI m 33 100 (by decide) (show k < 100 by omega) (by decide), m_gI m, e3, e2, m_pI m, m_vr m, v1]
  | succ j ih =>
    intro k n f hk hkl hn T1 B Ta Tb
    cases n with
    | zero => exact absurd hn (Nat.not_lt_zero _)
    | succ n =>
      have e1 : ¬ I (k : Int) ≤ I (p : Int) := by rw [I_le (by omega) (by omega)]; omega
      have e2 : I (k : Int) - 1 = I ((k - 1 : Nat) : Int) := I_sn _ 1 (by omega)
      have e3 : I (k : Int) + -1 = I ((k - 1 : Nat) : Int) := by
        rw [← e2]; exact (Int32.sub_eq_add_neg _ _).symm
      have n33 := (m.2.1 33 (by decide)).2.2
      have F1 : MFr f (zu f (ar 33) k (I (t.getD (k - 1) 0))) g g ar M [32, 40] [33, 41, 42, 43, 44] := MFr.sI m 33 k _ (by decide) (by simp)
      obtain ⟨f', g', p1, p2, p3, p4⟩ := ih (k - 1) n (zu f (ar 33) k (I (t.getD (k - 1) 0))) (by omega) (by omega) (by omega) (by rw [zu_ne n33.symm]; exact T1)
        ⟨by rw [(F1.1 56 (by simp)).1]; exact B.1, fun i d hd => by rw [(F1.at_ m (j := 55) (by decide) (by simp) (by decide)).1]; exact B.2 i d hd⟩
        (fun i h1 h2 => by rw [zu_cell, if_neg (by omega)]; exact Ta i (by omega) h2)
        (fun i h1 h2 => by
          rw [zu_cell]
          by_cases q : i = k
          · rw [if_pos q, q]
          · rw [if_neg q]; exact Tb i (by omega) h2)
      refine ⟨f', g', ?_, p2, p3, F1.trans p4⟩
      rw [← p1]
      show p_X12_put_c98 (p_X12_put_l98 n) _ _ _ _ _ = _
      simp only [p_X12_put_c98, z_b, z_n, ite_ap, e1, if_false, m_gR m 33 (by decide), e2, m_aI m 33 100 (by decide) (show k - 1 < 100 by omega) (by decide), Ta (k - 1) (by omega) (by omega), m_sI m 33 100 (by decide) (show k < 100 by omega) (by decide), e3]
/-- the signs behind go ahead -/
theorem take48 (m : MAt h M ar) (g : FL) {p : Nat} (hp : p < t.length) (hlt : t.length ≤ 100) (ht : ∀ d ∈ t, isSg d) {b : List Nat} (hs' : ∀ d ∈ b, isSg d) (hb : b.length ≤ 100) :
    ∀ (j k n : Nat) (f : FI), k + j = t.length - 1 → p ≤ k → j < n → f M 32 = I ((t.length - 1 : Nat) : Int) → f M 56 = I b.length ∧ TxA f (ar 55) b → (∀ i, i < p → f (ar 33) i = I (t.getD i 0)) → (∀ i, p ≤ i → i < k → f (ar 33) i = I (t.getD (i + 1) 0)) → (∀ i, k < i → i < t.length → f (ar 33) i = I (t.getD i 0)) →
      ∃ f' g', p_X12_take_l48 n (some M) (I k) (hM h f g) = some (I (chkF (remT t p) b), hM h f' g') ∧ TxM f' ar M (remT t p) ∧ WsM f' g' ar M (wsOf (remT t p)) ∧ MFr f f' g g' ar M [32, 40] [33, 41, 42, 43, 44] := by
  intro j
  induction j with
  | zero =>
    intro k n f hk hkp hn T1 B Ta Tb Tc
    obtain ⟨n, rfl⟩ := Nat.exists_eq_add_of_lt hn
    have hr := remT_len hp
    have e1 : I ((t.length - 1 : Nat) : Int) ≤ I (k : Int) := by rw [I_le (by omega) (by omega)]; omega
    have T' : TxM f ar M (remT t p) := by
      refine ⟨by rw [T1, show t.length - 1 = (remT t p).length by omega], by omega, fun i d hd => ?_⟩
      have hi := lt_of_get hd
      rw [remT_get hp] at hd
      by_cases q1 : i < p
      · rw [if_pos q1] at hd
        rw [Ta i q1, List.getD_eq_getElem?_getD, hd]; rfl
      · rw [if_neg q1] at hd
        rw [Tb i (by omega) (by omega), List.getD_eq_getElem?_getD, hd]; rfl
    obtain ⟨f', g', v1, v2, v3⟩ := checks_eq (f := f) (g := g) m T' B (remT_mem ht) hs' hb
    refine ⟨f', g', ?_, T'.fr v3 m (by simp) (by simp) (by decide), v2, v3.mono (by simp) (by simp)⟩
    show p_X12_take_c48 _ _ _ _ = _
    simp only [p_X12_take_c48, p_X12_take_b76, z_b, z_rt, ite_ap, m_gI m, T1, e1, if_true, m_vr m, v1]
  | succ j ih =>
    intro k n f hk hkp hn T1 B Ta Tb Tc
    cases n with
    | zero => exact absurd hn (Nat.not_lt_zero _)
    | succ n =>
      have e1 : ¬ I ((t.length - 1 : Nat) : Int) ≤ I (k : Int) := by rw [I_le (by omega) (by omega)]; omega
      have e2 : I (k : Int) + 1 = I ((k + 1 : Nat) : Int) := I_add _ 1
      have n33 := (m.2.1 33 (by decide)).2.2
      have F1 : MFr f (zu f (ar 33) k (I (t.getD (k + 1) 0))) g g ar M [32, 40] [33, 41, 42, 43, 44] := MFr.sI m 33 k _ (by decide) (by simp)
      obtain ⟨f', g', p1, p2, p3, p4⟩ := ih (k + 1) n (zu f (ar 33) k (I (t.getD (k + 1) 0))) (by omega) (by omega) (by omega) (by rw [zu_ne n33.symm]; exact T1)
        ⟨by rw [(F1.1 56 (by simp)).1]; exact B.1, fun i d hd => by rw [(F1.at_ m (j := 55) (by decide) (by simp) (by decide)).1]; exact B.2 i d hd⟩
        (fun i h1 => by rw [zu_cell, if_neg (by omega)]; exact Ta i h1)
        (fun i h1 h2 => by
          rw [zu_cell]
          by_cases q : i = k
          · rw [if_pos q, q]
          · rw [if_neg q]; exact Tb i h1 (by omega))
        (fun i h1 h2 => by rw [zu_cell, if_neg (by omega)]; exact Tc i (by omega) h2)
      refine ⟨f', g', ?_, p2, p3, F1.trans p4⟩
      rw [← p1]
      show p_X12_take_c48 (p_X12_take_l48 n) _ _ _ = _
      simp only [p_X12_take_c48, z_b, z_n, ite_ap, m_gI m, T1, e1, if_false, m_gR m 33 (by decide), e2, m_aI m 33 100 (by decide) (show k + 1 < 100 by omega) (by decide), Tc (k + 1) (by omega) (by omega), m_sI m 33 100 (by decide) (show k < 100 by omega) (by decide)]
/-- the letters of the new word -/
theorem chg85 (m : MAt h M ar) (g : FL) {j s n0 : Nat} (hj : j < 101) {u : Wd} (hu : isW u) (hul : u.length ≤ 10) (hs : s + n0 ≤ t.length) (ht : t.length ≤ 100) (hlen : t.length - n0 + u.length ≤ 100) :
    ∀ (c k n : Nat) (f : FI), k + c = u.length → c < n → f M 32 = I t.length → f (ar 41) j = I s → (∀ i, i < s → f (ar 33) i = I (t.getD i 0)) → (∀ i, i < k → f (ar 33) (s + i) = I ((97 + u.getD i 0 : Nat) : Int)) → (∀ i, s + n0 ≤ i → i < t.length → f (ar 33) (i - n0 + u.length) = I (t.getD i 0)) →
      ∃ f', p_X12_changes_l85 n (some M) (I j) (J (mN u)) (I ((u.length : Int) - (n0 : Int))) (I k) (hM h f g) = some (1, hM h f' g) ∧ TxM f' ar M (repT t s n0 u) ∧ MFr f f' g g ar M [32] [33] := by
  intro c
  induction c with
  | zero =>
    intro k n f hk hn T1 T2 Ta Tb Tc
    obtain ⟨n, rfl⟩ := Nat.exists_eq_add_of_lt hn
    have e1 : I (u.length : Int) ≤ I (k : Int) := by rw [I_le (by omega) (by omega)]; omega
    have hr := repT_len (u := u) hs
    have n33 := (m.2.1 33 (by decide)).2.2
    have e2 : I (t.length : Int) + I ((u.length : Int) - (n0 : Int)) = I ((repT t s n0 u).length : Int) := by
      rw [I_add, show (t.length : Int) + ((u.length : Int) - (n0 : Int)) = ((repT t s n0 u).length : Int) by omega]
    refine ⟨zu f M 32 (I (repT t s n0 u).length), ?_, ⟨zu_same _ _ _ _, by omega, fun i d hd => ?_⟩, MFr.pI 32 _ (by simp)⟩
    · show p_X12_changes_c85 _ _ _ _ _ _ _ = _
      simp only [p_X12_changes_c85, p_X12_changes_b135, z_b, z_rz, ite_ap, lengthOf_eq _ hu (show u.length ≤ 12 by omega), e1, if_true, m_gI m, T1, e2, m_pI m, or_true]
    · rw [zu_ne n33]
      have hi := lt_of_get hd
      rw [repT_get hs] at hd
      by_cases q1 : i < s
      · rw [if_pos q1] at hd
        rw [Ta i q1, List.getD_eq_getElem?_getD, hd]; rfl
      · rw [if_neg q1] at hd
        by_cases q2 : i < s + u.length
        · rw [if_pos q2] at hd
          have := Tb (i - s) (by omega)
          rw [show s + (i - s) = i by omega] at this
          rw [this]; cases hd; rfl
        · rw [if_neg q2] at hd
          have := Tc (i - u.length + n0) (by omega) (by omega)
          rw [show i - u.length + n0 - n0 + u.length = i by omega] at this
          rw [this, List.getD_eq_getElem?_getD, hd]; rfl
  | succ c ih =>
    intro k n f hk hn T1 T2 Ta Tb Tc
    cases n with
    | zero => exact absurd hn (Nat.not_lt_zero _)
    | succ n =>
      have e1 : ¬ I (u.length : Int) ≤ I (k : Int) := by rw [I_le (by omega) (by omega)]; omega
      have e2 : I (k : Int) + 1 = I ((k + 1 : Nat) : Int) := I_add _ 1
      have n33 := (m.2.1 33 (by decide)).2.2
      have n41 := ar_ne m (i := 41) (j := 33) (by decide) (by decide) (by decide)
      have e3 : (4 : Int32) * ((I (u.length : Int) - 1) - I (k : Int)) = I ((4 * (u.length - 1 - k) : Nat) : Int) := by
        rw [show I (u.length : Int) - 1 = I ((u.length - 1 : Nat) : Int) from I_sn _ 1 (by omega), I_sn _ _ (by omega)]
        exact I_mn 4 _
      have hmr := mN_range hu (show u.length ≤ 12 by omega)
      have e4 : (96 : Int32) + Int64.toInt32 ((J (mN u) >>> (Int32.toInt64 (I ((4 * (u.length - 1 - k) : Nat) : Int)) &&& 63)) &&& 15) = I ((97 + u.getD k 0 : Nat) : Int) := by
        rw [J_msk' _ (by omega), J_shr (by omega) (by omega), show u.length - 1 - k = u.length - (k + 1) by omega, mN_take hu (k + 1), show (15 : Int64) = J ((15 : Nat) : Int) from rfl, J_and, show (15 : Nat) = 2 ^ 4 - 1 from rfl, Nat.and_two_pow_sub_one_eq_mod, show (2 : Nat) ^ 4 = 16 from rfl, mN_last (isW_take hu _) (fun q => by have := congrArg List.length q; rw [List.length_take, Nat.min_eq_left (by omega)] at this; exact absurd this (Nat.succ_ne_zero _)), JI]
        have : (u.take (k + 1)).getD ((u.take (k + 1)).length - 1) 0 = u.getD k 0 := by
          rw [List.length_take, Nat.min_eq_left (by omega), List.getD_eq_getElem?_getD, List.getElem?_take, if_pos (by omega), Nat.add_sub_cancel, List.getD_eq_getElem?_getD]
        rw [this]
        show I ((96 : Nat) : Int) + _ = _
        rw [I_an, show 96 + (u.getD k 0 + 1) = 97 + u.getD k 0 by omega]
      have F1 : MFr f (zu f (ar 33) (s + k) (I ((97 + u.getD k 0 : Nat) : Int))) g g ar M [32] [33] := MFr.sI m 33 (s + k) _ (by decide) (by simp)
      obtain ⟨f', p1, p2, p3⟩ := ih (k + 1) n (zu f (ar 33) (s + k) (I ((97 + u.getD k 0 : Nat) : Int))) (by omega) (by omega) (by rw [zu_ne n33.symm]; exact T1) (by rw [zu_ne n41]; exact T2)
        (fun i h1 => by rw [zu_cell, if_neg (by omega)]; exact Ta i h1)
        (fun i h1 => by
          rw [zu_cell]
          by_cases q : s + i = s + k
          · rw [if_pos q, show i = k by omega]
          · rw [if_neg q]; exact Tb i (by omega))
        (fun i h1 h2 => by rw [zu_cell, if_neg (by omega)]; exact Tc i h1 h2)
      refine ⟨f', ?_, p2, F1.trans p3⟩
      rw [← p1]
      show p_X12_changes_c85 (p_X12_changes_l85 n) _ _ _ _ _ _ = _
      simp only [p_X12_changes_c85, z_b, z_n, ite_ap, lengthOf_eq _ hu (show u.length ≤ 12 by omega), e1, if_false, m_gR m 33 (by decide), m_gR m 41 (by decide), m_aI m 41 101 (by decide) hj (by decide), T2, I_an, e3, e4, m_sI m 33 100 (by decide) (show s + k < 100 by omega) (by decide), e2]
/-- the signs behind the word are moved -/
theorem chg50 (m : MAt h M ar) (g : FL) {j s n0 : Nat} (hj : j < 101) {u : Wd} (hu : isW u) (hul : u.length ≤ 10) (hs : s + n0 ≤ t.length) (ht : t.length ≤ 100) (hlen : t.length - n0 + u.length ≤ 100) :
    ∀ (c k n : Nat) (f : FI), s + n0 ≤ k → k + c = t.length → c < n → f M 32 = I t.length → f M 56 = I t.length ∧ TxA f (ar 55) t → f (ar 41) j = I s → (∀ i, i < s → f (ar 33) i = I (t.getD i 0)) → (∀ i, s + n0 ≤ i → i < k → f (ar 33) (i - n0 + u.length) = I (t.getD i 0)) →
      ∃ f', p_X12_changes_l50 n (some M) (I j) (J (mN u)) (I ((u.length : Int) - (n0 : Int))) (I k) (hM h f g) = some (1, hM h f' g) ∧ TxM f' ar M (repT t s n0 u) ∧ MFr f f' g g ar M [32] [33] := by
  intro c
  induction c with
  | zero =>
    intro k n f hsk hk hn T1 B T2 Ta Tc
    obtain ⟨n, rfl⟩ := Nat.exists_eq_add_of_lt hn
    have e1 : I (t.length : Int) ≤ I (k : Int) := by rw [I_le (by omega) (by omega)]; omega
    obtain ⟨f', p1, p2, p3⟩ := chg85 m g hj hu hul hs ht hlen u.length 0 zFuel f (by omega) (by unfold zFuel; omega) T1 T2 Ta (fun i hi => absurd hi (Nat.not_lt_zero _)) (fun i h1 h2 => Tc i h1 (by omega))
    refine ⟨f', ?_, p2, p3⟩
    have p1' : p_X12_changes_l85 zFuel (some M) (I j) (J (mN u)) (I ((u.length : Int) - (n0 : Int))) 0 (hM h f g) = some (1, hM h f' g) := p1
    show p_X12_changes_c50 _ _ _ _ _ _ _ = _
    simp only [p_X12_changes_c50, p_X12_changes_b82, z_b, ite_ap, m_gI m, B.1, e1, if_true, p1']
  | succ c ih =>
    intro k n f hsk hk hn T1 B T2 Ta Tc
    cases n with
    | zero => exact absurd hn (Nat.not_lt_zero _)
    | succ n =>
      have e1 : ¬ I (t.length : Int) ≤ I (k : Int) := by rw [I_le (by omega) (by omega)]; omega
      have e2 : I (k : Int) + 1 = I ((k + 1 : Nat) : Int) := I_add _ 1
      have n33 := (m.2.1 33 (by decide)).2.2
      have n41 := ar_ne m (i := 41) (j := 33) (by decide) (by decide) (by decide)
      have n55 := ar_ne m (i := 55) (j := 33) (by decide) (by decide) (by decide)
      have e3 : I (k : Int) + I ((u.length : Int) - (n0 : Int)) = I ((k - n0 + u.length : Nat) : Int) := by
        rw [I_add, show (k : Int) + ((u.length : Int) - (n0 : Int)) = ((k - n0 + u.length : Nat) : Int) by omega]
      have g1 : f (ar 55) k = I (t.getD k 0) := B.2 k _ (getD_some (by omega))
      have F1 : MFr f (zu f (ar 33) (k - n0 + u.length) (I (t.getD k 0))) g g ar M [32] [33] := MFr.sI m 33 (k - n0 + u.length) _ (by decide) (by simp)
      obtain ⟨f', p1, p2, p3⟩ := ih (k + 1) n (zu f (ar 33) (k - n0 + u.length) (I (t.getD k 0))) (by omega) (by omega) (by omega) (by rw [zu_ne n33.symm]; exact T1) ⟨by rw [zu_ne n33.symm]; exact B.1, fun i d hd => by rw [zu_ne n55]; exact B.2 i d hd⟩ (by rw [zu_ne n41]; exact T2)
        (fun i h1 => by rw [zu_cell, if_neg (by omega)]; exact Ta i h1)
        (fun i h1 h2 => by
          rw [zu_cell]
          by_cases q : i - n0 + u.length = k - n0 + u.length
          · rw [if_pos q, show i = k by omega]
          · rw [if_neg q]; exact Tc i h1 (by omega))
      refine ⟨f', ?_, p2, F1.trans p3⟩
      rw [← p1]
      show p_X12_changes_c50 (p_X12_changes_l50 n) _ _ _ _ _ _ = _
      simp only [p_X12_changes_c50, z_b, z_n, ite_ap, m_gI m, B.1, e1, if_false, m_gR m 33 (by decide), m_gR m 55 (by decide), m_aI m 55 100 (by decide) (show k < 100 by omega) (by decide), g1, e3, m_sI m 33 100 (by decide) (show k - n0 + u.length < 100 by omega) (by decide), e2]
theorem chg_eq (m : MAt h M ar) {f : FI} {g : FL} {ws : List Wr} (T : TxM f ar M t) (W : WsM f g ar M ws) {j : Nat} {w : Wr} (hw : ws[j]? = some w) (hj : j < 101) (hn0 : w.1 + w.2.1.length ≤ t.length) {u : Wd} (hu : isW u) (hul : u.length ≤ 10) :
    (t.length - w.2.1.length + u.length ≤ 100 → ∃ f', p_X12_changes (some M) (I j) (J (mN u)) (hM h f g) = some (1, hM h f' g) ∧ TxM f' ar M (repT t w.1 w.2.1.length u) ∧ MFr f f' g g ar M [32, 56] [33, 55]) ∧ (¬ t.length - w.2.1.length + u.length ≤ 100 → p_X12_changes (some M) (I j) (J (mN u)) (hM h f g) = some (0, hM h f g)) := by
  obtain ⟨w1, w2, -⟩ := W.2 j w hw
  have ht := T.2.1
  have e1 : I (u.length : Int) - I (w.2.1.length : Int) = I ((u.length : Int) - (w.2.1.length : Int)) := I_sub _ _
  have e2 : (I (t.length : Int) + I ((u.length : Int) - (w.2.1.length : Int)) ≤ 100) ↔ t.length - w.2.1.length + u.length ≤ 100 := by
    rw [I_add, lit, I_le (by omega) (by decide)]; omega
  constructor
  · intro hlen
    obtain ⟨f1, v1, v2, v3, v4⟩ := mrem_eq (g := g) m T
    have T1 := T.fr v4 m (by simp) (by simp) (by decide)
    have W41 : f1 (ar 41) j = I w.1 := by rw [(v4.at_ m (j := 41) (by decide) (by simp) (by decide)).1]; exact w1
    have W42 : f1 (ar 42) j = I w.2.1.length := by rw [(v4.at_ m (j := 42) (by decide) (by simp) (by decide)).1]; exact w2
    obtain ⟨f', p1, p2, p3⟩ := chg50 m g hj hu hul hn0 ht hlen (t.length - (w.1 + w.2.1.length)) (w.1 + w.2.1.length) zFuel f1 (Nat.le_refl _) (by omega) (by unfold zFuel; omega) T1.1 ⟨v2, v3⟩ W41 (fun i hi => T1.2.2 i _ (getD_some (by omega))) (fun i h1 h2 => absurd h1 (by omega))
    refine ⟨f', ?_, p2, (v4.mono (by simp) (by simp)).trans (p3.mono (by simp) (by simp))⟩
    simp only [p_X12_changes, z_b, z_n, ite_ap, lengthOf_eq _ hu (show u.length ≤ 12 by omega), m_gR m 42 (by decide), m_aI m 42 101 (by decide) hj (by decide), w2, e1, m_gI m, T.1, e2, hlen, if_true, m_vr m, v1, m_gR m 41 (by decide), m_aI m 41 101 (by decide) hj (by decide), W41, W42, I_an, p1]
  · intro hlen
    simp only [p_X12_changes, z_b, z_n, z_rz, ite_ap, lengthOf_eq _ hu (show u.length ≤ 12 by omega), m_gR m 42 (by decide), m_aI m 42 101 (by decide) hj (by decide), w2, e1, m_gI m, T.1, e2, hlen, if_false, true_or, if_true]
end
