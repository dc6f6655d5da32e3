/-! ===== the texts that a correction went through ===== -/
def UsOk (us : List (List Nat)) : Prop := ∀ u ∈ us, u.length ≤ 100 ∧ ∀ c ∈ u, isSg c
def HiC (f : FI) (x : Nat) (ar : Nat → Nat) (us : List (List Nat)) : Prop := f x 2 = I us.length ∧ ∀ (i : Nat) (u : List Nat), us[i]? = some u → f (ar 1) i = I u.length ∧ ∀ (k c : Nat), u[k]? = some c → f (ar 0) (i * 100 + k) = I c
theorem eq_of_upto {u t : List Nat} (hu : u.length = t.length) (h : ∀ j, j < t.length → u[j]? = t[j]?) : u = t := by
  apply List.ext_getElem?
  intro i
  by_cases q : i < t.length
  · exact h i q
  · rw [List.getElem?_eq_none (by omega), List.getElem?_eq_none (by omega)]
section
variable {h : ZH} {x tx : Nat} {rw ar rwt art : Nat → Nat} {f f' : FI} {t : List Nat} {us : List (List Nat)}
theorem signOn_eq (ot : Ob h 10 tx rwt art tSz) (T : TxC f tx art t) (hs : ∀ c ∈ t, isSg c) {k : Nat} (hk : k < t.length) : p_X9_signOn (some tx) (I k) (hI h f) = some (I (t.getD k 0), hI h f) := by
  have hat := getD_some (d := 0) hk
  have hs' := hs _ (List.mem_of_getElem? hat)
  have h200 : t.getD k 0 < 200 := by unfold isSg isLt at hs'; omega
  obtain ⟨s1, s2⟩ := ch_sm _ h200
  have := T.2.1
  simp only [p_X9_signOn, z_b, z_rc, o_gR ot 0 (by decide), o_rv ot 0 (by decide), o_get ot 0 100 rfl (show k < 100 by omega), T.2.2 k _ hat, s1, s2, if_true]
theorem hlike_l (o : Ob h 2 x rw ar hSz) (ot : Ob h 10 tx rwt art tSz) (T : TxC f tx art t) (hs : ∀ c ∈ t, isSg c) {i : Nat} (hi : i < 21) {u : List Nat} (hu : u.length = t.length) (hsu : ∀ c ∈ u, isSg c) (U : ∀ (k c : Nat), u[k]? = some c → f (ar 0) (i * 100 + k) = I c) :
    ∀ (c k n : Nat), k + c = t.length → c < n → (∀ j, j < k → u[j]? = t[j]?) → p_X1_isLike_l2 n (some x) (I i) (some tx) (I k) (hI h f) = some (if u = t then 1 else 0, hI h f) := by
  have hl := T.2.1
  intro c
  induction c with
  | zero =>
    intro k n hk hn hj
    obtain ⟨n, rfl⟩ := Nat.exists_eq_add_of_lt hn
    have e1 : I (t.length : Int) ≤ I (k : Int) := by rw [I_le (by omega) (by omega)]; omega
    rw [if_pos (eq_of_upto hu (fun j h => hj j (by omega)))]
    show p_X1_isLike_c2 _ _ _ _ _ _ = _
    simp only [p_X1_isLike_c2, p_X9_size, z_b, z_rt, z_rz, ite_ap, o_vr ot, o_gI ot, T.1, e1, if_true, or_true]
  | succ c ih =>
    intro k n hk hn hj
    cases n with
    | zero => exact absurd hn (Nat.not_lt_zero _)
    | succ n =>
      have e1 : ¬ I (t.length : Int) ≤ I (k : Int) := by rw [I_le (by omega) (by omega)]; omega
      have e2 : I (k : Int) + 1 = I ((k + 1 : Nat) : Int) := I_add _ 1
      have e3 : I (i : Int) * 100 + I (k : Int) = I ((i * 100 + k : Nat) : Int) := by
        rw [show (100 : Int32) = I ((100 : Nat) : Int) from rfl, I_mn, I_an]
      have gu := getD_some (t := u) (d := 0) (show k < u.length by omega)
      have gt := getD_some (t := t) (d := 0) (show k < t.length by omega)
      have so := signOn_eq ot T hs (show k < t.length by omega)
      have b1 := sg_lt (hsu _ (List.mem_of_getElem? gu))
      have b2 := sg_lt (hs _ (List.mem_of_getElem? gt))
      have e4 : (I (u.getD k 0 : Int) = I (t.getD k 0 : Int)) ↔ u.getD k 0 = t.getD k 0 := I_eqN (by omega) (by omega)
      show p_X1_isLike_c2 (p_X1_isLike_l2 n) _ _ _ _ _ = _
      simp only [p_X1_isLike_c2, p_X9_size, z_b, z_rt, z_n, z_rz, ite_ap, o_vr ot, o_gI ot, T.1, e1, if_false, o_gR o 0 (by decide), o_rv o 0 (by decide), e3, o_get o 0 2100 rfl (show i * 100 + k < 2100 by omega), U k _ gu, so, e4, e2]
      by_cases q : u.getD k 0 = t.getD k 0
      · rw [if_pos q]
        refine ih (k + 1) n (by omega) (by omega) (fun j h => ?_)
        by_cases z : j = k
        · rw [z, gu, gt, q]
        · exact hj j (by omega)
      · have ne : ¬ u = t := fun y => q (by rw [y])
        simp only [q, ne, if_false, true_or, if_true]
theorem holds_l (o : Ob h 2 x rw ar hSz) (ot : Ob h 10 tx rwt art tSz) (T : TxC f tx art t) (hs : ∀ c ∈ t, isSg c) (hu : UsOk us) (hl : us.length ≤ 21) (A : HiC f x ar us) :
    ∀ (c i n : Nat), i + c = us.length → c < n → p_X1_holds_l2 n (some x) (some tx) (I i) (hI h f) = some (if t ∈ us.drop i then 1 else 0, hI h f) := by
  have ht := T.2.1
  intro c
  induction c with
  | zero =>
    intro i n hi hn
    obtain ⟨n, rfl⟩ := Nat.exists_eq_add_of_lt hn
    have e1 : I (us.length : Int) ≤ I (i : Int) := by rw [I_le (by omega) (by omega)]; omega
    rw [List.drop_eq_nil_of_le (by omega), if_neg List.not_mem_nil]
    show p_X1_holds_c2 _ _ _ _ _ = _
    simp only [p_X1_holds_c2, z_b, z_rz, ite_ap, o_gI o, A.1, e1, if_true, true_or]
  | succ c ih =>
    intro i n hi hn
    cases n with
    | zero => exact absurd hn (Nat.not_lt_zero _)
    | succ n =>
      have e1 : ¬ I (us.length : Int) ≤ I (i : Int) := by rw [I_le (by omega) (by omega)]; omega
      have e2 : I (i : Int) + 1 = I ((i + 1 : Nat) : Int) := I_add _ 1
      have gu := getD_some (t := us) (d := []) (show i < us.length by omega)
      obtain ⟨a1, a2⟩ := A.2 i _ gu
      obtain ⟨u1, u2⟩ := hu _ (List.mem_of_getElem? gu)
      have e3 : (I ((us.getD i []).length : Int) = I (t.length : Int)) ↔ (us.getD i []).length = t.length := I_eqN (by omega) (by omega)
      have ih' := ih (i + 1) n (by omega) (by omega)
      have ed : us.drop i = us.getD i [] :: us.drop (i + 1) := by
        rw [List.drop_eq_getElem_cons (by omega)]
        congr 1
        have := List.getElem?_eq_getElem (show i < us.length by omega)
        rw [gu] at this
        exact (Option.some.inj this).symm
      have em : (t ∈ us.drop i) ↔ (us.getD i [] = t ∨ t ∈ us.drop (i + 1)) := by
        rw [ed, List.mem_cons]
        exact ⟨fun q => q.imp Eq.symm id, fun q => q.imp Eq.symm id⟩
      show p_X1_holds_c2 (p_X1_holds_l2 n) _ _ _ _ = _
      simp only [p_X1_holds_c2, p_X1_holds_b36, p_X9_size, z_b, z_rt, z_n, z_rz, ite_ap, o_gI o, A.1, e1, if_false, o_gR o 1 (by decide), o_rv o 1 (by decide), o_get o 1 21 rfl (show i < 21 by omega), a1, o_vr ot, o_gI ot, T.1, e3, e2, ih']
      by_cases q : (us.getD i []).length = t.length
      · rw [if_neg (fun y => y q)]
        have lk : p_X1_isLike (some x) (I i) (some tx) (hI h f) = some (if us.getD i [] = t then 1 else 0, hI h f) := hlike_l o ot T hs (by omega) q u2 a2 t.length 0 zFuel (by omega) (by unfold zFuel; omega) (fun j h => absurd h (Nat.not_lt_zero _))
        simp only [o_vr o, lk, ih']
        by_cases z : us.getD i [] = t
        · have em' : t ∈ us.drop i := em.mpr (Or.inl z)
          rw [if_pos z, if_pos em']
          simp only [show ¬ ((1 : Int32) = 0) by decide, if_false, or_true, if_true]
        · rw [if_neg z, if_pos rfl]
          by_cases y : t ∈ us.drop (i + 1)
          · rw [if_pos y, if_pos (em.mpr (Or.inr y))]
          · rw [if_neg y, if_neg (fun w => (em.mp w).elim z y)]
      · rw [if_pos q]
        by_cases y : t ∈ us.drop (i + 1)
        · rw [if_pos y, if_pos (em.mpr (Or.inr y))]
        · rw [if_neg y, if_neg (fun w => (em.mp w).elim (fun z => q (by rw [z])) y)]
theorem holds_eq (o : Ob h 2 x rw ar hSz) (ot : Ob h 10 tx rwt art tSz) (T : TxC f tx art t) (hs : ∀ c ∈ t, isSg c) (hu : UsOk us) (hl : us.length ≤ 21) (A : HiC f x ar us) : p_X1_holds (some x) (some tx) (hI h f) = some (if t ∈ us then 1 else 0, hI h f) :=
  holds_l o ot T hs hu hl A us.length 0 zFuel (by omega) (by unfold zFuel; omega)
theorem hkeep_l (o : Ob h 2 x rw ar hSz) (ot : Ob h 10 tx rwt art tSz) (dj : Dj x ar hSz tx art tSz) (hs : ∀ c ∈ t, isSg c) (hl : us.length ≤ 20) (hu : UsOk us) :
    ∀ (c k n : Nat) (f : FI), k + c = t.length → c < n → TxC f tx art t → HiC f x ar us → f (ar 1) us.length = I t.length → (∀ j, j < k → f (ar 0) (us.length * 100 + j) = I (t.getD j 0)) →
      ∃ f', p_X1_keep_l26 n (some x) (some tx) (I k) (hI h f) = some ((), hI h f') ∧ HiC f' x ar (us ++ [t]) ∧ OFr f f' x ar [2] [0, 1] := by
  intro c
  induction c with
  | zero =>
    intro k n f hk hn T A L P
    obtain ⟨n, rfl⟩ := Nat.exists_eq_add_of_lt hn
    have ht := T.2.1
    have e1 : I (t.length : Int) ≤ I (k : Int) := by rw [I_le (by omega) (by omega)]; omega
    have e2 : I (us.length : Int) + 1 = I ((us.length + 1 : Nat) : Int) := I_add _ 1
    refine ⟨zu f x 2 (I ((us.length + 1 : Nat) : Int)), ?_, ⟨by rw [zu_same, List.length_append]; rfl, fun i u hi => ?_⟩, OFr.pI 2 _ (by simp)⟩
    · show p_X1_keep_c26 _ _ _ _ _ = _
      simp only [p_X1_keep_c26, p_X1_keep_b61, p_X9_size, z_b, z_rt, ite_ap, o_vr ot, o_gI ot, T.1, e1, if_true, o_gI o, A.1, e2, o_pI o]
    · rw [zu_ne (o_nx o (j := 1) (by decide)), zu_ne (o_nx o (j := 0) (by decide))]
      rcases snoc_get.mp hi with q | ⟨q1, q2⟩
      · exact A.2 i u q
      · subst q1 q2
        refine ⟨L, fun j c hc => ?_⟩
        have hj := lt_of_get hc
        rw [P j (by omega), List.getD_eq_getElem?_getD, hc]; rfl
  | succ c ih =>
    intro k n f hk hn T A L P
    cases n with
    | zero => exact absurd hn (Nat.not_lt_zero _)
    | succ n =>
      have ht := T.2.1
      have e1 : ¬ I (t.length : Int) ≤ I (k : Int) := by rw [I_le (by omega) (by omega)]; omega
      have e2 : I (k : Int) + 1 = I ((k + 1 : Nat) : Int) := I_add _ 1
      have e3 : I (us.length : Int) * 100 + I (k : Int) = I ((us.length * 100 + k : Nat) : Int) := by
        rw [show (100 : Int32) = I ((100 : Nat) : Int) from rfl, I_mn, I_an]
      have so := signOn_eq ot T hs (show k < t.length by omega)
      have n10 := o_ne o (i := 1) (j := 0) (by decide) (by decide) (by decide)
      have nx := o_nx o (j := 0) (by decide)
      have F1 : OFr f (zu f (ar 0) (us.length * 100 + k) (I (t.getD k 0))) x ar [2] [0, 1] := OFr.sI o 0 _ _ (by decide) (by simp)
      have A1 : HiC (zu f (ar 0) (us.length * 100 + k) (I (t.getD k 0))) x ar us := by
        refine ⟨by rw [zu_ne nx.symm]; exact A.1, fun i u hi => ?_⟩
        have hi' := lt_of_get hi
        obtain ⟨a1, a2⟩ := A.2 i u hi
        have ul := (hu u (List.mem_of_getElem? hi)).1
        refine ⟨by rw [zu_ne n10]; exact a1, fun j c hc => ?_⟩
        have hj := lt_of_get hc
        rw [zu_cell, if_neg (by omega)]; exact a2 j c hc
      have T1 : TxC (zu f (ar 0) (us.length * 100 + k) (I (t.getD k 0))) tx art t := by
        refine ⟨by rw [zu_ne (dj.2.2.1 0 (by decide)).symm]; exact T.1, T.2.1, fun i c hc => ?_⟩
        rw [zu_ne (dj.2.2.2 0 0 (by decide) (by decide)).symm]; exact T.2.2 i c hc
      obtain ⟨f', p1, p2, p3⟩ := ih (k + 1) n _ (by omega) (by omega) T1 A1 (by rw [zu_ne n10]; exact L) (fun j h => by
        rw [zu_cell]
        by_cases q : us.length * 100 + j = us.length * 100 + k
        · rw [if_pos q, show j = k by omega]
        · rw [if_neg q]; exact P j (by omega))
      refine ⟨f', ?_, p2, F1.trans p3⟩
      rw [← p1]
      show p_X1_keep_c26 (p_X1_keep_l26 n) _ _ _ _ = _
      simp only [p_X1_keep_c26, p_X9_size, z_b, z_rt, z_n, ite_ap, o_vr ot, o_gI ot, T.1, e1, if_false, o_gI o, A.1, o_gR o 0 (by decide), o_rv o 0 (by decide), so, e3, o_set o 0 2100 rfl (show us.length * 100 + k < 2100 by omega), e2]
theorem hkeep_eq (o : Ob h 2 x rw ar hSz) (ot : Ob h 10 tx rwt art tSz) (dj : Dj x ar hSz tx art tSz) (hs : ∀ c ∈ t, isSg c) (hl : us.length ≤ 20) (hu : UsOk us) {f : FI} (T : TxC f tx art t) (A : HiC f x ar us) :
    ∃ f', p_X1_keep (some x) (some tx) (hI h f) = some ((), hI h f') ∧ HiC f' x ar (us ++ [t]) ∧ OFr f f' x ar [2] [0, 1] := by
  have ht := T.2.1
  have n01 := o_ne o (i := 0) (j := 1) (by decide) (by decide) (by decide)
  have nx := o_nx o (j := 1) (by decide)
  have e1 : ¬ (20 : Int32) < I (us.length : Int) := by rw [lit, I_lt (by decide) (by omega)]; omega
  have F1 : OFr f (zu f (ar 1) us.length (I t.length)) x ar [2] [0, 1] := OFr.sI o 1 _ _ (by decide) (by simp)
  have A1 : HiC (zu f (ar 1) us.length (I t.length)) x ar us := by
    refine ⟨by rw [zu_ne nx.symm]; exact A.1, fun i u hi => ?_⟩
    have hi' := lt_of_get hi
    obtain ⟨a1, a2⟩ := A.2 i u hi
    refine ⟨by rw [zu_cell, if_neg (by omega)]; exact a1, fun j c hc => ?_⟩
    rw [zu_ne n01]; exact a2 j c hc
  have T1 : TxC (zu f (ar 1) us.length (I t.length)) tx art t := by
    refine ⟨by rw [zu_ne (dj.2.2.1 1 (by decide)).symm]; exact T.1, T.2.1, fun i c hc => ?_⟩
    rw [zu_ne (dj.2.2.2 1 0 (by decide) (by decide)).symm]; exact T.2.2 i c hc
  obtain ⟨f', p1, p2, p3⟩ := hkeep_l o ot dj hs hl hu t.length 0 zFuel _ (by omega) (by unfold zFuel; omega) T1 A1 (zu_same _ _ _ _) (fun j h => absurd h (Nat.not_lt_zero _))
  refine ⟨f', ?_, p2, F1.trans p3⟩
  have p1' : p_X1_keep_l26 zFuel (some x) (some tx) 0 (hI h (zu f (ar 1) us.length (I t.length))) = some ((), hI h f') := p1
  simp only [p_X1_keep, p_X9_size, z_b, z_rt, ite_ap, o_gI o, A.1, e1, if_false, o_gR o 1 (by decide), o_rv o 1 (by decide), o_vr ot, o_gI ot, T.1, o_set o 1 21 rfl (show us.length < 21 by omega), p1']
theorem hbegin_eq (o : Ob h 2 x rw ar hSz) (ot : Ob h 10 tx rwt art tSz) (dj : Dj x ar hSz tx art tSz) (hs : ∀ c ∈ t, isSg c) {f : FI} (T : TxC f tx art t) :
    ∃ f', p_X1_begin (some x) (some tx) (hI h f) = some ((), hI h f') ∧ HiC f' x ar [t] ∧ OFr f f' x ar [2] [0, 1] := by
  have A1 : HiC (zu f x 2 0) x ar [] := ⟨zu_same _ _ _ _, fun i u hi => by cases hi⟩
  have T1 : TxC (zu f x 2 0) tx art t := by
    refine ⟨by rw [zu_ne dj.1.symm]; exact T.1, T.2.1, fun i c hc => ?_⟩
    rw [zu_ne (dj.2.1 0 (by decide)).symm]; exact T.2.2 i c hc
  obtain ⟨f', p1, p2, p3⟩ := hkeep_eq o ot dj hs (us := []) (Nat.zero_le _) (fun u hu => absurd hu List.not_mem_nil) T1 A1
  refine ⟨f', ?_, p2, (OFr.pI 2 0 (by simp)).trans p3⟩
  simp only [p_X1_begin, z_b, z_rt, o_pI o, o_vr o, p1]
end
