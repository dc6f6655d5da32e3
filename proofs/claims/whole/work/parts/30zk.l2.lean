/-! ===== edits of the class's text ===== -/
/-- only these fields of x, only these arrays may differ -/
def OFr (f f' : FI) (x : Nat) (ar : Nat → Nat) (ss as : List Nat) : Prop := (∀ j, j ∉ ss → f' x j = f x j) ∧ ∀ b, b ≠ x → b ∉ as.map ar → f' b = f b
section
variable {h : ZH} {c x : Nat} {rw ar sz : Nat → Nat} {f f' f'' : FI} {ss as ss' as' : List Nat}
theorem OFr.refl (f : FI) (x : Nat) (ar : Nat → Nat) (ss as : List Nat) : OFr f f x ar ss as := ⟨fun _ _ => rfl, fun _ _ _ => rfl⟩
theorem OFr.trans (a : OFr f f' x ar ss as) (b : OFr f' f'' x ar ss as) : OFr f f'' x ar ss as :=
  ⟨fun j hj => (b.1 j hj).trans (a.1 j hj), fun q h1 h2 => (b.2 q h1 h2).trans (a.2 q h1 h2)⟩
theorem OFr.mono (a : OFr f f' x ar ss as) (h1 : ∀ j ∈ ss, j ∈ ss') (h2 : ∀ j ∈ as, j ∈ as') : OFr f f' x ar ss' as' := by
  refine ⟨fun j hj => a.1 j (fun q => hj (h1 j q)), fun b hb hn => a.2 b hb (fun q => hn ?_)⟩
  obtain ⟨j, j1, j2⟩ := List.mem_map.mp q
  exact List.mem_map.mpr ⟨j, h2 j j1, j2⟩
theorem OFr.at_ (a : OFr f f' x ar ss as) (o : Ob h c x rw ar sz) {j : Nat} (hj : sz j ≠ 0) (hn : j ∉ as) (hz : ∀ i ∈ as, sz i ≠ 0) : f' (ar j) = f (ar j) := by
  refine a.2 _ (o_nx o hj) (fun z => ?_)
  obtain ⟨i, i1, i2⟩ := List.mem_map.mp z
  exact hn ((o.2.2 i j (hz i i1) hj i2) ▸ i1)
theorem OFr.pI (j : Nat) (v : Int32) (hj : j ∈ ss) : OFr f (zu f x j v) x ar ss as :=
  ⟨fun i hi => by rw [zu_cell, if_neg (fun (q : i = j) => hi (q ▸ hj))], fun b hb _ => zu_ne hb _ _⟩
theorem OFr.sI (o : Ob h c x rw ar sz) (j k : Nat) (v : Int32) (hz : sz j ≠ 0) (hj : j ∈ as) : OFr f (zu f (ar j) k v) x ar ss as :=
  ⟨fun i _ => by rw [zu_ne (o_nx o hz).symm], fun b _ hb => zu_ne (fun q => hb (by rw [q]; exact List.mem_map.mpr ⟨j, hj, rfl⟩)) _ _⟩
theorem OFr.sW (o : Ob h c x rw ar sz) (j : Nat) (v : Nat → Int32) (hz : sz j ≠ 0) (hj : j ∈ as) : OFr f (zw f (ar j) v) x ar ss as :=
  ⟨fun i _ => by rw [zw_ne (o_nx o hz).symm], fun b _ hb => zw_ne (fun q => hb (by rw [q]; exact List.mem_map.mpr ⟨j, hj, rfl⟩)) _⟩
theorem TFr.of {tx : Nat} (a : TFr f f' tx ar) : OFr f f' tx ar [7, 8] [1, 2, 3, 4, 5] := by
  refine ⟨fun j hj => ?_, fun b hb hn => a.1 b ?_⟩
  · simp only [List.mem_cons, List.not_mem_nil, or_false, not_or] at hj
    exact a.2 j hj.1 hj.2
  · intro q
    rcases List.mem_cons.mp q with z | z
    · exact hb z
    · exact hn z
end
def insT (t : List Nat) (p c : Nat) : List Nat := t.take p ++ c :: t.drop p
def remT (t : List Nat) (p : Nat) : List Nat := t.take p ++ t.drop (p + 1)
theorem insT_len {t : List Nat} {p c : Nat} (hp : p ≤ t.length) : (insT t p c).length = t.length + 1 := by
  unfold insT
  rw [List.length_append, List.length_cons, List.length_take, List.length_drop]; omega
theorem remT_len {t : List Nat} {p : Nat} (hp : p < t.length) : (remT t p).length + 1 = t.length := by
  unfold remT
  rw [List.length_append, List.length_take, List.length_drop]; omega
theorem insT_get {t : List Nat} {p c : Nat} (hp : p ≤ t.length) (i : Nat) : (insT t p c)[i]? = if i < p then t[i]? else if i = p then some c else t[i - 1]? := by
  unfold insT
  have hl : (t.take p).length = p := by rw [List.length_take]; omega
  by_cases h1 : i < p
  · rw [if_pos h1, List.getElem?_append_left (by omega), List.getElem?_take, if_pos h1]
  · rw [if_neg h1, List.getElem?_append_right (by omega), hl]
    by_cases h2 : i = p
    · rw [if_pos h2, h2, Nat.sub_self]; rfl
    · rw [if_neg h2, show i - p = (i - p - 1) + 1 by omega, List.getElem?_cons_succ, List.getElem?_drop, show p + (i - p - 1) = i - 1 by omega]
theorem remT_get {t : List Nat} {p : Nat} (hp : p < t.length) (i : Nat) : (remT t p)[i]? = if i < p then t[i]? else t[i + 1]? := by
  unfold remT
  have hl : (t.take p).length = p := by rw [List.length_take]; omega
  by_cases h1 : i < p
  · rw [if_pos h1, List.getElem?_append_left (by omega), List.getElem?_take, if_pos h1]
  · rw [if_neg h1, List.getElem?_append_right (by omega), hl, List.getElem?_drop, show p + 1 + (i - p) = i + 1 by omega]
theorem insT_mem {t : List Nat} {p c : Nat} (hs : ∀ c ∈ t, isSg c) (hc : isSg c) : ∀ d ∈ insT t p c, isSg d := by
  intro d hd
  unfold insT at hd
  rcases List.mem_append.mp hd with z | z
  · exact hs d (List.mem_of_mem_take z)
  · rcases List.mem_cons.mp z with y | y
    · rw [y]; exact hc
    · exact hs d (List.mem_of_mem_drop y)
theorem remT_mem {t : List Nat} {p : Nat} (hs : ∀ c ∈ t, isSg c) : ∀ d ∈ remT t p, isSg d := by
  intro d hd
  unfold remT at hd
  rcases List.mem_append.mp hd with z | z
  · exact hs d (List.mem_of_mem_take z)
  · exact hs d (List.mem_of_mem_drop z)
section
variable {h : ZH} {tx ty : Nat} {rw ar rw' ar' : Nat → Nat} {f f' : FI} {t b : List Nat}
theorem ins_eq (o : Ob h 10 tx rw ar tSz) (T : TxC f tx ar t) (hl : t.length < 100) {p : Nat} (hp : p ≤ t.length) (c : Nat) :
    ∃ f', p_X9_insertSign (some tx) (I p) (I c) (hI h f) = some ((), hI h f') ∧ TxC f' tx ar (insT t p c) ∧ OFr f f' tx ar [6] [0] := by
  have n0 := o_nx o (j := 0) (by decide)
  refine ⟨zu (zw f (ar 0) (insF (f (ar 0)) p t.length (I c))) tx 6 (I ((t.length + 1 : Nat) : Int)), ?_, ⟨?_, by rw [insT_len hp]; omega, fun i d hd => ?_⟩, (OFr.sW o 0 _ (by decide) (by simp)).trans (OFr.pI 6 _ (by simp))⟩
  · have e1 : ¬ (100 : Int32) ≤ I (t.length : Int) := by rw [lit, I_le (by decide) (by omega)]; omega
    have e2 : I (t.length : Int) + 1 = I ((t.length + 1 : Nat) : Int) := I_add _ 1
    have e3 : p_X4_insert (some (rw 0)) (I p) (I c) (I t.length) (hI h f) = _ := row_insertN (o.2.1 0 (by decide)).2.1 hp (show t.length < tSz 0 from hl) (I c)
    have e4 : zw f (ar 0) (insF (f (ar 0)) p t.length (I c)) tx 6 = I t.length := by rw [zw_ne n0.symm]; exact T.1
    simp only [p_X9_insertSign, z_b, z_rt, ite_ap, o_gI o, T.1, e1, if_false, o_gR o 0 (by decide), o_rv o 0 (by decide), e3, e4, e2, o_pI o]
  · rw [zu_same, insT_len hp]
  · rw [zu_ne n0, zw_same]
    rw [insT_get hp] at hd
    unfold insF
    by_cases h1 : i < p
    · rw [if_pos h1] at hd ⊢
      exact T.2.2 i d hd
    · rw [if_neg h1] at hd ⊢
      by_cases h2 : i = p
      · rw [if_pos h2] at hd ⊢
        cases hd; rfl
      · rw [if_neg h2] at hd ⊢
        have := lt_of_get hd
        rw [if_pos (by omega)]
        exact T.2.2 _ d hd
theorem rem_eq (o : Ob h 10 tx rw ar tSz) (T : TxC f tx ar t) {p : Nat} (hp : p < t.length) :
    ∃ f', p_X9_removeSign (some tx) (I p) (hI h f) = some ((), hI h f') ∧ TxC f' tx ar (remT t p) ∧ OFr f f' tx ar [6] [0] := by
  have n0 := o_nx o (j := 0) (by decide)
  have hl := T.2.1
  have hr := remT_len hp
  refine ⟨zu (zw f (ar 0) (remF (f (ar 0)) p t.length)) tx 6 (I ((t.length - 1 : Nat) : Int)), ?_, ⟨?_, by omega, fun i d hd => ?_⟩, (OFr.sW o 0 _ (by decide) (by simp)).trans (OFr.pI 6 _ (by simp))⟩
  · have e1 : ¬ I (t.length : Int) ≤ (0 : Int32) := by rw [lit, I_le (by omega) (by decide)]; omega
    have e2 : I (t.length : Int) - 1 = I ((t.length - 1 : Nat) : Int) := I_sn _ 1 (by omega)
    have e3 : p_X4_remove (some (rw 0)) (I p) (I t.length) (hI h f) = _ := row_removeN (o.2.1 0 (by decide)).2.1 hp (show t.length ≤ tSz 0 from hl)
    have e4 : zw f (ar 0) (remF (f (ar 0)) p t.length) tx 6 = I t.length := by rw [zw_ne n0.symm]; exact T.1
    simp only [p_X9_removeSign, z_b, z_rt, ite_ap, o_gI o, T.1, e1, if_false, o_gR o 0 (by decide), o_rv o 0 (by decide), e3, e4, e2, o_pI o]
  · rw [zu_same, show t.length - 1 = (remT t p).length by omega]
  · rw [zu_ne n0, zw_same]
    have hi := lt_of_get hd
    rw [remT_get hp] at hd
    unfold remF
    by_cases h1 : i < p
    · rw [if_pos h1] at hd
      rw [if_neg (by omega)]
      exact T.2.2 i d hd
    · rw [if_neg h1] at hd
      rw [if_pos (by omega)]
      exact T.2.2 _ d hd
end
