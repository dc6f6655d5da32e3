/-! an object of the class that holds rows -/
def Ob (h : ZH) (c x : Nat) (rw ar sz : Nat → Nat) : Prop := zK h x = (c + 6, 0) ∧ (∀ j, sz j ≠ 0 → zR h x j = some (rw j) ∧ RowAt h (rw j) (ar j) (sz j) ∧ ar j ≠ x) ∧ ∀ i j, sz i ≠ 0 → sz j ≠ 0 → ar i = ar j → i = j
section
variable {h : ZH} {c x : Nat} {rw ar sz : Nat → Nat} {f : FI}
theorem o_gI (o : Ob h c x rw ar sz) (j : Nat) : z_gI c j (some x) (hI h f) = some (f x j, hI h f) := if_pos o.1
theorem o_pI (o : Ob h c x rw ar sz) (j : Nat) (v : Int32) : z_pI c j (some x) v (hI h f) = some ((), hI h (zu f x j v)) := if_pos o.1
theorem o_gR (o : Ob h c x rw ar sz) (j : Nat) (hj : sz j ≠ 0) : z_gR c j (some x) (hI h f) = some (some (rw j), hI h f) := by
  have e : zR (hI h f) x j = some (rw j) := (o.2.1 j hj).1
  exact (if_pos o.1).trans (by rw [e])
theorem o_vr (o : Ob h c x rw ar sz) {α : Type} (k : ZM α) : z_vr c (some x) k (hI h f) = k (hI h f) := if_pos o.1
theorem o_rv (o : Ob h c x rw ar sz) (j : Nat) (hj : sz j ≠ 0) {α : Type} (k : ZM α) : z_vr 5 (some (rw j)) k (hI h f) = k (hI h f) := if_pos (o.2.1 j hj).2.1.1
theorem o_get (o : Ob h c x rw ar sz) (j n : Nat) (hj : sz j = n) {i : Nat} (hi : i < n) : p_X4_get (some (rw j)) (I i) (hI h f) = some (f (ar j) i, hI h f) :=
  row_getN (o.2.1 j (by omega)).2.1 (by omega)
theorem o_set (o : Ob h c x rw ar sz) (j n : Nat) (hj : sz j = n) {i : Nat} (hi : i < n) (v : Int32) : p_X4_set (some (rw j)) (I i) v (hI h f) = some ((), hI h (zu f (ar j) i v)) :=
  row_setN (o.2.1 j (by omega)).2.1 (by omega) v
theorem o_ne (o : Ob h c x rw ar sz) {i j : Nat} (hi : sz i ≠ 0) (hj : sz j ≠ 0) (hij : i ≠ j) : ar i ≠ ar j := fun q => hij (o.2.2 i j hi hj q)
theorem o_nx (o : Ob h c x rw ar sz) {j : Nat} (hj : sz j ≠ 0) : ar j ≠ x := (o.2.1 j hj).2.2
end
/-! ===== the class's text ===== -/
def tSz (j : Nat) : Nat := [100, 50, 50, 50, 102, 102].getD j 0
def cC (w : Wd) : Nat := if w.length ≤ 10 then cN w else 0
def WsC (f : FI) (tx : Nat) (ar : Nat → Nat) (ws : List Wr) : Prop := f tx 7 = I ws.length ∧ ∀ (i : Nat) (w : Wr), ws[i]? = some w → f (ar 1) i = I w.1 ∧ f (ar 2) i = I w.2.1.length ∧ f (ar 3) i = I (cC w.2.1)
def EsC (f : FI) (tx : Nat) (ar : Nat → Nat) (es : List (Nat × Nat)) : Prop := f tx 8 = I es.length ∧ f (ar 4) 0 = 0 ∧ f (ar 5) 0 = 0 ∧ ∀ (i : Nat) (e : Nat × Nat), es[i]? = some e → f (ar 4) (i + 1) = I e.1 ∧ f (ar 5) (i + 1) = I e.2
/-- the signs -/
def TxC (f : FI) (tx : Nat) (ar : Nat → Nat) (t : List Nat) : Prop := f tx 6 = I t.length ∧ t.length ≤ 100 ∧ ∀ (i : Nat) (c : Nat), t[i]? = some c → f (ar 0) i = I c
/-- what finding words may change -/
def TFr (f f' : FI) (tx : Nat) (ar : Nat → Nat) : Prop := Fr f f' [tx, ar 1, ar 2, ar 3, ar 4, ar 5] ∧ ∀ j, j ≠ 7 → j ≠ 8 → f' tx j = f tx j
section
variable {h : ZH} {tx : Nat} {rw ar : Nat → Nat} {f f' f'' : FI}
theorem TFr.refl (f : FI) (tx : Nat) (ar : Nat → Nat) : TFr f f tx ar := ⟨Fr.refl _ _, fun _ _ _ => rfl⟩
theorem TFr.trans (a : TFr f f' tx ar) (b : TFr f' f'' tx ar) : TFr f f'' tx ar := ⟨a.1.trans b.1, fun j h1 h2 => (b.2 j h1 h2).trans (a.2 j h1 h2)⟩
theorem TxC.fr (o : Ob h 10 tx rw ar tSz) {t : List Nat} (T : TxC f tx ar t) (a : TFr f f' tx ar) : TxC f' tx ar t := by
  obtain ⟨t1, t2, t3⟩ := T
  refine ⟨by rw [a.2 6 (by decide) (by decide)]; exact t1, t2, fun i c hc => ?_⟩
  rw [a.1 (ar 0)]
  · exact t3 i c hc
  · simp only [List.mem_cons, List.not_mem_nil, or_false, not_or]
    exact ⟨o_nx o (by decide), o_ne o (by decide) (by decide) (by decide), o_ne o (by decide) (by decide) (by decide), o_ne o (by decide) (by decide) (by decide), o_ne o (by decide) (by decide) (by decide), o_ne o (by decide) (by decide) (by decide)⟩
theorem cC_step {u : Wd} {l : Nat} (hl : l < 8) (h : ZH) (hu : u.length < 10) : p_X11_withLetter (I (cC u)) (I l) h = some (I (cC (u ++ [l])), h) := by
  have e1 : cC u = cN u := if_pos (by omega)
  have e2 : cC (u ++ [l]) = cN (u ++ [l]) := if_pos (by rw [List.length_append]; simp; omega)
  rw [e1, e2]
  exact withLetter_eq h hl
theorem add50 (o : Ob h 10 tx rw ar tSz) {u : List Wr} {w : Wr} {es : List (Nat × Nat)} {l : Nat} (hl : l < 8) (hu : u.length < 50) (hw : w.2.1.length < 100) (W : WsC f tx ar (u ++ [w])) (E : EsC f tx ar es) :
    ∃ f', p_X9_addLetter_b50 (some tx) (I l) (hI h f) = some ((), hI h f') ∧ WsC f' tx ar (u ++ [(w.1, w.2.1 ++ [l], w.2.2)]) ∧ EsC f' tx ar es ∧ TFr f f' tx ar := by
  obtain ⟨w1, w2⟩ := W
  obtain ⟨b1, b2, b3⟩ := w2 u.length w (snoc_get.mpr (Or.inr ⟨rfl, rfl⟩))
  have n23 := o_ne o (i := 2) (j := 3) (by decide) (by decide) (by decide)
  have n12 := o_ne o (i := 1) (j := 2) (by decide) (by decide) (by decide)
  have n13 := o_ne o (i := 1) (j := 3) (by decide) (by decide) (by decide)
  have n2x := o_nx o (j := 2) (by decide)
  have n3x := o_nx o (j := 3) (by decide)
  have n24 := o_ne o (i := 2) (j := 4) (by decide) (by decide) (by decide)
  have n34 := o_ne o (i := 3) (j := 4) (by decide) (by decide) (by decide)
  have n25 := o_ne o (i := 2) (j := 5) (by decide) (by decide) (by decide)
  have n35 := o_ne o (i := 3) (j := 5) (by decide) (by decide) (by decide)
  have hlen : (u ++ [w]).length = u.length + 1 := by simp
  have hlen' : (u ++ [(w.1, w.2.1 ++ [l], w.2.2)]).length = u.length + 1 := by simp
  rw [hlen] at w1
  refine ⟨zu (zu f (ar 2) u.length (I ((w.2.1.length + 1 : Nat) : Int))) (ar 3) u.length (I (cC (w.2.1 ++ [l]))), ?_, ⟨?_, fun i w' hw' => ?_⟩, ⟨?_, ?_, ?_, fun i e he => ?_⟩, (Fr.zu (by simp)).trans (Fr.zu (by simp)), fun j _ _ => ?_⟩
  · have e1 : I ((u.length + 1 : Nat) : Int) - 1 = I (u.length : Int) := I_sn (u.length + 1) 1 (by omega)
    have e2 : I (w.2.1.length : Int) + 1 = I ((w.2.1.length + 1 : Nat) : Int) := I_add _ 1
    have e3 : (10 : Int32) ≤ I (w.2.1.length : Int) ↔ 10 ≤ w.2.1.length := by rw [lit, I_le (by decide) (by omega)]; omega
    have e4 : zu f (ar 2) u.length (I ((w.2.1.length + 1 : Nat) : Int)) (ar 3) u.length = I (cC w.2.1) := by rw [zu_ne n23.symm]; exact b3
    simp only [p_X9_addLetter_b50, z_b, z_n, ite_ap, o_gI o, w1, e1, o_gR o 2 (by decide), o_rv o 2 (by decide), o_get o 2 50 rfl hu, b2, o_set o 2 50 rfl hu, e2, o_gR o 3 (by decide), o_rv o 3 (by decide), o_get o 3 50 rfl hu, e3, e4]
    by_cases q : 10 ≤ w.2.1.length
    · have c0 : cC (w.2.1 ++ [l]) = 0 := if_neg (by rw [List.length_append]; simp; omega)
      rw [if_pos q, c0]
      simp only [p_X9_addLetter_b112, z_b, z_rt, o_rv o 3 (by decide), o_set o 3 50 rfl hu]
      rfl
    · rw [if_neg q]
      simp only [cC_step hl _ (show w.2.1.length < 10 by omega), p_X9_addLetter_b112, z_b, z_rt, o_rv o 3 (by decide), o_set o 3 50 rfl hu]
  · rw [zu_ne n3x.symm, zu_ne n2x.symm, w1, hlen']
  · rw [zu_ne n13, zu_ne n12, zu_ne n23, zu_cell, zu_cell, zu_ne n23.symm]
    rcases snoc_get.mp hw' with z | ⟨z1, z⟩
    · have := lt_of_get z
      rw [if_neg (by omega), if_neg (by omega)]
      exact w2 i w' (snoc_get.mpr (Or.inl z))
    · subst z
      subst z1
      rw [if_pos rfl, if_pos rfl]
      refine ⟨b1, ?_, rfl⟩
      show I _ = I ((w.2.1 ++ [l]).length : Int)
      rw [List.length_append]; rfl
  · rw [zu_ne n3x.symm, zu_ne n2x.symm]; exact E.1
  · rw [zu_ne n34.symm, zu_ne n24.symm]; exact E.2.1
  · rw [zu_ne n35.symm, zu_ne n25.symm]; exact E.2.2.1
  · rw [zu_ne n34.symm, zu_ne n24.symm, zu_ne n35.symm, zu_ne n25.symm]; exact E.2.2.2 i e he
  · rw [zu_ne n3x.symm, zu_ne n2x.symm]
end
