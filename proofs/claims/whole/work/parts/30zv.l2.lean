/-! ===== mistakes ===== -/
/-- the mistakes of a word: what is wrong, broken, taken -/
def mkL (R : Nat → Nat) (B : Nat → Bool) (T : Nat → Option Nat) (i : Nat) : List (Nat × Nat) :=
  (if R i = 0 then [(0, i)] else []) ++ ((if B i = true then [(1, i)] else []) ++ (if T i = none then [] else [(2, i)]))
/-- those of words from i on, c of them -/
def mkA (R : Nat → Nat) (B : Nat → Bool) (T : Nat → Option Nat) : Nat → Nat → List (Nat × Nat)
  | 0, _ => []
  | c + 1, i => mkL R B T i ++ mkA R B T c (i + 1)
section
variable {h : ZH} {px : Nat} {rwp arp : Nat → Nat} {R : Nat → Nat} {B : Nat → Bool} {T : Nat → Option Nat}
theorem mkL_len (hx : ∀ i, R i = 0 → B i = false) (i : Nat) : (mkL R B T i).length ≤ 2 := by
  unfold mkL
  by_cases q : R i = 0
  · rw [if_pos q, hx i q, if_neg (by decide)]
    split <;> simp
  · rw [if_neg q]
    split <;> split <;> simp
/-- mistakes found so far -/
def MkC (f : FI) (px : Nat) (arp : Nat → Nat) (l : List (Nat × Nat)) : Prop := f px 6 = I l.length ∧ ∀ (m : Nat) (e : Nat × Nat), l[m]? = some e → f (arp 4) m = I e.1 ∧ f (arp 5) m = I e.2
theorem addM_eq (o : Ob h 4 px rwp arp pSz) {f : FI} {l : List (Nat × Nat)} (C : MkC f px arp l) (hl : l.length < 100) (k i : Nat) :
    ∃ f', p_X3_addMistake (some px) (I k) (I i) (hI h f) = some ((), hI h f') ∧ MkC f' px arp (l ++ [(k, i)]) ∧ OFr f f' px arp [6] [4, 5] := by
  have n45 := o_ne o (i := 4) (j := 5) (by decide) (by decide) (by decide)
  have n4x := o_nx o (j := 4) (by decide)
  have n5x := o_nx o (j := 5) (by decide)
  refine ⟨zu (zu (zu f (arp 4) l.length (I k)) (arp 5) l.length (I i)) px 6 (I ((l.length + 1 : Nat) : Int)), ?_, ⟨?_, fun m e he => ?_⟩, ((OFr.sI o 4 _ _ (by decide) (by simp)).trans (OFr.sI o 5 _ _ (by decide) (by simp))).trans (OFr.pI 6 _ (by simp))⟩
  · have e1 : zu f (arp 4) l.length (I k) px 6 = I l.length := by rw [zu_ne n4x.symm]; exact C.1
    have e2 : zu (zu f (arp 4) l.length (I k)) (arp 5) l.length (I i) px 6 = I l.length := by rw [zu_ne n5x.symm]; exact e1
    have e3 : I (l.length : Int) + 1 = I ((l.length + 1 : Nat) : Int) := I_add _ 1
    simp only [p_X3_addMistake, z_b, z_rt, o_gR o 4 (by decide), o_gI o, C.1, o_rv o 4 (by decide), o_set o 4 100 rfl hl, o_gR o 5 (by decide), e1, o_rv o 5 (by decide), o_set o 5 100 rfl hl, e2, e3, o_pI o]
  · rw [zu_same, List.length_append]; rfl
  · rw [zu_ne n4x, zu_ne n45, zu_cell, zu_ne n5x, zu_cell, zu_ne n45.symm]
    rcases snoc_get.mp he with z | ⟨z1, z⟩
    · have := lt_of_get z
      rw [if_neg (by omega), if_neg (by omega)]
      exact C.2 m e z
    · subst z
      subst z1
      rw [if_pos rfl, if_pos rfl]
      exact ⟨rfl, rfl⟩
theorem listM_l (o : Ob h 4 px rwp arp pSz) {nn : Nat} (hn : nn ≤ 50) (hR : ∀ i, i < nn → R i < 256) (hT : ∀ i r, T i = some r → r < 100) (hx : ∀ i, R i = 0 → B i = false) :
    ∀ (c i n : Nat) (f : FI) (l : List (Nat × Nat)), i + c = nn → c < n → l.length ≤ 2 * i → MkC f px arp l → (∀ j, j < nn → f (arp 0) j = I (R j) ∧ f (arp 3) j = bI (B j) ∧ f (arp 2) j = I (oz (T j))) →
      ∃ f', p_X3_listMistakes_l7 n (some px) (I nn) (I i) (hI h f) = some ((), hI h f') ∧ MkC f' px arp (l ++ mkA R B T c i) ∧ OFr f f' px arp [6] [4, 5] := by
  intro c
  induction c with
  | zero =>
    intro i n f l hi hn' hl C D
    obtain ⟨n, rfl⟩ := Nat.exists_eq_add_of_lt hn'
    have e1 : I (nn : Int) ≤ I (i : Int) := by rw [I_le (by omega) (by omega)]; omega
    refine ⟨f, ?_, by rw [show mkA R B T 0 i = [] from rfl, List.append_nil]; exact C, OFr.refl _ _ _ _ _⟩
    show p_X3_listMistakes_c7 _ _ _ _ _ = _
    simp only [p_X3_listMistakes_c7, z_rt, ite_ap, e1, if_true]
  | succ c ih =>
    intro i n f l hi hn' hl C D
    cases n with
    | zero => exact absurd hn' (Nat.not_lt_zero _)
    | succ n =>
      have hin : i < nn := by omega
      have i50 : i < 50 := by omega
      have e1 : ¬ I (nn : Int) ≤ I (i : Int) := by rw [I_le (by omega) (by omega)]; omega
      have e2 : I (i : Int) + 1 = I ((i + 1 : Nat) : Int) := I_add _ 1
      have q0 : ∀ f : FI, (f (arp 0) i = I (R i)) → ((f (arp 0) i = 0) ↔ R i = 0) := fun f hf => by
        have := hR i hin
        rw [hf, show (0 : Int32) = I ((0 : Nat) : Int) from rfl, I_eqN (by omega) (by decide)]
      have keep : ∀ {f f1 : FI}, OFr f f1 px arp [6] [4, 5] → (∀ j, j < nn → f (arp 0) j = I (R j) ∧ f (arp 3) j = bI (B j) ∧ f (arp 2) j = I (oz (T j))) → (∀ j, j < nn → f1 (arp 0) j = I (R j) ∧ f1 (arp 3) j = bI (B j) ∧ f1 (arp 2) j = I (oz (T j))) := fun {f f1} F D j hj => by
        rw [F.at_ o (j := 0) (by decide) (by simp) (by decide), F.at_ o (j := 3) (by decide) (by simp) (by decide), F.at_ o (j := 2) (by decide) (by simp) (by decide)]
        exact D j hj
      -- a style
      have r61 : ∀ (f : FI) (l : List (Nat × Nat)), l.length ≤ 2 * (i + 1) → MkC f px arp l → (∀ j, j < nn → f (arp 0) j = I (R j) ∧ f (arp 3) j = bI (B j) ∧ f (arp 2) j = I (oz (T j))) → ∃ f', p_X3_listMistakes_b61 (p_X3_listMistakes_l7 n) (some px) (I nn) (I i) (hI h f) = some ((), hI h f') ∧ MkC f' px arp (l ++ mkA R B T c (i + 1)) ∧ OFr f f' px arp [6] [4, 5] := by
        intro f l hl C D
        obtain ⟨f', p1, p2, p3⟩ := ih (i + 1) n f l (by omega) (by omega) hl C D
        refine ⟨f', ?_, p2, p3⟩
        rw [← p1]
        simp only [p_X3_listMistakes_b61, z_n, e2]
      have r43 : ∀ (f : FI) (l : List (Nat × Nat)), l.length + (if T i = none then 0 else 1) ≤ 2 * (i + 1) → MkC f px arp l → (∀ j, j < nn → f (arp 0) j = I (R j) ∧ f (arp 3) j = bI (B j) ∧ f (arp 2) j = I (oz (T j))) → ∃ f', p_X3_listMistakes_b43 (p_X3_listMistakes_l7 n) (some px) (I nn) (I i) (hI h f) = some ((), hI h f') ∧ MkC f' px arp (l ++ ((if T i = none then [] else [(2, i)]) ++ mkA R B T c (i + 1))) ∧ OFr f f' px arp [6] [4, 5] := by
        intro f l hl C D
        have d2 := (D i hin).2.2
        have om := oz_m1 (k := T i) (fun r hr => by have := hT i r hr; omega)
        simp only [p_X3_listMistakes_b43, z_b, ite_ap, o_gR o 2 (by decide), o_rv o 2 (by decide), o_get o 2 50 rfl i50, d2, om]
        by_cases z : T i = none
        · rw [if_pos z, if_pos z]
          rw [if_pos z] at hl
          exact r61 f l hl C D
        · rw [if_neg z, if_neg z]
          rw [if_neg z] at hl
          obtain ⟨f1, v1, v2, v3⟩ := addM_eq o C (by omega) 2 i
          have v1' : p_X3_addMistake (some px) 2 (I i) (hI h f) = some ((), hI h f1) := v1
          obtain ⟨f', p1, p2, p3⟩ := r61 f1 _ (by rw [List.length_append]; exact hl) v2 (keep v3 D)
          refine ⟨f', ?_, by rw [← List.append_assoc]; exact p2, v3.trans p3⟩
          rw [← p1]
          simp only [o_vr o, v1']
      have r26 : ∀ (f : FI) (l : List (Nat × Nat)), l.length + ((if B i = true then 1 else 0) + (if T i = none then 0 else 1)) ≤ 2 * (i + 1) → MkC f px arp l → (∀ j, j < nn → f (arp 0) j = I (R j) ∧ f (arp 3) j = bI (B j) ∧ f (arp 2) j = I (oz (T j))) → ∃ f', p_X3_listMistakes_b26 (p_X3_listMistakes_l7 n) (some px) (I nn) (I i) (hI h f) = some ((), hI h f') ∧ MkC f' px arp (l ++ ((if B i = true then [(1, i)] else []) ++ ((if T i = none then [] else [(2, i)]) ++ mkA R B T c (i + 1)))) ∧ OFr f f' px arp [6] [4, 5] := by
        intro f l hl C D
        have d2 := (D i hin).2.1
        have om : (bI (B i) = 0) ↔ ¬ B i = true := by cases B i <;> decide
        simp only [p_X3_listMistakes_b26, z_b, ite_ap, o_gR o 3 (by decide), o_rv o 3 (by decide), o_get o 3 50 rfl i50, d2, om]
        by_cases z : B i = true
        · rw [if_neg (fun y => y z), if_pos z]
          rw [if_pos z] at hl
          obtain ⟨f1, v1, v2, v3⟩ := addM_eq o C (by omega) 1 i
          have v1' : p_X3_addMistake (some px) 1 (I i) (hI h f) = some ((), hI h f1) := v1
          obtain ⟨f', p1, p2, p3⟩ := r43 f1 _ (by rw [List.length_append, List.length_singleton]; omega) v2 (keep v3 D)
          refine ⟨f', ?_, by rw [← List.append_assoc]; exact p2, v3.trans p3⟩
          rw [← p1]
          simp only [o_vr o, v1']
        · rw [if_pos z, if_neg z]
          rw [if_neg z] at hl
          exact r43 f l (by omega) C D
      have fin : ∀ l', l ++ mkA R B T (c + 1) i = l' → l' = l ++ ((if R i = 0 then [(0, i)] else []) ++ ((if B i = true then [(1, i)] else []) ++ ((if T i = none then [] else [(2, i)]) ++ mkA R B T c (i + 1)))) := fun l' hl' => by
        rw [← hl']
        show l ++ (mkL R B T i ++ mkA R B T c (i + 1)) = _
        unfold mkL
        rw [List.append_assoc, List.append_assoc]
      rw [fin _ rfl]
      have hlen : (if B i = true then 1 else 0) ≤ 1 := by split <;> decide
      have hlen2 : (if T i = none then 0 else 1) ≤ 1 := by split <;> decide
      show ∃ f', p_X3_listMistakes_c7 (p_X3_listMistakes_l7 n) _ _ _ _ = _ ∧ _
      have nz : ∀ p : Prop, [Decidable p] → (¬ ((if p then (0 : Int32) else 1) = 0)) = ¬ p := fun p _ => by
        by_cases z : p
        · rw [if_pos z]; exact propext (Iff.intro (fun y => absurd rfl y) (fun y => absurd z y))
        · rw [if_neg z]; exact propext (Iff.intro (fun _ => z) (fun _ => by decide))
      simp only [p_X3_listMistakes_c7, p_X3_isSpelledRight, z_b, z_rz, ite_ap, e1, if_false, o_vr o, o_gR o 0 (by decide), o_rv o 0 (by decide), o_get o 0 50 rfl i50, q0 f (D i hin).1, true_or, or_true, if_true]
      by_cases z : R i = 0
      · simp only [if_pos z, not_true_eq_false, if_false]
        have hb := hx i z
        obtain ⟨f1, v1, v2, v3⟩ := addM_eq o C (by omega) 0 i
        have v1' : p_X3_addMistake (some px) 0 (I i) (hI h f) = some ((), hI h f1) := v1
        obtain ⟨f', p1, p2, p3⟩ := r26 f1 _ (by rw [List.length_append, List.length_singleton, hb, if_neg (by decide)]; omega) v2 (keep v3 D)
        refine ⟨f', ?_, by rw [← List.append_assoc]; exact p2, v3.trans p3⟩
        rw [← p1]
        simp only [o_vr o, v1']
      · simp only [if_neg z]
        rw [if_pos (show ¬ (1 : Int32) = 0 by decide)]
        exact r26 f l (by omega) C D
theorem listM_eq (o : Ob h 4 px rwp arp pSz) {nn : Nat} (hn : nn ≤ 50) (hR : ∀ i, i < nn → R i < 256) (hT : ∀ i r, T i = some r → r < 100) (hx : ∀ i, R i = 0 → B i = false) {f : FI} (D : ∀ j, j < nn → f (arp 0) j = I (R j) ∧ f (arp 3) j = bI (B j) ∧ f (arp 2) j = I (oz (T j))) :
    ∃ f', p_X3_listMistakes (some px) (I nn) (hI h f) = some ((), hI h f') ∧ MkC f' px arp (mkA R B T nn 0) ∧ OFr f f' px arp [6] [4, 5] := by
  have n0 := o_nx o (j := 0) (by decide)
  have n2 := o_nx o (j := 2) (by decide)
  have n3 := o_nx o (j := 3) (by decide)
  obtain ⟨f', p1, p2, p3⟩ := listM_l o hn hR hT hx nn 0 zFuel (zu f px 6 0) [] (by omega) (by unfold zFuel; omega) (Nat.le_refl _) ⟨zu_same _ _ _ _, fun m e he => by cases he⟩ (fun j hj => by rw [zu_ne n0, zu_ne n3, zu_ne n2]; exact D j hj)
  refine ⟨f', ?_, p2, (OFr.pI 6 _ (by simp)).trans p3⟩
  have p1' : p_X3_listMistakes_l7 zFuel (some px) (I nn) 0 (hI h (zu f px 6 0)) = some ((), hI h f') := p1
  simp only [p_X3_listMistakes, z_b, o_pI o, p1']
end
