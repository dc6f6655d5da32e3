/-! ===== the texts that a correction went through: the reference ===== -/
def HiM (f : FI) (ar : Nat → Nat) (us : List (List Nat)) : Prop := ∀ (i : Nat) (u : List Nat), us[i]? = some u → f (ar 57) (101 * i) = I u.length ∧ ∀ (k c : Nat), u[k]? = some c → f (ar 57) (101 * i + 1 + k) = I c
theorem HiM.congr {f f' : FI} {ar : Nat → Nat} {us : List (List Nat)} (A : HiM f ar us) (h : f' (ar 57) = f (ar 57)) : HiM f' ar us := by
  unfold HiM at *; rw [h]; exact A
theorem HiC.congr {f f' : FI} {x : Nat} {ar : Nat → Nat} {us : List (List Nat)} (A : HiC f x ar us) (h : f' x = f x) (h0 : f' (ar 0) = f (ar 0)) (h1 : f' (ar 1) = f (ar 1)) : HiC f' x ar us := by
  unfold HiC at *; rw [h, h0, h1]; exact A
theorem drop_cons {us : List (List Nat)} {j : Nat} (hj : j < us.length) : us.drop j = us.getD j [] :: us.drop (j + 1) := by
  rw [List.drop_eq_getElem_cons hj]
  congr 1
  have := List.getElem?_eq_getElem hj
  rw [getD_some (d := []) hj] at this
  exact (Option.some.inj this).symm
section
variable {h : ZH} {M : Nat} {ar : Nat → Nat} {t : List Nat} {us : List (List Nat)} {f : FI} {g : FL}
theorem iss0 (m : MAt h M ar) {i k n : Nat} : p_X12_isState_l24 (n + 1) (some M) (I i) 0 (I k) (hM h f g) = some (0, hM h f g) := by
  show p_X12_isState_c24 _ _ _ _ _ _ = _
  simp only [p_X12_isState_c24, z_b, z_rz, ite_ap, m_gI m, true_or, if_true, ite_self]
theorem iss_l (m : MAt h M ar) (T : TxM f ar M t) (hs : ∀ c ∈ t, isSg c) {i : Nat} (hi : i < 21) {u : List Nat} (hu : u.length = t.length) (hsu : ∀ c ∈ u, isSg c) (U : ∀ (k c : Nat), u[k]? = some c → f (ar 57) (101 * i + 1 + k) = I c) :
    ∀ (c k n : Nat), k + c = t.length → c < n → (∀ j, j < k → u[j]? = t[j]?) → p_X12_isState_l24 n (some M) (I i) 1 (I k) (hM h f g) = some (if u = t then 1 else 0, hM h f g) := by
  have hl := T.2.1
  intro c
  induction c with
  | zero =>
    intro k n hk hn hj
    obtain ⟨n, rfl⟩ := Nat.exists_eq_add_of_lt hn
    have e1 : I (t.length : Int) ≤ I (k : Int) := by rw [I_le (by omega) (by omega)]; omega
    rw [if_pos (eq_of_upto hu (fun j h => hj j (by omega)))]
    show p_X12_isState_c24 _ _ _ _ _ _ = _
    simp only [p_X12_isState_c24, z_b, z_rz, ite_ap, m_gI m, T.1, e1, if_true, or_true]
  | succ c ih =>
    intro k n hk hn hj
    cases n with
    | zero => exact absurd hn (Nat.not_lt_zero _)
    | succ n =>
      have e1 : ¬ I (t.length : Int) ≤ I (k : Int) := by rw [I_le (by omega) (by omega)]; omega
      have e2 : I (k : Int) + 1 = I ((k + 1 : Nat) : Int) := I_add _ 1
      have e3 : 101 * I (i : Int) + 1 + I (k : Int) = I ((101 * i + 1 + k : Nat) : Int) := by
        rw [show (101 : Int32) = I ((101 : Nat) : Int) from rfl, show (1 : Int32) = I ((1 : Nat) : Int) from rfl, I_mn, I_an, I_an]
      have n1 : ¬ ((1 : Int32) = 0) := by decide
      have gu := getD_some (t := u) (d := 0) (show k < u.length by omega)
      have gt := getD_some (t := t) (d := 0) (show k < t.length by omega)
      have b1 := sg_lt (hsu _ (List.mem_of_getElem? gu))
      have b2 := sg_lt (hs _ (List.mem_of_getElem? gt))
      have e4 : (I (u.getD k 0 : Int) = I (t.getD k 0 : Int)) ↔ u.getD k 0 = t.getD k 0 := I_eqN (by omega) (by omega)
      show p_X12_isState_c24 (p_X12_isState_l24 n) _ _ _ _ _ = _
      simp only [p_X12_isState_c24, p_X12_isState_b63, z_b, z_n, ite_ap, m_gI m, T.1, e1, if_false, n1, m_gR m 57 (by decide), m_gR m 33 (by decide), e3, m_aI m 57 2121 (by decide) (show 101 * i + 1 + k < 2121 by omega) (by decide), m_aI m 33 100 (by decide) (show k < 100 by omega) (by decide), U k _ gu, T.2.2 k _ gt, e4, e2]
      by_cases q : u.getD k 0 = t.getD k 0
      · rw [if_neg (fun y => y q)]
        refine ih (k + 1) n (by omega) (by omega) (fun j h => ?_)
        by_cases z : j = k
        · rw [z, gu, gt, q]
        · exact hj j (by omega)
      · have ne : ¬ u = t := fun y => q (by rw [y])
        obtain ⟨n', rfl⟩ : ∃ n', n = n' + 1 := ⟨n - 1, by omega⟩
        rw [if_pos q, iss0 m, if_neg ne]
theorem isState_eq (m : MAt h M ar) (T : TxM f ar M t) (hs : ∀ c ∈ t, isSg c) (hl : us.length ≤ 21) (hu : UsOk us) (A : HiM f ar us) {i : Nat} (hi : i < us.length) : p_X12_isState (some M) (I i) (hM h f g) = some (if us.getD i [] = t then 1 else 0, hM h f g) := by
  have ht := T.2.1
  have gu := getD_some (t := us) (d := []) hi
  obtain ⟨a1, a2⟩ := A i _ gu
  obtain ⟨u1, u2⟩ := hu _ (List.mem_of_getElem? gu)
  have e3 : (I ((us.getD i []).length : Int) = I (t.length : Int)) ↔ (us.getD i []).length = t.length := I_eqN (by omega) (by omega)
  have e4 : 101 * I (i : Int) = I ((101 * i : Nat) : Int) := by
    rw [show (101 : Int32) = I ((101 : Nat) : Int) from rfl, I_mn]
  simp only [p_X12_isState, p_X12_isState_b21, z_b, ite_ap, m_gR m 57 (by decide), e4, m_aI m 57 2121 (by decide) (show 101 * i < 2121 by omega) (by decide), a1, m_gI m, T.1, e3]
  by_cases q : (us.getD i []).length = t.length
  · rw [if_neg (fun y => y q)]
    exact iss_l m T hs (by omega) q u2 a2 t.length 0 zFuel (by omega) (by unfold zFuel; omega) (fun j h => absurd h (Nat.not_lt_zero _))
  · rw [if_pos q, if_neg (fun y => q (by rw [y]))]
    exact iss0 m (k := 0) (n := 999999)
theorem kst_l (m : MAt h M ar) (g : FL) (hs : ∀ c ∈ t, isSg c) (hl : us.length ≤ 20) (hu : UsOk us) :
    ∀ (c k n : Nat) (f : FI), k + c = t.length → c < n → TxM f ar M t → HiM f ar us → f (ar 57) (101 * us.length) = I t.length → (∀ j, j < k → f (ar 57) (101 * us.length + 1 + j) = I (t.getD j 0)) →
      ∃ f', p_X12_keepsState_l15 n (some M) (I us.length) (I k) (hM h f g) = some ((), hM h f' g) ∧ HiM f' ar (us ++ [t]) ∧ MFr f f' g g ar M [] [57] := by
  intro c
  induction c with
  | zero =>
    intro k n f hk hn T A L P
    obtain ⟨n, rfl⟩ := Nat.exists_eq_add_of_lt hn
    have ht := T.2.1
    have e1 : I (t.length : Int) ≤ I (k : Int) := by rw [I_le (by omega) (by omega)]; omega
    refine ⟨f, ?_, fun i u hi => ?_, MFr.refl _ _ _ _ _ _⟩
    · show p_X12_keepsState_c15 _ _ _ _ _ = _
      simp only [p_X12_keepsState_c15, z_b, z_rt, ite_ap, m_gI m, T.1, e1, if_true]
    · rcases snoc_get.mp hi with q | ⟨q1, q2⟩
      · exact A i u q
      · subst q1 q2
        refine ⟨L, fun j c hc => ?_⟩
        have hj := lt_of_get hc
        rw [P j (by omega), List.getD_eq_getElem?_getD, hc]; rfl
  | succ c ih =>
    intro k n f hk hn T A L P
    cases n with
    | zero => exact absurd hn (Nat.not_lt_zero _)
    | succ n =>
      have ht := T.2.1
      have e1 : ¬ I (t.length : Int) ≤ I (k : Int) := by rw [I_le (by omega) (by omega)]; omega
      have e2 : I (k : Int) + 1 = I ((k + 1 : Nat) : Int) := I_add _ 1
      have e3 : 101 * I (us.length : Int) + 1 + I (k : Int) = I ((101 * us.length + 1 + k : Nat) : Int) := by
        rw [show (101 : Int32) = I ((101 : Nat) : Int) from rfl, show (1 : Int32) = I ((1 : Nat) : Int) from rfl, I_mn, I_an, I_an]
      have gt := getD_some (t := t) (d := 0) (show k < t.length by omega)
      have F1 : MFr f (zu f (ar 57) (101 * us.length + 1 + k) (I (t.getD k 0))) g g ar M [] [57] := MFr.sI m 57 _ _ (by decide) (by simp)
      have A1 : HiM (zu f (ar 57) (101 * us.length + 1 + k) (I (t.getD k 0))) ar us := by
        intro i u hi
        have hi' := lt_of_get hi
        obtain ⟨a1, a2⟩ := A i u hi
        have ul := (hu u (List.mem_of_getElem? hi)).1
        refine ⟨by rw [zu_cell, if_neg (by omega)]; exact a1, fun j c hc => ?_⟩
        have hj := lt_of_get hc
        rw [zu_cell, if_neg (by omega)]; exact a2 j c hc
      obtain ⟨f', p1, p2, p3⟩ := ih (k + 1) n _ (by omega) (by omega) (T.fr F1 m (by simp) (by simp) (by decide)) A1 (by rw [zu_cell, if_neg (by omega)]; exact L) (fun j h => by
        rw [zu_cell]
        by_cases q : 101 * us.length + 1 + j = 101 * us.length + 1 + k
        · rw [if_pos q, show j = k by omega]
        · rw [if_neg q]; exact P j (by omega))
      refine ⟨f', ?_, p2, F1.trans p3⟩
      rw [← p1]
      show p_X12_keepsState_c15 (p_X12_keepsState_l15 n) _ _ _ _ = _
      simp only [p_X12_keepsState_c15, z_b, z_n, ite_ap, m_gI m, T.1, e1, if_false, m_gR m 57 (by decide), m_gR m 33 (by decide), m_aI m 33 100 (by decide) (show k < 100 by omega) (by decide), T.2.2 k _ gt, e3, m_sI m 57 2121 (by decide) (show 101 * us.length + 1 + k < 2121 by omega) (by decide), e2]
theorem kst_eq (m : MAt h M ar) {f : FI} {g : FL} (hs : ∀ c ∈ t, isSg c) (hl : us.length ≤ 20) (hu : UsOk us) (T : TxM f ar M t) (A : HiM f ar us) :
    ∃ f', p_X12_keepsState (some M) (I us.length) (hM h f g) = some ((), hM h f' g) ∧ HiM f' ar (us ++ [t]) ∧ MFr f f' g g ar M [] [57] := by
  have ht := T.2.1
  have e4 : 101 * I (us.length : Int) = I ((101 * us.length : Nat) : Int) := by
    rw [show (101 : Int32) = I ((101 : Nat) : Int) from rfl, I_mn]
  have F1 : MFr f (zu f (ar 57) (101 * us.length) (I t.length)) g g ar M [] [57] := MFr.sI m 57 _ _ (by decide) (by simp)
  have A1 : HiM (zu f (ar 57) (101 * us.length) (I t.length)) ar us := by
    intro i u hi
    have hi' := lt_of_get hi
    obtain ⟨a1, a2⟩ := A i u hi
    have ul := (hu u (List.mem_of_getElem? hi)).1
    refine ⟨by rw [zu_cell, if_neg (by omega)]; exact a1, fun j c hc => ?_⟩
    have hj := lt_of_get hc
    rw [zu_cell, if_neg (by omega)]; exact a2 j c hc
  obtain ⟨f', p1, p2, p3⟩ := kst_l m g hs hl hu t.length 0 zFuel _ (by omega) (by unfold zFuel; omega) (T.fr F1 m (by simp) (by simp) (by decide)) A1 (zu_same _ _ _ _) (fun j h => absurd h (Nat.not_lt_zero _))
  refine ⟨f', ?_, p2, F1.trans p3⟩
  have p1' : p_X12_keepsState_l15 zFuel (some M) (I us.length) 0 (hM h (zu f (ar 57) (101 * us.length) (I t.length)) g) = some ((), hM h f' g) := p1
  simp only [p_X12_keepsState, z_b, m_gR m 57 (by decide), m_gI m, T.1, e4, m_sI m 57 2121 (by decide) (show 101 * us.length < 2121 by omega) (by decide), p1']
/-- was the text so before? -/
theorem cor31 (m : MAt h M ar) (r12 : Option Nat → Int32 → ZM Int32) (T : TxM f ar M t) (hs : ∀ c ∈ t, isSg c) (hl : us.length ≤ 21) (hu : UsOk us) (A : HiM f ar us) :
    ∀ (c j n : Nat), j + c = us.length → c < n → p_X12_correct_l31 r12 n (some M) (I us.length) (I j) (hM h f g) = if t ∈ us.drop j then some (-1, hM h f g) else p_X12_correct_b52 r12 (some M) (I us.length) (hM h f g) := by
  intro c
  induction c with
  | zero =>
    intro j n hj hn
    obtain ⟨n, rfl⟩ := Nat.exists_eq_add_of_lt hn
    have e1 : I (us.length : Int) ≤ I (j : Int) := by rw [I_le (by omega) (by omega)]; omega
    rw [List.drop_eq_nil_of_le (by omega), if_neg List.not_mem_nil]
    show p_X12_correct_c31 _ _ _ _ _ _ = _
    simp only [p_X12_correct_c31, ite_ap, e1, if_true]
  | succ c ih =>
    intro j n hj hn
    cases n with
    | zero => exact absurd hn (Nat.not_lt_zero _)
    | succ n =>
      have e1 : ¬ I (us.length : Int) ≤ I (j : Int) := by rw [I_le (by omega) (by omega)]; omega
      have e2 : I (j : Int) + 1 = I ((j + 1 : Nat) : Int) := I_add _ 1
      have n1 : ¬ ((1 : Int32) = 0) := by decide
      have ih' := ih (j + 1) n (by omega) (by omega)
      have st := isState_eq (g := g) m T hs hl hu A (show j < us.length by omega)
      have em : (t ∈ us.drop j) ↔ (us.getD j [] = t ∨ t ∈ us.drop (j + 1)) := by
        rw [drop_cons (by omega), List.mem_cons]
        exact ⟨fun q => q.imp Eq.symm id, fun q => q.imp Eq.symm id⟩
      show p_X12_correct_c31 r12 (p_X12_correct_l31 r12 n) _ _ _ _ = _
      simp only [p_X12_correct_c31, z_b, z_n, z_rt, ite_ap, e1, if_false, m_vr m, st, e2, ih']
      by_cases z : us.getD j [] = t
      · have em' : t ∈ us.drop j := em.mpr (Or.inl z)
        simp only [z, em', if_true, n1, if_false]
      · by_cases y : t ∈ us.drop (j + 1)
        · have em' : t ∈ us.drop j := em.mpr (Or.inr y)
          simp only [z, y, em', if_true, if_false]
        · have em' : ¬ t ∈ us.drop j := fun w => (em.mp w).elim z y
          simp only [z, y, em', if_true, if_false]
end
/-! ===== one change, all changes ===== -/
/-- the first word that is not right and has a suggestion, with it -/
def fiW (R : Nat → Nat) (S : Nat → List (Nat × Wd)) : Nat → Nat → Option (Nat × Wd)
  | 0, _ => none
  | c + 1, i => if R i = 0 then (match S i with | [] => fiW R S c (i + 1) | e :: _ => some (i, e.2)) else fiW R S c (i + 1)
/-- the first word at which a style is taken, with it -/
def fiS (T : Nat → Option Nat) : Nat → Nat → Option (Nat × Nat)
  | 0, _ => none
  | c + 1, i => match T i with | none => fiS T c (i + 1) | some r => some (i, r)
def chT (t : List Nat) (j : Nat) (w : Wd) : Option (List Nat) := if t.length - (wdT t j).length + w.length ≤ 100 then some (repT t ((wsOf t).getD j (0, [], 0)).1 (wdT t j).length w) else none
def coW (t : List Nat) (k : Option (List Nat)) : Option (Nat × Wd) → Option (List Nat)
  | some (i, w) => chT t i w
  | none => k
def coS (sy : List Sty) (t : List Nat) : Option (Nat × Nat) → Option (List Nat)
  | some (i, r) => chT t (i + (sy.getD r ([], 0, [])).2.1) (sy.getD r ([], 0, [])).2.2
  | none => none
def co1 (R : Nat → Nat) (S : Nat → List (Nat × Wd)) (T : Nat → Option Nat) (sy : List Sty) (t : List Nat) : Option (List Nat) := coW t (coS sy t (fiS T (wsOf t).length 0)) (fiW R S (wsOf t).length 0)
def coL (nx : List Nat → Option (List Nat)) : Nat → List (List Nat) → List Nat → Int × List Nat
  | 0, us, t => ((us.length : Int) - 1, t)
  | c + 1, us, t => match nx t with
    | none => ((us.length : Int) - 1, t)
    | some t' => if t' ∈ us then (-1, t') else coL nx c (us ++ [t']) t'
def bO {α : Type} : Option α → Int32
  | none => 0
  | some _ => 1
