/-! mistakes: the reference -/
def bN (b : Bool) : Nat := if b = true then 1 else 0
section
variable {h : ZH} {M : Nat} {ar : Nat → Nat} {R : Nat → Nat} {B : Nat → Bool} {T : Nat → Option Nat} {nn : Nat}
/-- what the reference's rows say of the words -/
def MsM (f : FI) (ar : Nat → Nat) (M : Nat) (R : Nat → Nat) (B : Nat → Bool) (T : Nat → Option Nat) (nn : Nat) : Prop := f M 40 = I nn ∧ ∀ i, i < nn → f (ar 45) i = I (R i) ∧ f (ar 47) i = I (bN (B i)) ∧ f (ar 48) i = I (tk1 (T i))
theorem MsM.fr {f f' : FI} {g g' : FL} {ss as : List Nat} (D : MsM f ar M R B T nn) (F : MFr f f' g g' ar M ss as) (m : MAt h M ar) (h1 : 40 ∉ ss) (h5 : 45 ∉ as) (h7 : 47 ∉ as) (h8 : 48 ∉ as) (h3 : ∀ i ∈ as, (mSz i).1 ≠ 0) : MsM f' ar M R B T nn := by
  refine ⟨by rw [(F.1 40 h1).1]; exact D.1, fun i hi => ?_⟩
  rw [(F.at_ m (j := 45) (by decide) h5 h3).1, (F.at_ m (j := 47) (by decide) h7 h3).1, (F.at_ m (j := 48) (by decide) h8 h3).1]
  exact D.2 i hi
theorem mkL_cnt (i : Nat) : (mkL R B T i).length = (if R i = 0 then 1 else 0) + bN (B i) + (if T i = none then 0 else 1) := by
  unfold mkL bN
  rw [List.length_append, List.length_append]
  split <;> split <;> split <;> rfl
theorem mOf_eq (m : MAt h M ar) (hn : nn ≤ 50) {f : FI} {g : FL} (hR : ∀ i, i < nn → R i < 256) (hT : ∀ i r, T i = some r → r < 100) (D : MsM f ar M R B T nn) {i : Nat} (hi : i < nn) : p_X12_mistakesOf (some M) (I i) (hM h f g) = some (I (mkL R B T i).length, hM h f g) := by
  obtain ⟨d1, d2, d3⟩ := D.2 i hi
  have e0 : (I (R i : Int) = 0) ↔ R i = 0 := by
    have := hR i hi
    rw [show (0 : Int32) = I ((0 : Nat) : Int) from rfl, I_eqN (by omega) (by decide)]
  have e1 : (I (tk1 (T i) : Int) ≤ 0) ↔ T i = none := by
    cases q : T i with
    | none => exact Iff.intro (fun _ => rfl) (fun _ => by decide)
    | some r =>
      have := hT i r q
      show I ((r + 1 : Nat) : Int) ≤ 0 ↔ _
      rw [lit, I_le (by omega) (by decide)]
      exact Iff.intro (fun z => by omega) (fun z => by cases z)
  have b14 : ∀ a : Nat, p_X12_mistakesOf_b14 (some M) (I i) (I a) (hM h f g) = some (I ((a + bN (B i) + (if T i = none then 0 else 1) : Nat) : Int), hM h f g) := by
    intro a
    simp only [p_X12_mistakesOf_b14, p_X12_mistakesOf_b35, z_b, z_rt, ite_ap, m_gR m 47 (by decide), m_aI m 47 101 (by decide) (show i < 101 by omega) (by decide), d2, m_gR m 48 (by decide), m_aI m 48 101 (by decide) (show i < 101 by omega) (by decide), d3, e1, I_an]
    by_cases z : T i = none
    · rw [if_pos z, if_pos z]
      rw [show (0 : Int32) = I ((0 : Nat) : Int) from rfl, I_an]
    · rw [if_neg z, if_neg z]
      rw [show (1 : Int32) = I ((1 : Nat) : Int) from rfl, I_an]
  rw [mkL_cnt]
  simp only [p_X12_mistakesOf, z_b, ite_ap, m_gR m 45 (by decide), m_aI m 45 101 (by decide) (show i < 101 by omega) (by decide), d1, e0]
  by_cases z : R i = 0
  · rw [if_neg (fun y => y z), if_pos z]
    exact b14 1
  · rw [if_pos z, if_neg z]
    exact b14 0
theorem mkA_len (hx : ∀ i, R i = 0 → B i = false) : ∀ c i, (mkA R B T c i).length ≤ 2 * c := by
  intro c
  induction c with
  | zero => intro i; exact Nat.le_refl _
  | succ c ih =>
    intro i
    have a := ih (i + 1)
    have b := mkL_len (T := T) hx i
    show (mkL R B T i ++ mkA R B T c (i + 1)).length ≤ _
    rw [List.length_append]; omega
theorem mst_l (m : MAt h M ar) (hn : nn ≤ 50) {f : FI} {g : FL} (hR : ∀ i, i < nn → R i < 256) (hT : ∀ i r, T i = some r → r < 100) (hx : ∀ i, R i = 0 → B i = false) (D : MsM f ar M R B T nn) :
    ∀ (c i n acc : Nat), i + c = nn → c < n → p_X12_mistakes_l13 n (some M) (I acc) (I i) (hM h f g) = some (I ((acc + (mkA R B T c i).length : Nat) : Int), hM h f g) := by
  intro c
  induction c with
  | zero =>
    intro i n acc hi hn'
    obtain ⟨n, rfl⟩ := Nat.exists_eq_add_of_lt hn'
    have e1 : I (nn : Int) ≤ I (i : Int) := by rw [I_le (by omega) (by omega)]; omega
    show p_X12_mistakes_c13 _ _ _ _ _ = _
    simp only [p_X12_mistakes_c13, z_b, z_rt, ite_ap, m_gI m, D.1, e1, if_true]
    rfl
  | succ c ih =>
    intro i n acc hi hn'
    cases n with
    | zero => exact absurd hn' (Nat.not_lt_zero _)
    | succ n =>
      have e1 : ¬ I (nn : Int) ≤ I (i : Int) := by rw [I_le (by omega) (by omega)]; omega
      have e2 : I (i : Int) + 1 = I ((i + 1 : Nat) : Int) := I_add _ 1
      have mo := mOf_eq (f := f) (g := g) m hn hR hT D (i := i) (by omega)
      show p_X12_mistakes_c13 (p_X12_mistakes_l13 n) _ _ _ _ = some (I ((acc + (mkL R B T i ++ mkA R B T c (i + 1)).length : Nat) : Int), _)
      rw [List.length_append, ← Nat.add_assoc, ← ih (i + 1) n (acc + (mkL R B T i).length) (by omega) (by omega)]
      simp only [p_X12_mistakes_c13, z_b, z_n, ite_ap, m_gI m, D.1, e1, if_false, m_vr m, mo, I_an, e2]
theorem mkL_mem {i : Nat} {e : Nat × Nat} (hm : e ∈ mkL R B T i) : e.2 = i := by
  unfold mkL at hm
  rcases List.mem_append.mp hm with y | y
  · split at y
    · rw [List.mem_singleton.mp y]
    · cases y
  · rcases List.mem_append.mp y with x | x
    · split at x
      · rw [List.mem_singleton.mp x]
      · cases x
    · split at x
      · cases x
      · rw [List.mem_singleton.mp x]
theorem wordOf_l (m : MAt h M ar) (hn : nn ≤ 50) {g : FL} (hR : ∀ i, i < nn → R i < 256) (hT : ∀ i r, T i = some r → r < 100) (hx : ∀ i, R i = 0 → B i = false) {z : Int} (hz : 0 ≤ z ∧ z < 2147483648) :
    ∀ (c i n mm : Nat) (f : FI), i + c = nn → c < n → mm < 2147483648 → f M 52 = I mm → MsM f ar M R B T nn →
      ∃ f', MFr f f' g g ar M [52, 58] [] ∧ (mm < (mkA R B T c i).length → ∃ w at_ k, p_X12_wordOf_l11 n (some M) (I z) (I i) (hM h f g) = some (I (w : Nat), hM h f' g) ∧ f' M 58 = 0 ∧ f' M 52 = I (at_ : Nat) ∧ w < nn ∧ (mkL R B T w)[at_]? = some (k, w) ∧ (mkA R B T c i)[mm]? = some (k, w)) ∧ (¬ mm < (mkA R B T c i).length → p_X12_wordOf_l11 n (some M) (I z) (I i) (hM h f g) = some (-1, hM h f' g) ∧ f' M 58 = 1) := by
  have hz0 : ¬ I z < 0 := by rw [lit, I_lt (by omega) (by decide)]; omega
  intro c
  induction c with
  | zero =>
    intro i n mm f hi hn' hmm hf D
    obtain ⟨n, rfl⟩ := Nat.exists_eq_add_of_lt hn'
    have e1 : I (nn : Int) ≤ I (i : Int) := by rw [I_le (by omega) (by omega)]; omega
    refine ⟨zu f M 58 1, MFr.pI 58 1 (by simp), fun q => absurd q (Nat.not_lt_zero _), fun _ => ⟨?_, zu_same _ _ _ _⟩⟩
    show p_X12_wordOf_c11 _ _ _ _ _ = _
    simp only [p_X12_wordOf_c11, p_X12_wordOf_b62, z_b, z_rt, ite_ap, m_gI m, D.1, e1, if_true, m_pI m]
  | succ c ih =>
    intro i n mm f hi hn' hmm hf D
    cases n with
    | zero => exact absurd hn' (Nat.not_lt_zero _)
    | succ n =>
      have hin : i < nn := by omega
      have e1 : ¬ I (nn : Int) ≤ I (i : Int) := by rw [I_le (by omega) (by omega)]; omega
      have e2 : I (i : Int) + 1 = I ((i + 1 : Nat) : Int) := I_add _ 1
      have mo := mOf_eq (f := f) (g := g) m hn hR hT D hin
      have ml := mkL_len (T := T) hx i
      have e3 : I ((mkL R B T i).length : Int) ≤ I (mm : Int) ↔ ¬ mm < (mkL R B T i).length := by rw [I_le (by omega) (by omega)]; omega
      by_cases q : mm < (mkL R B T i).length
      · -- here
        refine ⟨zu f M 58 0, MFr.pI 58 0 (by simp), fun _ => ?_, fun z => absurd (show mm < (mkL R B T i ++ mkA R B T c (i + 1)).length by rw [List.length_append]; omega) z⟩
        have hg : (mkL R B T i)[mm]? = some ((mkL R B T i)[mm]'q) := List.getElem?_eq_getElem q
        have hw : ((mkL R B T i)[mm]'q).2 = i :=
           mkL_mem (List.getElem_mem q)
        have hg' : (mkL R B T i)[mm]? = some (((mkL R B T i)[mm]'q).1, i) := by rw [hg]; congr 1; exact Prod.ext rfl hw
        refine ⟨i, mm, ((mkL R B T i)[mm]'q).1, ?_, zu_same _ _ _ _, by rw [zu_cell, if_neg (by decide)]; exact hf, hin, hg', ?_⟩
        · show p_X12_wordOf_c11 (p_X12_wordOf_l11 n) _ _ _ _ = _
          simp only [p_X12_wordOf_c11, p_X12_wordOf_b35, z_b, z_rt, ite_ap, m_gI m, D.1, e1, if_false, hz0, hf, m_vr m, mo, e3, q, not_true_eq_false, m_pI m]
        · show (mkL R B T i ++ mkA R B T c (i + 1))[mm]? = _
          rw [List.getElem?_append_left q]; exact hg'
      · have e4 : I (mm : Int) - I ((mkL R B T i).length : Int) = I ((mm - (mkL R B T i).length : Nat) : Int) := I_sn _ _ (by omega)
        have F1 : MFr f (zu f M 52 (I ((mm - (mkL R B T i).length : Nat) : Int))) g g ar M [52, 58] [] := MFr.pI 52 _ (by simp)
        obtain ⟨f', p1, p2, p3⟩ := ih (i + 1) n (mm - (mkL R B T i).length) (zu f M 52 (I ((mm - (mkL R B T i).length : Nat) : Int))) (by omega) (by omega) (by omega) (zu_same _ _ _ _) (D.fr F1 m (by simp) (by simp) (by simp) (by simp) (by simp))
        have run : p_X12_wordOf_l11 (n + 1) (some M) (I z) (I i) (hM h f g) = p_X12_wordOf_l11 n (some M) (I z) (I ((i + 1 : Nat) : Int)) (hM h (zu f M 52 (I ((mm - (mkL R B T i).length : Nat) : Int))) g) := by
          show p_X12_wordOf_c11 (p_X12_wordOf_l11 n) _ _ _ _ = _
          simp only [p_X12_wordOf_c11, z_b, z_n, ite_ap, m_gI m, D.1, e1, if_false, hz0, hf, m_vr m, mo, e3, q, not_false_eq_true, if_true, e4, m_pI m, e2]
        refine ⟨f', F1.trans p1, fun hlt => ?_, fun hlt => ?_⟩
        · have hlt' : mm < (mkL R B T i ++ mkA R B T c (i + 1)).length := hlt
          rw [List.length_append] at hlt'
          obtain ⟨w, at_, k, a1, a2, a3, a4, a5, a6⟩ := p2 (by omega)
          refine ⟨w, at_, k, run.trans a1, a2, a3, a4, a5, ?_⟩
          show (mkL R B T i ++ mkA R B T c (i + 1))[mm]? = _
          rw [List.getElem?_append_right (by omega)]; exact a6
        · have hlt' : ¬ mm < (mkL R B T i ++ mkA R B T c (i + 1)).length := hlt
          rw [List.length_append] at hlt'
          obtain ⟨a1, a2⟩ := p3 (by omega)
          exact ⟨run.trans a1, a2⟩
/-- which kind stands at a place of a word's mistakes -/
theorem mkL_kind (hx : ∀ i, R i = 0 → B i = false) {w at_ k : Nat} (hg : (mkL R B T w)[at_]? = some (k, w)) : k = if R w = 0 then (if at_ = 0 then 0 else 2) else if B w = true ∧ at_ = 0 then 1 else 2 := by
  have hl := mkL_len (T := T) hx w
  have := lt_of_get hg
  by_cases q : R w = 0
  · rw [if_pos q]
    have hb := hx w q
    unfold mkL at hg
    rw [if_pos q, hb, if_neg (by decide)] at hg
    cases at_ with
    | zero => cases hg; rfl
    | succ a =>
      rw [if_neg (Nat.succ_ne_zero _)]
      cases hT : T w with
      | none => rw [hT, if_pos rfl] at hg; cases a <;> cases hg
      | some r =>
        rw [hT, if_neg (by simp)] at hg
        cases a with
        | zero => cases hg; rfl
        | succ a => cases hg
  · rw [if_neg q]
    unfold mkL at hg
    rw [if_neg q] at hg
    cases hb : B w with
    | true =>
      rw [hb, if_pos rfl] at hg
      cases at_ with
      | zero => rw [if_pos ⟨rfl, rfl⟩]; cases hg; rfl
      | succ a =>
        rw [if_neg (fun z => Nat.succ_ne_zero _ z.2)]
        cases hT : T w with
        | none => rw [hT, if_pos rfl] at hg; cases a <;> cases hg
        | some r =>
          rw [hT, if_neg (by simp)] at hg
          cases a with
          | zero => cases hg; rfl
          | succ a => cases hg
    | false =>
      rw [hb, if_neg (by decide)] at hg
      rw [if_neg (fun z => by cases z.1)]
      cases hT : T w with
      | none => rw [hT, if_pos rfl] at hg; cases at_ <;> cases hg
      | some r =>
        rw [hT, if_neg (by simp)] at hg
        cases at_ with
        | zero => cases hg; rfl
        | succ a => cases hg
end
