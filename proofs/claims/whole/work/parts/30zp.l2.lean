/-! grammar: the reference -/
section
variable {h : ZH} {M : Nat} {ar : Nat → Nat} {tl R sn bn : Nat → Nat} {nn : Nat}
/-- the sentences of words: where each one's ends -/
def SnOk (sn bn : Nat → Nat) (nn : Nat) : Prop := ∀ i, i < nn → i < bn i ∧ bn i ≤ nn ∧ (i + 1 < nn → (sn (i + 1) = sn i ↔ i + 1 < bn i)) ∧ (i + 1 < bn i → bn (i + 1) = bn i) ∧ sn i < 1000
/-- words with readings and sentences, in the reference's rows -/
def RdM (f : FI) (ar : Nat → Nat) (M : Nat) (R sn : Nat → Nat) (nn : Nat) : Prop := f M 40 = I nn ∧ ∀ i, i < nn → f (ar 43) i = I (sn i) ∧ f (ar 45) i = I (R i)
def chE (tl R sn bn : Nat → Nat) : Nat → Nat
  | 0 => bestOf tl (fewN tl R (bn 0 - 1 - 0) 0) (R 0) 0
  | i + 1 => bestOf tl (fewN tl R (bn (i + 1) - 1 - (i + 1)) (i + 1)) (R (i + 1)) (if sn i = sn (i + 1) then chE tl R sn bn i else 0)
def prvE (sn E : Nat → Nat) (i : Nat) : Nat := if 0 < i ∧ sn (i - 1) = sn i then E (i - 1) else 0
theorem chE_eq (i : Nat) : chE tl R sn bn i = bestOf tl (fewN tl R (bn i - 1 - i) i) (R i) (prvE sn (chE tl R sn bn) i) := by
  cases i with
  | zero => rfl
  | succ i =>
    show bestOf _ _ _ (if sn i = sn (i + 1) then _ else 0) = _
    unfold prvE
    rw [Nat.add_sub_cancel]
    by_cases q : sn i = sn (i + 1)
    · rw [if_pos q, if_pos ⟨Nat.succ_pos _, q⟩]
    · rw [if_neg q, if_neg (fun z => q z.2)]
theorem has_eq (m : MAt h M ar) {f : FI} {g : FL} (D : RdM f ar M R sn nn) (hn : nn ≤ 50) {i k : Nat} (hi : i < nn) (hk : k < 8) (hR : R i < 256) : p_X12_has (some M) (I i) (I k) (hM h f g) = some (if R i / 2 ^ k % 2 = 1 then 1 else 0, hM h f g) := by
  have e3 : (I (R i : Int) >>> (I (k : Int) &&& 31)) &&& 1 = I ((R i / 2 ^ k % 2 : Nat) : Int) := by
    rw [I_msk k (by omega), I_shr (by omega) (by omega), show (1 : Int32) = I ((1 : Nat) : Int) from rfl, I_and, show (1 : Nat) = 2 ^ 1 - 1 from rfl, Nat.and_two_pow_sub_one_eq_mod]
  have e4 : (I ((R i / 2 ^ k % 2 : Nat) : Int) = 1) ↔ R i / 2 ^ k % 2 = 1 := I_eqN (k := 1) (by omega) (by decide)
  simp only [p_X12_has, z_b, z_rz, ite_ap, m_gR m 45 (by decide), m_aI m 45 101 (by decide) (show i < 101 by omega) (by decide), (D.2 i hi).2, e3, e4, true_or, or_true, if_true]
  by_cases z : R i / 2 ^ k % 2 = 1
  · rw [if_neg (fun y => y z), if_pos z]
  · rw [if_pos z, if_neg z]
theorem breaks_eq (m : MAt h M ar) {f : FI} {g : FL} (T : ToldC f (ar 25) tl) {a b : Nat} (ha : a < 8) (hb : b < 8) : p_X12_breaks (some M) (I a) (I b) (hM h f g) = some (bI (bk tl (a + 1) (b + 1)), hM h f g) := by
  unfold bk
  rw [if_neg (show ¬ (a + 1 = 0 ∨ b + 1 = 0) by omega), Nat.add_sub_cancel, Nat.add_sub_cancel]
  have e1 : 4 * I ((a / 2 : Nat) : Int) + I ((b / 2 : Nat) : Int) = I ((a / 2 * 4 + b / 2 : Nat) : Int) := by
    rw [show (4 : Int32) = I ((4 : Nat) : Int) from rfl, I_mn, I_an, Nat.mul_comm]
  have lt : a / 2 * 4 + b / 2 < 16 := by omega
  obtain ⟨t1, t2⟩ := T _ lt
  have q2 : (I (tl (a / 2 * 4 + b / 2) : Int) = 2) ↔ tl (a / 2 * 4 + b / 2) = 2 := I_eqN (k := 2) (by omega) (by decide)
  have q1 : (I (tl (a / 2 * 4 + b / 2) : Int) = 1) ↔ tl (a / 2 * 4 + b / 2) = 1 := I_eqN (k := 1) (by omega) (by decide)
  have q3 : (I ((a % 2 : Nat) : Int) = I ((b % 2 : Nat) : Int)) ↔ a % 2 = b % 2 := I_eqN (by omega) (by omega)
  have e2 : I (a : Int) - I ((a / 2 : Nat) : Int) * 2 = I ((a % 2 : Nat) : Int) := by
    have := I_par (a := a) (by omega)
    rw [I_half (by omega)] at this; exact this
  have e3 : I (b : Int) - I ((b / 2 : Nat) : Int) * 2 = I ((b % 2 : Nat) : Int) := by
    have := I_par (a := b) (by omega)
    rw [I_half (by omega)] at this; exact this
  simp only [p_X12_breaks, I_half (show a < 100000 by omega), I_half (show b < 100000 by omega), z_b, ite_ap, m_gR m 25 (by decide), e1, m_aI m 25 16 (by decide) lt (by decide), t1, q1, q2, e2, e3, q3]
  by_cases y2 : tl (a / 2 * 4 + b / 2) = 2
  · rw [if_pos y2, if_pos y2]; rfl
  · rw [if_neg y2, if_neg y2]
    by_cases y1 : tl (a / 2 * 4 + b / 2) = 1
    · rw [if_neg (fun z => z y1), if_pos y1]
      by_cases y3 : a % 2 = b % 2
      · rw [if_pos y3, if_pos y3]; rfl
      · rw [if_neg y3, if_neg y3]; rfl
    · rw [if_pos y1, if_neg y1]; rfl
theorem isNext_eq (m : MAt h M ar) {f : FI} {g : FL} (D : RdM f ar M R sn nn) (N : SnOk sn bn nn) (hn : nn ≤ 50) {i : Nat} (hi : i < nn) : p_X12_isNext (some M) (I i) (hM h f g) = some (if i + 1 < bn i then 1 else 0, hM h f g) := by
  obtain ⟨n1, n2, n3, n4, n5⟩ := N i hi
  have e1 : I (i : Int) + 1 = I ((i + 1 : Nat) : Int) := I_add _ 1
  have e2 : (I (nn : Int) ≤ I ((i + 1 : Nat) : Int)) ↔ ¬ i + 1 < nn := by rw [I_le (by omega) (by omega)]; omega
  simp only [p_X12_isNext, z_b, z_rz, ite_ap, m_gI m, D.1, e1, e2, true_or, or_true, if_true]
  by_cases q : i + 1 < nn
  · obtain ⟨-, -, -, -, n6⟩ := N (i + 1) q
    have e3 : (I (sn (i + 1) : Int) = I (sn i)) ↔ sn (i + 1) = sn i := I_eqN (by omega) (by omega)
    rw [if_neg (fun z => z q)]
    simp only [m_gR m 43 (by decide), m_aI m 43 101 (by decide) (show i + 1 < 101 by omega) (by decide), (D.2 (i + 1) q).1, m_aI m 43 101 (by decide) (show i < 101 by omega) (by decide), (D.2 i hi).1, e3, n3 q]
    by_cases z : i + 1 < bn i
    · rw [if_neg (fun y => y z), if_pos z]
    · rw [if_pos z, if_neg z]
  · rw [if_pos q, if_neg (by omega)]
def FewM (f : FI) (a i S : Nat) (F : Nat → Nat) : Prop := (∀ k, k < 8 → S / 2 ^ k % 2 = 1 → f a (8 * i + k) = I (F (k + 1))) ∧ (S = 0 → f a (8 * i) = I (F 0))
theorem bits0 : ∀ S : Nat, S < 256 → (∀ k : Nat, k < 8 → ¬ S / 2 ^ k % 2 = 1) → S = 0 := by decide +kernel
/-- which of the numbers of a reading is meant: 8 stands for none -/
def rdN (e : Nat) : Nat := if e = 0 then 8 else e - 1
theorem few15 (m : MAt h M ar) {f : FI} {g : FL} (D : RdM f ar M R sn nn) (T : ToldC f (ar 25) tl) (hn : nn ≤ 50) {i : Nat} (hi : i + 1 < nn) (hR : R (i + 1) < 256) {F : Nat → Nat} (hF : ∀ e, F e ≤ 50) (W : FewM f (ar 49) (i + 1) (R (i + 1)) F) {e : Nat} (he : e ≤ 8) :
    ∀ (c k best least n : Nat), k + c = 8 → c < n → best ≤ k → (best = 0 ∧ least = 100000 ∧ (∀ x, x < k → ¬ R (i + 1) / 2 ^ x % 2 = 1) ∨ best ≠ 0 ∧ least = F best + bkn tl e best) →
      p_X12_fewestFrom_l15 n (some M) (I i) (I (rdN e)) (if best = 0 then -1 else I least) (I k) (hM h f g) = some (I ((F (boL tl F (R (i + 1)) e c k best least) + bkn tl e (boL tl F (R (i + 1)) e c k best least) : Nat) : Int), hM h f g) := by
  have ei : I (i : Int) + 1 = I ((i + 1 : Nat) : Int) := I_add _ 1
  have b0 : bkn tl e 0 = 0 := by unfold bkn bk; rw [if_pos (Or.inr rfl)]; rfl
  intro c
  induction c with
  | zero =>
    intro k best least n hk hn' hb inv
    obtain ⟨n, rfl⟩ := Nat.exists_eq_add_of_lt hn'
    have hk' : k = 8 := by omega
    subst hk'
    have e1 : (8 : Int32) ≤ I ((8 : Nat) : Int) := by decide
    show p_X12_fewestFrom_c15 _ _ _ _ _ _ _ = some (I ((F best + bkn tl e best : Nat) : Int), _)
    simp only [p_X12_fewestFrom_c15, p_X12_fewestFrom_b96, z_b, z_rt, ite_ap, e1, if_true]
    rcases inv with ⟨q1, q2, q3⟩ | ⟨q1, q2⟩
    · have S0 := bits0 _ hR q3
      have e2 : 8 * I ((i + 1 : Nat) : Int) = I ((8 * (i + 1) : Nat) : Int) := I_mn 8 _
      rw [if_pos q1, if_neg (fun z => z rfl)]
      simp only [m_gR m 49 (by decide), ei, e2, m_aI m 49 808 (by decide) (show 8 * (i + 1) < 808 by omega) (by decide), W.2 S0]
      rw [q1, b0, Nat.add_zero]
    · have := hF best
      have := bkn_le tl e best
      rw [if_neg q1, if_pos]
      · rw [q2]
      · rw [show (-1 : Int32) = I (-1) from rfl, I_inj (by omega) (by omega)]; omega
  | succ c ih =>
    intro k best least n hk hn' hb inv
    cases n with
    | zero => exact absurd hn' (Nat.not_lt_zero _)
    | succ n =>
      have e1 : ¬ (8 : Int32) ≤ I (k : Int) := by rw [lit, I_le (by decide) (by omega)]; omega
      have e2 : I (k : Int) + 1 = I ((k + 1 : Nat) : Int) := I_add _ 1
      have hh := has_eq (f := f) (g := g) m D hn hi (k := k) (by omega) hR
      have fk := hF (k + 1)
      have bk1 := bkn_le tl e (k + 1)
      have e3 : 8 * I ((i + 1 : Nat) : Int) + I (k : Int) = I ((8 * (i + 1) + k : Nat) : Int) := by
        rw [show (8 : Int32) = I ((8 : Nat) : Int) from rfl, I_mn, I_an]
      have n1 : ¬ ((1 : Int32) = 0) := by decide
      show p_X12_fewestFrom_c15 (p_X12_fewestFrom_l15 n) _ _ _ _ _ _ = some (I ((F (if _ then _ else _) + bkn tl e (if _ then _ else _) : Nat) : Int), _)
      simp only [p_X12_fewestFrom_c15, z_b, ite_ap, e1, if_false, m_vr m, ei, hh]
      by_cases z : R (i + 1) / 2 ^ k % 2 = 1
      · rw [if_pos z, if_neg n1]
        have Wk := W.1 k (by omega) z
        -- with the sum
        have go : p_X12_fewestFrom_b69 (p_X12_fewestFrom_l15 n) (some M) (I i) (I (rdN e)) (if best = 0 then -1 else I least) (I k) (I (F (k + 1))) (I (bkn tl e (k + 1))) (hM h f g) = some (I ((F (if R (i + 1) / 2 ^ k % 2 = 1 ∧ F (k + 1) + bkn tl e (k + 1) < least then boL tl F (R (i + 1)) e c (k + 1) (k + 1) (F (k + 1) + bkn tl e (k + 1)) else boL tl F (R (i + 1)) e c (k + 1) best least) + bkn tl e (if R (i + 1) / 2 ^ k % 2 = 1 ∧ F (k + 1) + bkn tl e (k + 1) < least then boL tl F (R (i + 1)) e c (k + 1) (k + 1) (F (k + 1) + bkn tl e (k + 1)) else boL tl F (R (i + 1)) e c (k + 1) best least) : Nat) : Int), hM h f g) := by
          have take := ih (k + 1) (k + 1) (F (k + 1) + bkn tl e (k + 1)) n (by omega) (by omega) (Nat.le_refl _) (Or.inr ⟨Nat.succ_ne_zero _, rfl⟩)
          rw [if_neg (Nat.succ_ne_zero _)] at take
          simp only [p_X12_fewestFrom_b69, p_X12_fewestFrom_b83, p_X12_fewestFrom_b89, p_X12_fewestFrom_b90, z_n, ite_ap, I_an, e2]
          rcases inv with ⟨q1, q2, q3⟩ | ⟨q1, q2⟩
          · rw [if_pos q1, if_pos rfl, if_pos ⟨z, by omega⟩]
            exact take
          · have := hF best
            have := bkn_le tl e best
            rw [if_neg q1, if_neg (show ¬ I (least : Int) = -1 by rw [show (-1 : Int32) = I (-1) from rfl, I_inj (by omega) (by omega)]; omega)]
            by_cases y : F (k + 1) + bkn tl e (k + 1) < least
            · rw [if_neg (show ¬ I (least : Int) ≤ I ((F (k + 1) + bkn tl e (k + 1) : Nat) : Int) by rw [I_le (by omega) (by omega)]; omega), if_pos ⟨z, y⟩]
              exact take
            · rw [if_pos (show I (least : Int) ≤ I ((F (k + 1) + bkn tl e (k + 1) : Nat) : Int) by rw [I_le (by omega) (by omega)]; omega), if_neg (fun w => y w.2)]
              have keep := ih (k + 1) best least n (by omega) (by omega) (by omega) (Or.inr ⟨q1, q2⟩)
              rw [if_neg q1] at keep
              exact keep
        rw [← go]
        simp only [m_gR m 49 (by decide), e3, m_aI m 49 808 (by decide) (show 8 * (i + 1) + k < 808 by omega) (by decide), Wk]
        by_cases z0 : e = 0
        · have e8 : (8 : Int32) ≤ I (rdN e : Int) := by rw [z0]; decide
          have : bkn tl e (k + 1) = 0 := by rw [z0]; unfold bkn bk; rw [if_pos (Or.inl rfl)]; rfl
          rw [if_pos e8, this]
          rfl
        · have re : rdN e = e - 1 := if_neg z0
          have e8 : ¬ (8 : Int32) ≤ I (rdN e : Int) := by rw [re, lit, I_le (by decide) (by omega)]; omega
          rw [if_neg e8, re]
          have bq := breaks_eq (f := f) (g := g) m T (a := e - 1) (b := k) (by omega) (by omega)
          rw [show e - 1 + 1 = e by omega] at bq
          simp only [m_vr m, bq]
          unfold bkn
          cases bk tl e (k + 1) with
          | true => rw [if_neg (show ¬ bI true = 0 by decide)]; rfl
          | false => rw [if_pos (show bI false = 0 from rfl)]; rfl
      · rw [if_neg z, if_pos rfl, if_neg (show ¬ (R (i + 1) / 2 ^ k % 2 = 1 ∧ F (k + 1) + bkn tl e (k + 1) < least) from fun y => z y.1)]
        simp only [p_X12_fewestFrom_b90, z_n, e2]
        refine ih (k + 1) best least n (by omega) (by omega) (by omega) ?_
        rcases inv with ⟨q1, q2, q3⟩ | q
        · refine Or.inl ⟨q1, q2, fun x hx => ?_⟩
          by_cases y : x = k
          · rw [y]; exact z
          · exact q3 x (by omega)
        · exact Or.inr q
theorem fewestFrom_eq (m : MAt h M ar) {f : FI} {g : FL} (D : RdM f ar M R sn nn) (N : SnOk sn bn nn) (T : ToldC f (ar 25) tl) (hn : nn ≤ 50) {i : Nat} (hi : i < nn) (hR : ∀ j, j < nn → R j < 256) (W : i + 1 < bn i → FewM f (ar 49) (i + 1) (R (i + 1)) (fewN tl R (bn (i + 1) - 1 - (i + 1)) (i + 1))) {e : Nat} (he : e ≤ 8) :
    p_X12_fewestFrom (some M) (I i) (I (rdN e)) (hM h f g) = some (I (fewN tl R (bn i - 1 - i) i e), hM h f g) := by
  have nx := isNext_eq (f := f) (g := g) m D N hn hi
  obtain ⟨n1, n2, n3, n4, n5⟩ := N i hi
  simp only [p_X12_fewestFrom, z_b, z_rt, ite_ap, m_vr m, nx]
  by_cases q : i + 1 < bn i
  · rw [if_pos q, if_pos (by decide)]
    have := few15 (f := f) (g := g) m D T hn (i := i) (by omega) (hR _ (by omega)) (fun x => by have := fewN_le tl R (bn (i + 1) - 1 - (i + 1)) (i + 1) x; have := (N (i + 1) (by omega)).2.1; omega) (W q) he 8 0 0 100000 zFuel rfl (by unfold zFuel; omega) (Nat.le_refl _) (Or.inl ⟨rfl, rfl, fun x hx => absurd hx (Nat.not_lt_zero _)⟩)
    have e : bn i - 1 - i = (bn (i + 1) - 1 - (i + 1)) + 1 := by have := n4 q; omega
    rw [e]
    exact this
  · rw [if_neg q, if_neg (by decide), show bn i - 1 - i = 0 by omega]
    rfl
end
