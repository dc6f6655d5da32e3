/-! ===== grammar: readings are numbers from 1 on, 0 for none ===== -/
def pr (e : Nat) : Int := (e : Int) - 1
def bk (tl : Nat → Nat) (a b : Nat) : Bool :=
  if a = 0 ∨ b = 0 then false
  else if tl ((a - 1) / 2 * 4 + (b - 1) / 2) = 2 then true
  else if tl ((a - 1) / 2 * 4 + (b - 1) / 2) = 1 then (if (a - 1) % 2 = (b - 1) % 2 then false else true) else false
def bkn (tl : Nat → Nat) (a b : Nat) : Nat := if bk tl a b = true then 1 else 0
/-- the first of the readings of a set by which the fewest are broken; c are left, k is next -/
def boL (tl : Nat → Nat) (F : Nat → Nat) (S p : Nat) : Nat → Nat → Nat → Nat → Nat
  | 0, _, best, _ => best
  | c + 1, k, best, least => if S / 2 ^ k % 2 = 1 ∧ F (k + 1) + bkn tl p (k + 1) < least then boL tl F S p c (k + 1) (k + 1) (F (k + 1) + bkn tl p (k + 1)) else boL tl F S p c (k + 1) best least
def bestOf (tl : Nat → Nat) (F : Nat → Nat) (S p : Nat) : Nat := boL tl F S p 8 0 0 100000
/-- how few are broken behind word i with a reading, c words being behind it -/
def fewN (tl : Nat → Nat) (R : Nat → Nat) : Nat → Nat → Nat → Nat
  | 0, _, _ => 0
  | c + 1, i, e => fewN tl R c (i + 1) (bestOf tl (fewN tl R c (i + 1)) (R (i + 1)) e) + bkn tl e (bestOf tl (fewN tl R c (i + 1)) (R (i + 1)) e)
theorem bkn_le (tl : Nat → Nat) (a b : Nat) : bkn tl a b ≤ 1 := by unfold bkn; split <;> decide
theorem fewN_le (tl R : Nat → Nat) : ∀ c i e, fewN tl R c i e ≤ c := by
  intro c
  induction c with
  | zero => intro i e; exact Nat.le_refl _
  | succ c ih =>
    intro i e
    have a := ih (i + 1) (bestOf tl (fewN tl R c (i + 1)) (R (i + 1)) e)
    have b := bkn_le tl e (bestOf tl (fewN tl R c (i + 1)) (R (i + 1)) e)
    show _ + _ ≤ c + 1
    omega
theorem boL_le (tl F : Nat → Nat) (S p : Nat) : ∀ c k best least, best ≤ k → boL tl F S p c k best least ≤ k + c := by
  intro c
  induction c with
  | zero => intro k best least h; exact h
  | succ c ih =>
    intro k best least h
    simp only [boL]
    split
    · have := ih (k + 1) (k + 1) (F (k + 1) + bkn tl p (k + 1)) (Nat.le_refl _); omega
    · have := ih (k + 1) best least (by omega); omega
theorem bestOf_le (tl F : Nat → Nat) (S p : Nat) : bestOf tl F S p ≤ 8 := boL_le tl F S p 8 0 0 100000 (Nat.le_refl _)
def gSz (j : Nat) : Nat := [16, 450].getD j 0
/-- what is told -/
def ToldC (f : FI) (a : Nat) (tl : Nat → Nat) : Prop := ∀ i, i < 16 → f a i = I (tl i) ∧ tl i ≤ 2
theorem I_half {a : Nat} (ha : a < 100000) : I (a : Int) / 2 = I ((a / 2 : Nat) : Int) := by
  rw [show (2 : Int32) = I (2 : Int) from rfl, I_div (by omega) (by omega)]
  rfl
theorem I_par {a : Nat} (ha : a < 100000) : I (a : Int) - I (a : Int) / 2 * 2 = I ((a % 2 : Nat) : Int) := by
  rw [I_half ha, show (2 : Int32) = I ((2 : Nat) : Int) from rfl, I_mn, I_sn _ _ (by omega), show a - a / 2 * 2 = a % 2 by omega]
theorem pr_succ (a : Nat) (h : a ≠ 0) : I (pr a) = I ((a - 1 : Nat) : Int) := by
  unfold pr
  rw [show (a : Int) - 1 = ((a - 1 : Nat) : Int) by omega]
theorem pr_m1 {a : Nat} (h : a ≤ 1000) : (I (pr a) = -1) ↔ a = 0 := by
  rw [show (-1 : Int32) = I (-1) from rfl]
  unfold pr
  rw [I_inj (by omega) (by omega)]; omega
section
variable {h : ZH} {gx : Nat} {rw ar : Nat → Nat} {f : FI} {tl : Nat → Nat}
theorem isBroken_eq (o : Ob h 1 gx rw ar gSz) (T : ToldC f (ar 0) tl) {a b : Nat} (ha : a ≤ 8) (hb : b ≤ 8) : p_X0_isBroken (some gx) (I (pr a)) (I (pr b)) (hI h f) = some (bI (bk tl a b), hI h f) := by
  unfold bk
  simp only [p_X0_isBroken, ite_ap, pr_m1 (show a ≤ 1000 by omega), pr_m1 (show b ≤ 1000 by omega)]
  by_cases z1 : a = 0
  · rw [if_pos z1, if_pos (Or.inl z1)]; rfl
  · rw [if_neg z1]
    by_cases z2 : b = 0
    · rw [if_neg (fun z => z z2), if_pos (Or.inr z2)]; rfl
    · rw [if_pos z2, if_neg (show ¬ (a = 0 ∨ b = 0) by omega)]
      have e1 : I ((((a - 1) / 2 : Nat)) : Int) * 4 + I (((b - 1) / 2 : Nat) : Int) = I (((a - 1) / 2 * 4 + (b - 1) / 2 : Nat) : Int) := by
        rw [show (4 : Int32) = I ((4 : Nat) : Int) from rfl, I_mn, I_an]
      have lt : (a - 1) / 2 * 4 + (b - 1) / 2 < 16 := by omega
      obtain ⟨t1, t2⟩ := T _ lt
      have q2 : (I (tl ((a - 1) / 2 * 4 + (b - 1) / 2) : Int) = 2) ↔ tl ((a - 1) / 2 * 4 + (b - 1) / 2) = 2 := I_eqN (k := 2) (by omega) (by decide)
      have q1 : (I (tl ((a - 1) / 2 * 4 + (b - 1) / 2) : Int) = 1) ↔ tl ((a - 1) / 2 * 4 + (b - 1) / 2) = 1 := I_eqN (k := 1) (by omega) (by decide)
      have q3 : (I (((a - 1) % 2 : Nat) : Int) = I (((b - 1) % 2 : Nat) : Int)) ↔ (a - 1) % 2 = (b - 1) % 2 := I_eqN (by omega) (by omega)
      simp only [pr_succ a z1, pr_succ b z2, I_half (show a - 1 < 100000 by omega), I_half (show b - 1 < 100000 by omega), z_b, o_gR o 0 (by decide), o_rv o 0 (by decide), e1, o_get o 0 16 rfl lt, t1, q1, q2]
      have e2 : I ((a - 1 : Nat) : Int) - I (((a - 1) / 2 : Nat) : Int) * 2 = I (((a - 1) % 2 : Nat) : Int) := by
        have := I_par (a := a - 1) (by omega)
        rw [I_half (by omega)] at this; exact this
      have e3 : I ((b - 1 : Nat) : Int) - I (((b - 1) / 2 : Nat) : Int) * 2 = I (((b - 1) % 2 : Nat) : Int) := by
        have := I_par (a := b - 1) (by omega)
        rw [I_half (by omega)] at this; exact this
      rw [e2, e3]
      by_cases y2 : tl ((a - 1) / 2 * 4 + (b - 1) / 2) = 2
      · rw [if_pos y2, if_pos y2]; rfl
      · rw [if_neg y2, if_neg y2]
        by_cases y1 : tl ((a - 1) / 2 * 4 + (b - 1) / 2) = 1
        · rw [if_neg (fun z => z y1), if_pos y1]
          by_cases y3 : (a - 1) % 2 = (b - 1) % 2
          · rw [if_pos (q3.mpr y3), if_pos y3]; rfl
          · rw [if_neg (fun z => y3 (q3.mp z)), if_neg y3]; rfl
        · rw [if_pos y1, if_neg y1]; rfl
/-- the fewest, of word i with reading e, e ≤ 8 -/
def FewC (f : FI) (a i : Nat) (F : Nat → Nat) : Prop := ∀ e, e ≤ 8 → f a (i * 9 + e) = I (F e)
theorem countBroken_eq (o : Ob h 1 gx rw ar gSz) (T : ToldC f (ar 0) tl) {i : Nat} (hi : i < 50) {F : Nat → Nat} (W : FewC f (ar 1) i F) {e p : Nat} (he : e ≤ 8) (hp : p ≤ 8) : p_X0_countBroken (some gx) (I i) (I (pr e)) (I (pr p)) (hI h f) = some (I (F e + bkn tl p e : Nat), hI h f) := by
  have e1 : I (i : Int) * 9 + I (pr e) + 1 = I ((i * 9 + e : Nat) : Int) := by
    unfold pr
    rw [show (9 : Int32) = I ((9 : Nat) : Int) from rfl, I_mn, I_add, show (1 : Int32) = I 1 from rfl, I_add, show ((i * 9 : Nat) : Int) + ((e : Int) - 1) + 1 = ((i * 9 + e : Nat) : Int) by omega]
  have e2 : I (F e : Int) + 1 = I ((F e + 1 : Nat) : Int) := I_add _ 1
  simp only [p_X0_countBroken, z_b, z_rt, ite_ap, o_gR o 1 (by decide), o_rv o 1 (by decide), e1, o_get o 1 450 rfl (show i * 9 + e < 450 by omega), W e he, o_vr o, isBroken_eq o T hp he, e2]
  unfold bkn
  cases bk tl p e with
  | true => rw [if_neg (show ¬ bI true = 0 by decide)]; rfl
  | false => rw [if_pos (show bI false = 0 from rfl)]; rfl
theorem best_l (o : Ob h 1 gx rw ar gSz) (T : ToldC f (ar 0) tl) {i : Nat} (hi : i < 50) {F : Nat → Nat} (W : FewC f (ar 1) i F) (hF : ∀ e, F e ≤ 50) {S p : Nat} (hS : S < 256) (hp : p ≤ 8) :
    ∀ (c k best least n : Nat), k + c = 8 → c < n → best ≤ k → least ≤ 100000 → p_X0_bestReading_l10 n (some gx) (I S) (I i) (I (pr p)) (I (pr best)) (I least) (I k) (hI h f) = some (I (pr (boL tl F S p c k best least)), hI h f) := by
  intro c
  induction c with
  | zero =>
    intro k best least n hk hn hb hl
    obtain ⟨n, rfl⟩ := Nat.exists_eq_add_of_lt hn
    have e1 : (8 : Int32) ≤ I (k : Int) := by rw [lit, I_le (by decide) (by omega)]; omega
    show p_X0_bestReading_c10 _ _ _ _ _ _ _ _ _ = _
    simp only [p_X0_bestReading_c10, ite_ap, e1, if_true, z_rt]
    rfl
  | succ c ih =>
    intro k best least n hk hn hb hl
    cases n with
    | zero => exact absurd hn (Nat.not_lt_zero _)
    | succ n =>
      have e1 : ¬ (8 : Int32) ≤ I (k : Int) := by rw [lit, I_le (by decide) (by omega)]; omega
      have e2 : I (k : Int) + 1 = I ((k + 1 : Nat) : Int) := I_add _ 1
      have e3 : (I (S : Int) >>> (I (k : Int) &&& 31)) &&& 1 = I ((S / 2 ^ k % 2 : Nat) : Int) := by
        rw [I_msk k (by omega), I_shr (by omega) (by omega), show (1 : Int32) = I ((1 : Nat) : Int) from rfl, I_and, show (1 : Nat) = 2 ^ 1 - 1 from rfl, Nat.and_two_pow_sub_one_eq_mod]
      have e4 : (I ((S / 2 ^ k % 2 : Nat) : Int) = 0) ↔ ¬ S / 2 ^ k % 2 = 1 := by
        rw [show (0 : Int32) = I ((0 : Nat) : Int) from rfl, I_eqN (by omega) (by decide)]; omega
      have e5 : I (k : Int) = I (pr (k + 1)) := by unfold pr; rw [show ((k + 1 : Nat) : Int) - 1 = (k : Int) by omega]
      have cb := countBroken_eq o T hi W (e := k + 1) (p := p) (by omega) hp
      rw [← e5] at cb
      have f1 := hF (k + 1)
      have f2 := bkn_le tl p (k + 1)
      have e6 : (I (least : Int) ≤ I (F (k + 1) + bkn tl p (k + 1) : Nat)) ↔ ¬ F (k + 1) + bkn tl p (k + 1) < least := by rw [I_le (by omega) (by omega)]; omega
      show p_X0_bestReading_c10 (p_X0_bestReading_l10 n) _ _ _ _ _ _ _ _ = some (I (pr (if _ then _ else _)), _)
      simp only [p_X0_bestReading_c10, p_X0_bestReading_b51, z_b, z_n, ite_ap, e1, if_false, e3, e4, e2, o_vr o, cb, e6]
      by_cases z1 : S / 2 ^ k % 2 = 1
      · rw [if_neg (fun z => z z1)]
        by_cases z2 : F (k + 1) + bkn tl p (k + 1) < least
        · rw [if_neg (fun z => z z2), if_pos ⟨z1, z2⟩]
          have := ih (k + 1) (k + 1) (F (k + 1) + bkn tl p (k + 1)) n (by omega) (by omega) (Nat.le_refl _) (by omega)
          rw [← e5] at this
          exact this
        · rw [if_pos z2, if_neg (fun z => z2 z.2)]
          exact ih (k + 1) best least n (by omega) (by omega) (by omega) hl
      · rw [if_pos z1, if_neg (fun z => z1 z.1)]
        exact ih (k + 1) best least n (by omega) (by omega) (by omega) hl
theorem best_eq (o : Ob h 1 gx rw ar gSz) (T : ToldC f (ar 0) tl) {i : Nat} (hi : i < 50) {F : Nat → Nat} (W : FewC f (ar 1) i F) (hF : ∀ e, F e ≤ 50) {S p : Nat} (hS : S < 256) (hp : p ≤ 8) : p_X0_bestReading (some gx) (I S) (I i) (I (pr p)) (hI h f) = some (I (pr (bestOf tl F S p)), hI h f) :=
  best_l o T hi W hF hS hp 8 0 0 100000 zFuel rfl (by unfold zFuel; omega) (Nat.le_refl _) (Nat.le_refl _)
end
