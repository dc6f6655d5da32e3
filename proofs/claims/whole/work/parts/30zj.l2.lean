theorem cntR_snoc (P : Nat → Bool) : ∀ c j acc, cntR P (c + 1) j acc = cntR P c j acc + if P (j + c) = true then 1 else 0 := by
  intro c
  induction c with
  | zero =>
    intro j acc
    show (if P j = true then acc + 1 else acc) = acc + if P j = true then 1 else 0
    by_cases q : P j = true
    · rw [if_pos q, if_pos q]
    · rw [if_neg q, if_neg q]; rfl
  | succ c ih =>
    intro j acc
    show cntR P (c + 1) (j + 1) _ = cntR P c (j + 1) _ + _
    rw [ih (j + 1), show j + 1 + c = j + (c + 1) by omega]
theorem nw_empty {t : List Nat} {i : Nat} (hi : i < (esOf t).length) (h : sSt (esOf t) i = sSt (esOf t) (i + 1)) : nw t i = 0 := by
  by_cases q : sFw (esOf t) i < sFw (esOf t) (i + 1)
  · have hm := (st_max t (show i + 1 ≤ (esOf t).length by omega)).2
    have hw : (wsOf t)[sFw (esOf t) i]? = some ((wsOf t)[sFw (esOf t) i]'(by omega)) := List.getElem?_eq_getElem _
    have a := (st_words t (show i + 1 ≤ (esOf t).length by omega) hw).1.mp q
    have b := (st_words t (show i ≤ (esOf t).length by omega) hw).1
    rw [← h] at a
    exact absurd (b.mpr a) (Nat.lt_irrefl _)
  · unfold nw; omega
theorem nw_pos {t : List Nat} {i : Nat} (hi : i < (esOf t).length) (h : 0 < nw t i) : sSt (esOf t) i < sSt (esOf t) (i + 1) := by
  have := (st_le t hi).1
  by_cases q : sSt (esOf t) i = sSt (esOf t) (i + 1)
  · rw [nw_empty hi q] at h; exact absurd h (Nat.lt_irrefl _)
  · omega
/-- how many sentences are not empty -/
def nse (b : List Nat) : Nat := if sSt (esOf b) ((esOf b).length - 1) < b.length then (esOf b).length else (esOf b).length - 1
theorem nse_ok (b : List Nat) : nse b ≤ (esOf b).length ∧ (∀ x, x < nse b → sSt (esOf b) x < b.length ∧ sSt (esOf b) x < b.length) ∧ ¬ (sSt (esOf b) (nse b) < b.length ∧ sSt (esOf b) (nse b) < b.length) := by
  have h1 := es_len b
  have low : ∀ x, x < (esOf b).length - 1 → sSt (esOf b) x < b.length := fun x hx => by
    have a := (st_up b (show x < (scan b).2.2.2.length by omega)).1
    have c := (st_max b (show x + 1 ≤ (esOf b).length by omega)).1
    omega
  unfold nse
  by_cases q : sSt (esOf b) ((esOf b).length - 1) < b.length
  · rw [if_pos q]
    refine ⟨Nat.le_refl _, fun x hx => ?_, ?_⟩
    · by_cases z : x < (esOf b).length - 1
      · exact ⟨low x z, low x z⟩
      · rw [show x = (esOf b).length - 1 by omega]; exact ⟨q, q⟩
    · rw [(st_end b).1]; omega
  · rw [if_neg q]
    exact ⟨by omega, fun x hx => ⟨low x hx, low x hx⟩, fun z => q z.1⟩
theorem nse_cnt {t b : List Nat} {i : Nat} (hn : sSt (esOf t) i < sSt (esOf t) (i + 1)) : cntR (lk t i b) (nse b) 0 0 = cntR (lk t i b) (esOf b).length 0 0 := by
  unfold nse
  have h1 := es_len b
  by_cases q : sSt (esOf b) ((esOf b).length - 1) < b.length
  · rw [if_pos q]
  · rw [if_neg q]
    have e : (esOf b).length = (esOf b).length - 1 + 1 := by omega
    have f := cntR_snoc (lk t i b) ((esOf b).length - 1) 0 0
    rw [← e, Nat.zero_add] at f
    rw [f]
    have : lk t i b ((esOf b).length - 1) = false := by
      unfold lk
      rw [← e, (st_end b).1]
      have : ¬ sSt (esOf t) (i + 1) - sSt (esOf t) i = b.length - sSt (esOf b) ((esOf b).length - 1) := by omega
      rw [beq_eq_false_iff_ne.mpr this, Bool.false_and]
    rw [this]
    rfl
section
variable {h : ZH} {M : Nat} {ar : Nat → Nat} {f : FI} {g : FL} {t b : List Nat}
theorem ws_100 {t : List Nat} (ht : t.length ≤ 100) : (wsOf t).length ≤ 50 := by
  have h3 : 2 * (wsOf t).length ≤ t.length + if (scan t).2.1 = true then 1 else 0 := (scan_ok t).1
  have : (if (scan t).2.1 = true then 1 else 0) ≤ 1 := by split <;> decide
  omega
/-- the words of a sentence are counted -/
theorem chk75 (m : MAt h M ar) (W : WsM f g ar M (wsOf t)) (ht : t.length ≤ 100) {i : Nat} (hi : i < (esOf t).length) (hne : sSt (esOf t) i < sSt (esOf t) (i + 1)) (r8 : Option Nat → Int32 → Int32 → ZM Int32) (isN : Bool) :
    ∀ (c k acc n : Nat), k + c = (wsOf t).length → c < n →
      p_X12_checks_l75 r8 n (some M) (I acc) (I (sSt (esOf t) i)) (I (sSt (esOf t) (i + 1))) (bI isN) (I k) (hM h f g) = r8 (some M) (I ((acc + if isN = true then sFw (esOf t) (i + 1) - max k (sFw (esOf t) i) else 0 : Nat) : Int)) (I (sSt (esOf t) (i + 1))) (hM h f g) := by
  have w50 := ws_100 ht
  have t2 := st_max t (show i + 1 ≤ (esOf t).length by omega)
  intro c
  induction c with
  | zero =>
    intro k acc n hk hn
    obtain ⟨n, rfl⟩ := Nat.exists_eq_add_of_lt hn
    have e1 : I ((wsOf t).length : Int) ≤ I (k : Int) := by rw [I_le (by omega) (by omega)]; omega
    show p_X12_checks_c75 _ _ _ _ _ _ _ _ _ = _
    simp only [p_X12_checks_c75, p_X12_checks_b120, z_b, ite_ap, m_gI m, W.1, e1, if_true]
    have : (if isN = true then sFw (esOf t) (i + 1) - max k (sFw (esOf t) i) else 0) = 0 := by
      split
      · omega
      · rfl
    rw [this]; rfl
  | succ c ih =>
    intro k acc n hk hn
    cases n with
    | zero => exact absurd hn (Nat.not_lt_zero _)
    | succ n =>
      have e1 : ¬ I ((wsOf t).length : Int) ≤ I (k : Int) := by rw [I_le (by omega) (by omega)]; omega
      have e2 : I (k : Int) + 1 = I ((k + 1 : Nat) : Int) := I_add _ 1
      have z0 : I (acc : Int) + 0 = I (acc : Int) := I_add _ 0
      have z1 : I (acc : Int) + 1 = I ((acc + 1 : Nat) : Int) := I_add _ 1
      have hw : (wsOf t)[k]? = some ((wsOf t)[k]'(by omega)) := List.getElem?_eq_getElem _
      obtain ⟨d1, d2, d3, d4⟩ := W.2 k _ hw
      have w1 := (st_words t (show i ≤ (esOf t).length by omega) hw).1
      have w2 := (st_words t (show i + 1 ≤ (esOf t).length by omega) hw).1
      obtain ⟨-, -, -, a4, -⟩ := scan_ok t
      obtain ⟨c1, c2, c3, -⟩ := a4 k _ hw
      have q1 : I (sSt (esOf t) i : Int) ≤ I (((wsOf t)[k]'(by omega)).1 : Int) ↔ sSt (esOf t) i ≤ ((wsOf t)[k]'(by omega)).1 := by rw [I_le (by omega) (by omega)]; omega
      have q2 : I (((wsOf t)[k]'(by omega)).1 : Int) ≤ I (sSt (esOf t) (i + 1) : Int) - 1 ↔ ((wsOf t)[k]'(by omega)).1 < sSt (esOf t) (i + 1) := by
        rw [show I (sSt (esOf t) (i + 1) : Int) - 1 = I ((sSt (esOf t) (i + 1) - 1 : Nat) : Int) from I_sn _ 1 (by omega), I_le (by omega) (by omega)]; omega
      show p_X12_checks_c75 _ (p_X12_checks_l75 r8 n) _ _ _ _ _ _ _ = _
      simp only [p_X12_checks_c75, p_X12_checks_b111, p_X12_checks_b112, z_b, z_n, ite_ap, m_gI m, W.1, e1, if_false, m_gR m 41 (by decide), m_aI m 41 101 (by decide) (show k < 101 by omega) (by decide), d1, min_eq, q1, q2, z0, z1, e2]
      cases isN with
      | false =>
        rw [if_pos (show bI false = 0 by decide)]
        exact ih (k + 1) acc n (by omega) (by omega)
      | true =>
        rw [if_neg (show ¬ bI true = 0 by decide)]
        by_cases z : sSt (esOf t) i ≤ ((wsOf t)[k]'(by omega)).1 ∧ ((wsOf t)[k]'(by omega)).1 < sSt (esOf t) (i + 1)
        · rw [if_pos z, if_neg (show ¬ (1 : Int32) = 0 by decide), ih (k + 1) (acc + 1) n (by omega) (by omega), if_pos rfl, if_pos rfl]
          have : acc + 1 + (sFw (esOf t) (i + 1) - max (k + 1) (sFw (esOf t) i)) = acc + (sFw (esOf t) (i + 1) - max k (sFw (esOf t) i)) := by omega
          rw [this]
        · rw [if_neg z, if_pos rfl, ih (k + 1) acc n (by omega) (by omega), if_pos rfl, if_pos rfl]
          have : sFw (esOf t) (i + 1) - max (k + 1) (sFw (esOf t) i) = sFw (esOf t) (i + 1) - max k (sFw (esOf t) i) := by omega
          rw [this]
/-- the loop over the sentences -/
theorem chk8 (m : MAt h M ar) (W : WsM f g ar M (wsOf t)) (T : TxM f ar M t) (B : f M 56 = I b.length ∧ TxA f (ar 55) b) (hs : ∀ c ∈ t, isSg c) (hs' : ∀ c ∈ b, isSg c) (hb : b.length ≤ 100) :
    ∀ (c i acc n : Nat), i + c = (esOf t).length → c < n → acc ≤ sFw (esOf t) i →
      p_X12_checks_l8 n (some M) (I acc) (I (sSt (esOf t) i)) (hM h f g) = some (I (chkA t b c i acc), hM h f g) := by
  have ht := T.2.1
  have A : TxA f (ar 33) t := T.2.2
  have hl := es_len t
  have hlb := es_len b
  have w50 := ws_100 ht
  intro c
  induction c with
  | zero =>
    intro i acc n hi hn ha
    obtain ⟨n, rfl⟩ := Nat.exists_eq_add_of_lt hn
    have hi' : i = (esOf t).length := by omega
    have e1 : I (t.length : Int) ≤ I (sSt (esOf t) i : Int) := by rw [hi', (st_end t).1, I_le (by omega) (by omega)]; omega
    show p_X12_checks_c8 _ _ _ _ _ = _
    simp only [p_X12_checks_c8, z_b, ite_ap, m_gI m, T.1, e1, if_true, z_rt]
    rfl
  | succ c ih =>
    intro i acc n hi hn ha
    cases n with
    | zero => exact absurd hn (Nat.not_lt_zero _)
    | succ n =>
      have hil : i < (esOf t).length := by omega
      have t1 := st_le t hil
      have t2 := st_max t (show i + 1 ≤ (esOf t).length by omega)
      have t3 := st_max t (show i ≤ (esOf t).length by omega)
      show p_X12_checks_c8 (p_X12_checks_l8 n) _ _ _ _ = some (I (chkA t b c (i + 1) _), _)
      by_cases hne : sSt (esOf t) i < sSt (esOf t) (i + 1)
      · have e1 : ¬ I (t.length : Int) ≤ I (sSt (esOf t) i : Int) := by rw [I_le (by omega) (by omega)]; omega
        have eo := endOf_eq (f := f) (g := g) m (j := 33) (by decide) A hs ht hil
        have k1 := like_l (f := f) (g := g) m (j := 33) (by decide) A A hs hs ht ht hil (up := sSt (esOf t) (i + 1)) (mm := i + 1) (by omega) (by omega) (fun x hx => by
          have := (st_mono t (i - x) x (by omega)).1
          rw [show x + (i - x) = i by omega] at this
          omega) (by omega) (i + 1) 0 0 zFuel (by omega) (by unfold zFuel; omega)
        obtain ⟨n1, n2, n3⟩ := nse_ok b
        have k2 := like_l (f := f) (g := g) m (j := 55) (by decide) A B.2 hs hs' ht hb hil (up := b.length) (mm := nse b) (by omega) n1 n2 n3 (nse b) 0 0 zFuel (by omega) (by unfold zFuel; omega)
        rw [nse_cnt hne] at k2
        have k1' : p_X12_like (some M) (some (ar 33)) (I t.length) (I (sSt (esOf t) (i + 1))) (I (sSt (esOf t) i)) (I (sSt (esOf t) (i + 1))) (hM h f g) = _ := k1
        have k2' : p_X12_like (some M) (some (ar 55)) (I b.length) (I b.length) (I (sSt (esOf t) i)) (I (sSt (esOf t) (i + 1))) (hM h f g) = _ := k2
        have r1 := cntR_le (lk t i t) (i + 1) 0 0
        have r2 := cntR_le (lk t i b) (esOf b).length 0 0
        have q2 : I (cntR (lk t i t) (i + 1) 0 0 : Int) ≤ I (cntR (lk t i b) (esOf b).length 0 0) ↔ ¬ cntR (lk t i b) (esOf b).length 0 0 < cntR (lk t i t) (i + 1) 0 0 := by
          rw [I_le (by omega) (by omega)]; omega
        simp only [p_X12_checks_c8, p_X12_checks_b70, z_b, ite_ap, m_gI m, T.1, e1, if_false, m_gR m 33 (by decide), eo, m_vr m, k1', m_gR m 55 (by decide), B.1, k2', q2]
        by_cases z2 : cntR (lk t i b) (esOf b).length 0 0 < cntR (lk t i t) (i + 1) 0 0
        · rw [if_neg (fun z => z z2)]
          have := chk75 (f := f) (g := g) m W ht hil hne (p_X12_checks_l8 n) true (wsOf t).length 0 acc zFuel (by omega) (by unfold zFuel; omega)
          refine Eq.trans this ?_
          rw [if_pos rfl, show max 0 (sFw (esOf t) i) = sFw (esOf t) i by omega]
          have e : (if 0 < nw t i ∧ cntR (lk t i b) (esOf b).length 0 0 < cntR (lk t i t) (i + 1) 0 0 then acc + nw t i else acc) = acc + (sFw (esOf t) (i + 1) - sFw (esOf t) i) := by
            by_cases z1 : 0 < nw t i
            · rw [if_pos ⟨z1, z2⟩]; rfl
            · rw [if_neg (fun z => z1 z.1)]
              unfold nw at z1; omega
          rw [e]
          exact ih (i + 1) _ n (by omega) (by omega) (by omega)
        · rw [if_pos z2]
          have := chk75 (f := f) (g := g) m W ht hil hne (p_X12_checks_l8 n) false (wsOf t).length 0 acc zFuel (by omega) (by unfold zFuel; omega)
          refine Eq.trans this ?_
          rw [if_neg (fun z => by cases z), if_neg (fun z => z2 z.2)]
          exact ih (i + 1) acc n (by omega) (by omega) (by omega)
      · -- only the last sentence may be empty
        have hlast : i = (scan t).2.2.2.length := by
          by_cases q : i < (scan t).2.2.2.length
          · exact absurd (st_up t q).1 hne
          · omega
        have hc : c = 0 := by omega
        subst hc
        have he : sSt (esOf t) i = t.length := by
          have := (st_end t).1
          rw [hl.1, ← hlast] at this
          omega
        have e1 : I (t.length : Int) ≤ I (sSt (esOf t) i : Int) := by rw [I_le (by omega) (by omega)]; omega
        simp only [p_X12_checks_c8, z_b, ite_ap, m_gI m, T.1, e1, if_true, z_rt]
        have : nw t i = 0 := nw_empty hil (by omega)
        rw [if_neg (by omega)]
        rfl
theorem checks_eq (m : MAt h M ar) (T : TxM f ar M t) (B : f M 56 = I b.length ∧ TxA f (ar 55) b) (hs : ∀ c ∈ t, isSg c) (hs' : ∀ c ∈ b, isSg c) (hb : b.length ≤ 100) :
    ∃ f' g', p_X12_checks (some M) (hM h f g) = some (I (chkF t b), hM h f' g') ∧ WsM f' g' ar M (wsOf t) ∧ MFr f f' g g' ar M [40] [41, 42, 43, 44] := by
  obtain ⟨f', g', p1, p2, p3⟩ := finds_eq (f := f) (g := g) m hs T
  have B' : f' M 56 = I b.length ∧ TxA f' (ar 55) b := by
    refine ⟨by rw [(p3.1 56 (by simp)).1]; exact B.1, fun i c hc => ?_⟩
    rw [(p3.at_ m (j := 55) (by decide) (by simp) (by decide)).1]
    exact B.2 i c hc
  refine ⟨f', g', ?_, p2, p3⟩
  have := chk8 (f := f') (g := g') m p2 (T.fr p3 m (by simp) (by simp) (by decide)) B' hs hs' hb (esOf t).length 0 0 zFuel (by omega) (by have := es_len t; have := T.2.1; unfold zFuel; omega) (Nat.le_refl _)
  have this' : p_X12_checks_l8 zFuel (some M) 0 0 (hM h f' g') = _ := this
  simp only [p_X12_checks, z_b, m_vr m, p1, this']
  rfl
end
