/-! ===== rules, stems ===== -/
/-- a number or NONE -/
def oz (k : Option Nat) : Int := match k with | none => -1 | some n => n
/-- flag, is it for endings, strip, border, added, kind, form, more flags -/
abbrev Ru : Type := Nat × Bool × Nat × Option Nat × Wd × Option Nat × Option Nat × Nat
abbrev Ru.flag (r : Ru) : Nat := r.1
abbrev Ru.isEnd (r : Ru) : Bool := r.2.1
abbrev Ru.strip (r : Ru) : Nat := r.2.2.1
abbrev Ru.border (r : Ru) : Option Nat := r.2.2.2.1
abbrev Ru.added (r : Ru) : Wd := r.2.2.2.2.1
abbrev Ru.kind (r : Ru) : Option Nat := r.2.2.2.2.2.1
abbrev Ru.form (r : Ru) : Option Nat := r.2.2.2.2.2.2.1
abbrev Ru.more (r : Ru) : Nat := r.2.2.2.2.2.2.2
def RuOk (r : Ru) : Prop := r.flag ≤ 5 ∧ r.strip ≤ 2 ∧ (∀ b, r.border = some b → b < 8) ∧ isW r.added ∧ r.added.length ≤ 4 ∧ (∀ b, r.kind = some b → b ≤ 3) ∧ (∀ b, r.form = some b → b ≤ 1) ∧ r.more ≤ 63
/-- word, flags, kind, form, is -/
abbrev St : Type := Wd × Nat × Nat × Nat × Nat
abbrev St.w (s : St) : Wd := s.1
abbrev St.flags (s : St) : Nat := s.2.1
abbrev St.kind (s : St) : Nat := s.2.2.1
abbrev St.form (s : St) : Nat := s.2.2.2.1
abbrev St.is (s : St) : Nat := s.2.2.2.2
def StOk (s : St) : Prop := isW s.w ∧ s.w ≠ [] ∧ s.w.length ≤ 10 ∧ s.flags ≤ 63 ∧ s.kind ≤ 3 ∧ s.form ≤ 1 ∧ s.is ≤ 7
/-- the letter that a rule looks at -/
def edge (r : Ru) (w : Wd) : Nat := if r.isEnd then w.getD (w.length - 1) 0 else w.getD 0 0
/-- what comes of a word by a rule -/
def usd (r : Ru) (w : Wd) : Option Wd :=
  if w.length ≤ r.strip ∨ 10 < w.length - r.strip + r.added.length ∨ (∃ b, r.border = some b ∧ b ≠ edge r w) then none
  else some (if r.isEnd then w.take (w.length - r.strip) ++ r.added else r.added ++ w.drop r.strip)
def among (r : Ru) (flags : Nat) (ends : Bool) : Bool := r.isEnd == ends && (flags / 2 ^ r.flag % 2 == 1)
def after (k : Option Nat) (b : Nat) : Nat := k.getD b
/-- what is known of a word: plain readings, readings in joins, may it be suggested -/
def kPlain (is kind form : Nat) : Nat := if is / 2 % 2 = 1 then 0 else 2 ^ (2 * kind + form)
def kJoin (is kind form : Nat) : Nat := if is / 2 % 2 = 1 ∨ is / 4 % 2 = 1 then 2 ^ (2 * kind + form) else 0
def kOff (is : Nat) : Nat := if is / 2 % 2 = 1 ∨ is % 2 = 1 then 0 else 1
def kAll (is kind form : Nat) : Nat := kPlain is kind form + 256 * kJoin is kind form + 65536 * kOff is
theorem usd_ok {r : Ru} (hr : RuOk r) {w u : Wd} (hw : isW w) (h : usd r w = some u) : isW u ∧ u ≠ [] ∧ u.length ≤ 10 := by
  unfold usd at h
  split at h
  · cases h
  · rename_i hc
    cases h
    have h1 : ¬ w.length ≤ r.strip := fun q => hc (Or.inl q)
    have h2 : ¬ 10 < w.length - r.strip + r.added.length := fun q => hc (Or.inr (Or.inl q))
    by_cases he : r.isEnd = true
    · rw [if_pos he]
      refine ⟨isW_app.mpr ⟨isW_take hw _, hr.2.2.2.1⟩, fun q => ?_, ?_⟩
      · have := congrArg List.length q
        rw [List.length_append, List.length_take] at this
        simp at this
        omega
      · rw [List.length_append, List.length_take]; omega
    · rw [if_neg he]
      refine ⟨isW_app.mpr ⟨hr.2.2.2.1, isW_drop hw _⟩, fun q => ?_, ?_⟩
      · have := congrArg List.length q
        rw [List.length_append, List.length_drop] at this
        simp at this
        omega
      · rw [List.length_append, List.length_drop]; omega
/-- a rule's object, a stem's object -/
def RuIs (h : ZH) (f : FI) (a : Nat) (r : Ru) : Prop := zK h a = (12, 0) ∧ f a 0 = I r.flag ∧ f a 1 = (if r.isEnd = true then 1 else 0) ∧ f a 2 = I r.strip ∧ f a 3 = I (oz r.border) ∧ f a 4 = I (cN r.added) ∧ f a 5 = I (oz r.kind) ∧ f a 6 = I (oz r.form) ∧ f a 7 = I r.more
def StIs (h : ZH) (f : FI) (a : Nat) (s : St) : Prop := zK h a = (13, 0) ∧ f a 0 = I (cN s.w) ∧ f a 1 = I s.flags ∧ f a 2 = I s.kind ∧ f a 3 = I s.form ∧ f a 4 = I s.is
def cO (u : Option Wd) : Int32 := match u with | none => 0 | some u => I (cN u)
theorem ru_kind {h : ZH} {f : FI} {a : Nat} {r : Ru} (ri : RuIs h f a r) (hr : RuOk r) (k : Nat) : p_X5_kindAfter (some a) (I k) (hI h f) = some (I (after r.kind k), hI h f) := by
  obtain ⟨r0, r1, r2, r3, r4, r5, r6, r7, r8⟩ := ri
  simp only [p_X5_kindAfter, ite_ap, z_b, z_n, z_rt, z_vr, z_gI, z_gR, z_pI, z_pR, hI_K, hI_R, hI_I, hI_hI, hI_T, hI_N, hI_L, hI_D, sI_hI, wI_hI, if_true, r0, r6]
  cases hk : r.kind with
  | none =>
    rw [if_neg (fun q => q rfl)]
    rfl
  | some b =>
    have := hr.2.2.2.2.2.1 b hk
    have e : ¬ (I (oz (some b)) = -1) := by
      show ¬ (I (b : Int) = I (-1))
      rw [I_inj (by omega) (by omega)]; omega
    rw [if_pos e]
    rfl
theorem ru_form {h : ZH} {f : FI} {a : Nat} {r : Ru} (ri : RuIs h f a r) (hr : RuOk r) (k : Nat) : p_X5_formAfter (some a) (I k) (hI h f) = some (I (after r.form k), hI h f) := by
  obtain ⟨r0, r1, r2, r3, r4, r5, r6, r7, r8⟩ := ri
  simp only [p_X5_formAfter, ite_ap, z_b, z_n, z_rt, z_vr, z_gI, z_gR, z_pI, z_pR, hI_K, hI_R, hI_I, hI_hI, hI_T, hI_N, hI_L, hI_D, sI_hI, wI_hI, if_true, r0, r7]
  cases hk : r.form with
  | none =>
    rw [if_neg (fun q => q rfl)]
    rfl
  | some b =>
    have := hr.2.2.2.2.2.2.1 b hk
    have e : ¬ (I (oz (some b)) = -1) := by
      show ¬ (I (b : Int) = I (-1))
      rw [I_inj (by omega) (by omega)]; omega
    rw [if_pos e]
    rfl
theorem bit_eq {x k : Nat} (hx : x < 2147483648) (hk : k < 32) : (((I (x : Int) >>> (I (k : Int) &&& 31)) &&& 1) = 0) ↔ x / 2 ^ k % 2 = 0 := by
  rw [I_msk k hk, I_shr hx hk, show (1 : Int32) = I ((1 : Nat) : Int) from rfl, I_and, show (1 : Nat) = 2 ^ 1 - 1 from rfl, Nat.and_two_pow_sub_one_eq_mod, I_0, I_inj (by omega) (by omega)]
  omega
theorem ru_among {h : ZH} {f : FI} {a : Nat} {r : Ru} (ri : RuIs h f a r) (hr : RuOk r) {fl : Nat} (hf : fl ≤ 63) (b : Bool) : p_X5_isAmong (some a) (I fl) (if b = true then 1 else 0) (hI h f) = some (if among r fl b = true then 1 else 0, hI h f) := by
  obtain ⟨r0, r1, r2, r3, r4, r5, r6, r7, r8⟩ := ri
  have hfl := hr.1
  simp only [p_X5_isAmong, ite_ap, z_b, z_n, z_rt, z_vr, z_gI, z_gR, z_pI, z_pR, hI_K, hI_R, hI_I, hI_hI, hI_T, hI_N, hI_L, hI_D, sI_hI, wI_hI, if_true, r0, r1, r2, bit_eq (show fl < 2147483648 by omega) (show r.flag < 32 by omega), z_rz, or_true, true_or]
  unfold among
  by_cases he : r.isEnd = b
  · rw [he]
    simp only [not_true_eq_false, if_false, beq_self_eq_true, Bool.true_and, beq_iff_eq]
    by_cases hc : fl / 2 ^ r.flag % 2 = 0
    · rw [if_pos hc, if_neg (by omega)]
    · rw [if_neg hc, if_pos (by omega)]
  · have e : ¬ ((if r.isEnd = true then (1 : Int32) else 0) = if b = true then 1 else 0) := by
      cases h1 : r.isEnd <;> cases b <;> simp_all
    rw [if_pos e, if_neg]
    intro q
    rw [Bool.and_eq_true, beq_iff_eq] at q
    exact he q.1
theorem ru_used {h : ZH} {f : FI} {a : Nat} {r : Ru} (ri : RuIs h f a r) (hr : RuOk r) {w : Wd} (hw : isW w) (hn : w ≠ []) (hl : w.length ≤ 10) : p_X5_usedOn (some a) (I (cN w)) (hI h f) = some (cO (usd r w), hI h f) := by
  obtain ⟨r0, r1, r2, r3, r4, r5, r6, r7, r8⟩ := ri
  obtain ⟨o1, o2, o3, o4, o5, o6, o7, o8⟩ := hr
  have hp := List.length_pos_iff.mpr hn
  have e1 : (I (w.length : Int) ≤ I (r.strip : Int)) ↔ w.length ≤ r.strip := by rw [I_le (by omega) (by omega)]; omega
  by_cases c1 : w.length ≤ r.strip
  · have : usd r w = none := if_pos (Or.inl c1)
    rw [this]
    simp only [p_X5_usedOn, ite_ap, z_b, z_n, z_rt, z_vr, z_gI, z_gR, z_pI, z_pR, hI_K, hI_R, hI_I, hI_hI, hI_T, hI_N, hI_L, hI_D, sI_hI, wI_hI, if_true, sizeOf_eq (hI h f) hw hl, r0, r3, e1, c1]
    rfl
  · have e2 : I (w.length : Int) - I (r.strip : Int) + I (r.added.length : Int) = I ((w.length - r.strip + r.added.length : Nat) : Int) := by
      rw [I_sn _ _ (by omega), I_an]
    have e3 : (I ((w.length - r.strip + r.added.length : Nat) : Int) ≤ 10) ↔ w.length - r.strip + r.added.length ≤ 10 := by rw [lit, I_le (by omega) (by omega)]; omega
    by_cases c2 : 10 < w.length - r.strip + r.added.length
    · have : usd r w = none := if_pos (Or.inr (Or.inl c2))
      rw [this]
      simp only [p_X5_usedOn, ite_ap, z_b, z_n, z_rt, z_vr, z_gI, z_gR, z_pI, z_pR, hI_K, hI_R, hI_I, hI_hI, hI_T, hI_N, hI_L, hI_D, sI_hI, wI_hI, if_true, sizeOf_eq (hI h f) hw hl, sizeOf_eq (hI h f) o4 (show r.added.length ≤ 10 by omega), r0, r3, r5, e1, e2, e3, if_neg c1]
      rw [if_neg (by omega)]
      rfl
    · have c3 : w.length - r.strip + r.added.length ≤ 10 := by omega
      -- the end of it: what is made
      have mk : p_X5_usedOn_b69 (some a) (I (cN w)) (I (w.length : Int)) (hI h f) = some (I (cN (if r.isEnd = true then w.take (w.length - r.strip) ++ r.added else r.added ++ w.drop r.strip)), hI h f) := by
        by_cases he : r.isEnd = true
        · have p := partOf_eq (hI h f) hw hl (i := 0) (j := w.length - r.strip) (Nat.zero_le _) (by omega)
          rw [List.drop_zero] at p
          have j := joined_eq (hI h f) (isW_take hw (w.length - r.strip)) o4 (by rw [List.length_take]; omega)
          rw [if_pos he] at r2
          rw [if_pos he]
          have e4 : I (w.length : Int) - I (r.strip : Int) = I ((w.length - r.strip : Nat) : Int) := I_sn _ _ (by omega)
          simp only [p_X5_usedOn_b69, ite_ap, z_b, z_n, z_rt, z_vr, z_gI, z_gR, z_pI, z_pR, hI_K, hI_R, hI_I, hI_hI, hI_T, hI_N, hI_L, hI_D, sI_hI, wI_hI, if_true, r0, r2, r3, r5, e4]
          rw [if_neg (by decide)]
          simp only [ite_ap, z_b, z_n, z_rt, z_vr, z_gI, z_gR, z_pI, z_pR, hI_K, hI_R, hI_I, hI_hI, hI_T, hI_N, hI_L, hI_D, sI_hI, wI_hI, if_true, I_0n, p, j, r0, r3, r5, e4]
        · have p := partOf_eq (hI h f) hw hl (i := r.strip) (j := w.length) (by omega) (Nat.le_refl _)
          rw [List.take_length] at p
          have j := joined_eq (hI h f) o4 (isW_drop hw r.strip) (by rw [List.length_drop]; omega)
          rw [if_neg he] at r2
          rw [if_neg he]
          simp only [p_X5_usedOn_b69, ite_ap, z_b, z_n, z_rt, z_vr, z_gI, z_gR, z_pI, z_pR, hI_K, hI_R, hI_I, hI_hI, hI_T, hI_N, hI_L, hI_D, sI_hI, wI_hI, if_true, r0, r2, r3, r5, p, j]
      cases hb : r.border with
      | none =>
        have : usd r w = some (if r.isEnd = true then w.take (w.length - r.strip) ++ r.added else r.added ++ w.drop r.strip) := if_neg (by
          rintro (q | q | ⟨b, q, -⟩)
          · exact c1 q
          · exact c2 q
          · rw [hb] at q; cases q)
        rw [this]
        rw [hb] at r4
        simp only [p_X5_usedOn, ite_ap, z_b, z_n, z_rt, z_vr, z_gI, z_gR, z_pI, z_pR, hI_K, hI_R, hI_I, hI_hI, hI_T, hI_N, hI_L, hI_D, sI_hI, wI_hI, if_true, sizeOf_eq (hI h f) hw hl, sizeOf_eq (hI h f) o4 (show r.added.length ≤ 10 by omega), r0, r3, r4, r5, e1, e2, e3, if_neg c1, c3]
        rw [if_pos (show I (oz none) = -1 from rfl), mk]
        rfl
      | some b =>
        have hb8 := o3 b hb
        rw [hb] at r4
        have e5 : ¬ (I (oz (some b)) = -1) := by
          show ¬ (I (b : Int) = I (-1))
          rw [I_inj (by omega) (by omega)]; omega
        have hl1 : ∀ i, w.getD i 0 < 8 := fun i => by
          rw [List.getD_eq_getElem?_getD]
          cases e : w[i]? with
          | none => decide
          | some x => exact hw _ (List.mem_of_getElem? e)
        have b61 : ∀ i, i < w.length → p_X5_usedOn_b61 (some a) (I (cN w)) (I (w.length : Int)) (I (oz (some b))) (I (cN w)) (I (i : Int)) (hI h f) = some (if b = w.getD i 0 then I (cN (if r.isEnd = true then w.take (w.length - r.strip) ++ r.added else r.added ++ w.drop r.strip)) else 0, hI h f) := by
          intro i hi
          have := hl1 i
          have e6 : (I (oz (some b)) = I ((w.getD i 0 : Nat) : Int)) ↔ b = w.getD i 0 := by
            show (I (b : Int) = _) ↔ _
            rw [I_inj (by omega) (by omega)]; omega
          simp only [p_X5_usedOn_b61, ite_ap, z_b, z_n, z_rt, z_vr, z_gI, z_gR, z_pI, z_pR, hI_K, hI_R, hI_I, hI_hI, hI_T, hI_N, hI_L, hI_D, sI_hI, wI_hI, if_true, letterOf_eq (hI h f) hw hl hi, e6, mk]
          by_cases hc : b = w.getD i 0
          · rw [if_pos hc, if_pos hc]
          · rw [if_neg hc, if_neg hc]
        have hu : cO (usd r w) = if b = edge r w then I (cN (if r.isEnd = true then w.take (w.length - r.strip) ++ r.added else r.added ++ w.drop r.strip)) else 0 := by
          by_cases hc : b = edge r w
          · rw [if_pos hc]
            have : usd r w = some (if r.isEnd = true then w.take (w.length - r.strip) ++ r.added else r.added ++ w.drop r.strip) := if_neg (by
              rintro (q | q | ⟨b', q, q2⟩)
              · exact c1 q
              · exact c2 q
              · rw [hb] at q; cases q; exact q2 hc)
            rw [this]
            rfl
          · rw [if_neg hc]
            have : usd r w = none := if_pos (Or.inr (Or.inr ⟨b, hb, hc⟩))
            rw [this]
            rfl
        rw [hu]
        by_cases he : r.isEnd = true
        · have e7 : I (w.length : Int) - 1 = I ((w.length - 1 : Nat) : Int) := I_sn w.length 1 (by omega)
          have e8 : edge r w = w.getD (w.length - 1) 0 := if_pos he
          rw [e8, ← b61 (w.length - 1) (by omega)]
          rw [if_pos he] at r2
          simp only [p_X5_usedOn, ite_ap, z_b, z_n, z_rt, z_vr, z_gI, z_gR, z_pI, z_pR, hI_K, hI_R, hI_I, hI_hI, hI_T, hI_N, hI_L, hI_D, sI_hI, wI_hI, if_true, sizeOf_eq (hI h f) hw hl, sizeOf_eq (hI h f) o4 (show r.added.length ≤ 10 by omega), r0, r2, r3, r4, r5, e1, e2, e3, if_neg c1, c3, e5, if_false, e7]
          rw [if_neg (by decide)]
        · have e8 : edge r w = w.getD 0 0 := if_neg he
          rw [e8, ← b61 0 hp]
          rw [if_neg he] at r2
          simp only [p_X5_usedOn, ite_ap, z_b, z_n, z_rt, z_vr, z_gI, z_gR, z_pI, z_pR, hI_K, hI_R, hI_I, hI_hI, hI_T, hI_N, hI_L, hI_D, sI_hI, wI_hI, if_true, sizeOf_eq (hI h f) hw hl, sizeOf_eq (hI h f) o4 (show r.added.length ≤ 10 by omega), r0, r2, r3, r4, r5, e1, e2, e3, if_neg c1, c3, e5, if_false]
          rfl
