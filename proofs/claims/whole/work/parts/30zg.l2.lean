/-! sentences: where they begin, how many words are ahead -/
def sSt (es : List (Nat × Nat)) : Nat → Nat
  | 0 => 0
  | i + 1 => (es.getD i (0, 0)).1
def sFw (es : List (Nat × Nat)) : Nat → Nat
  | 0 => 0
  | i + 1 => (es.getD i (0, 0)).2
theorem getD_snoc_lt {α : Type} {u : List α} {x d : α} {i : Nat} (h : i < u.length) : (u ++ [x]).getD i d = u.getD i d := by
  rw [List.getD_eq_getElem?_getD, List.getD_eq_getElem?_getD, List.getElem?_append_left h]
theorem getD_snoc_eq {α : Type} {u : List α} {x d : α} : (u ++ [x]).getD u.length d = x := by
  rw [List.getD_eq_getElem?_getD, List.getElem?_append_right (Nat.le_refl _), Nat.sub_self]; rfl
theorem sSt_snoc {es : List (Nat × Nat)} {e : Nat × Nat} {i : Nat} (h : i ≤ es.length) : sSt (es ++ [e]) i = sSt es i ∧ sFw (es ++ [e]) i = sFw es i := by
  cases i with
  | zero => exact ⟨rfl, rfl⟩
  | succ i =>
    show ((es ++ [e]).getD i (0, 0)).1 = _ ∧ ((es ++ [e]).getD i (0, 0)).2 = _
    rw [getD_snoc_lt (by omega)]
    exact ⟨rfl, rfl⟩
theorem sSt_last {es : List (Nat × Nat)} {e : Nat × Nat} : sSt (es ++ [e]) (es.length + 1) = e.1 ∧ sFw (es ++ [e]) (es.length + 1) = e.2 := by
  show ((es ++ [e]).getD es.length (0, 0)).1 = _ ∧ ((es ++ [e]).getD es.length (0, 0)).2 = _
  rw [getD_snoc_eq]
  exact ⟨rfl, rfl⟩
/-- ends go up -/
def EUp (k n : Nat) (es : List (Nat × Nat)) : Prop := (∀ i, i < es.length → sSt es i < sSt es (i + 1) ∧ sFw es i ≤ sFw es (i + 1)) ∧ sSt es es.length ≤ k ∧ sFw es es.length ≤ n
theorem EUp_snoc {k n : Nat} {es : List (Nat × Nat)} (h : EUp k n es) {e : Nat × Nat} (h1 : k < e.1) (h2 : n ≤ e.2) : EUp e.1 e.2 (es ++ [e]) := by
  obtain ⟨a, b, c⟩ := h
  have hl : (es ++ [e]).length = es.length + 1 := by simp
  refine ⟨fun i hi => ?_, ?_, ?_⟩
  · rw [hl] at hi
    by_cases q : i < es.length
    · rw [(sSt_snoc (e := e) (show i ≤ es.length by omega)).1, (sSt_snoc (e := e) (show i ≤ es.length by omega)).2, (sSt_snoc (e := e) (show i + 1 ≤ es.length by omega)).1, (sSt_snoc (e := e) (show i + 1 ≤ es.length by omega)).2]
      exact a i q
    · have hi' : i = es.length := by omega
      subst hi'
      rw [(sSt_snoc (e := e) (Nat.le_refl _)).1, (sSt_snoc (e := e) (Nat.le_refl _)).2, sSt_last.1, sSt_last.2]
      exact ⟨by omega, by omega⟩
  · rw [hl, sSt_last.1]; exact Nat.le_refl _
  · rw [hl, sSt_last.2]; exact Nat.le_refl _
theorem EUp.mono {k n k' n' : Nat} {es : List (Nat × Nat)} (h : EUp k n es) (h1 : k ≤ k') (h2 : n ≤ n') : EUp k' n' es := ⟨h.1, Nat.le_trans h.2.1 h1, Nat.le_trans h.2.2 h2⟩
theorem addL_len (ws : List Wr) (l : Nat) : (addL ws l).length = ws.length := by
  induction ws with
  | nil => rfl
  | cons w t ih =>
    cases t with
    | nil => rfl
    | cons y t => exact congrArg (· + 1) ih
theorem scW_len (s : Sc) (k : Nat) : s.2.2.1.length ≤ (scW s k).length := by
  unfold scW
  split
  · exact Nat.le_refl _
  · rw [List.length_append]; exact Nat.le_add_right _ _
/-- a step: either the ends stay, or one is added, and then there is neither markup nor a word -/
theorem scStep_cases (s : Sc) (k c : Nat) : (scStep s k c).2.2.2 = s.2.2.2 ∧ s.2.2.1.length ≤ (scStep s k c).2.2.1.length ∧ ¬ (c = 46 ∧ s.1 = false) ∨ (c = 46 ∧ s.1 = false) ∧ scStep s k c = (false, false, s.2.2.1, s.2.2.2 ++ [(k + 1, s.2.2.1.length)]) := by
  unfold scStep
  by_cases q : s.1 = false ∧ 97 ≤ c ∧ c ≤ 104
  · rw [if_pos q]
    refine Or.inl ⟨rfl, ?_, by omega⟩
    show _ ≤ (addL _ _).length
    rw [addL_len]; exact scW_len s k
  · rw [if_neg q]
    by_cases q2 : c = 46 ∧ s.1 = false
    · rw [if_pos q2]
      refine Or.inr ⟨q2, ?_⟩
      rw [q2.2]
    · rw [if_neg q2]
      refine Or.inl ⟨?_, ?_, q2⟩
      · split
        · rfl
        · split <;> rfl
      · split
        · exact Nat.le_refl _
        · split <;> exact Nat.le_refl _
theorem eup_step {k : Nat} {s : Sc} (h : EUp k s.2.2.1.length s.2.2.2) (c : Nat) : EUp (k + 1) (scStep s k c).2.2.1.length (scStep s k c).2.2.2 := by
  rcases scStep_cases s k c with ⟨a, b, -⟩ | ⟨-, a⟩
  · rw [a]; exact h.mono (Nat.le_succ _) b
  · rw [a]
    exact (EUp_snoc h (e := (k + 1, s.2.2.1.length)) (Nat.lt_succ_self _) (Nat.le_refl _))
theorem eup_scanL : ∀ (r : List Nat) (k : Nat) (s : Sc), EUp k s.2.2.1.length s.2.2.2 → EUp (k + r.length) (scanL r k s).2.2.1.length (scanL r k s).2.2.2 := by
  intro r
  induction r with
  | nil => intro k s h; exact h
  | cons c r ih =>
    intro k s h
    have := ih (k + 1) (scStep s k c) (eup_step h c)
    rw [List.length_cons, show k + (r.length + 1) = k + 1 + r.length by omega]
    exact this
theorem eup_scan (t : List Nat) : EUp t.length (wsOf t).length (scan t).2.2.2 := by
  have := eup_scanL t 0 sc0 ⟨fun i hi => absurd hi (Nat.not_lt_zero _), Nat.le_refl _, Nat.le_refl _⟩
  rw [Nat.zero_add] at this
  exact this
/-- the ends only grow -/
theorem es_pre : ∀ (r : List Nat) (k : Nat) (s : Sc), ∃ u, (scanL r k s).2.2.2 = s.2.2.2 ++ u := by
  intro r
  induction r with
  | nil => intro k s; exact ⟨[], (List.append_nil _).symm⟩
  | cons c r ih =>
    intro k s
    obtain ⟨u, hu⟩ := ih (k + 1) (scStep s k c)
    rcases scStep_cases s k c with ⟨a, -, -⟩ | ⟨-, a⟩
    · exact ⟨u, by rw [← a]; exact hu⟩
    · refine ⟨(k + 1, s.2.2.1.length) :: u, ?_⟩
      show (scanL r (k + 1) (scStep s k c)).2.2.2 = _
      rw [hu, a]; simp
/-- the state after k signs -/
def scP (t : List Nat) (k : Nat) : Sc := scanL (t.take k) 0 sc0
theorem scanL_app : ∀ (a b : List Nat) (k : Nat) (s : Sc), scanL (a ++ b) k s = scanL b (k + a.length) (scanL a k s) := by
  intro a
  induction a with
  | nil => intro b k s; rfl
  | cons c a ih =>
    intro b k s
    show scanL (a ++ b) (k + 1) _ = _
    rw [ih b (k + 1), List.length_cons, show k + (a.length + 1) = k + 1 + a.length by omega]
    rfl
theorem scP_full (t : List Nat) : scP t t.length = scan t := by unfold scP scan; rw [List.take_length]
theorem scP_rest (t : List Nat) {k : Nat} (hk : k ≤ t.length) : scan t = scanL (t.drop k) k (scP t k) := by
  have := scanL_app (t.take k) (t.drop k) 0 sc0
  rw [List.take_append_drop, List.length_take, Nat.min_eq_left hk, Nat.zero_add] at this
  exact this
theorem scP_succ {t : List Nat} {k c : Nat} (hc : t[k]? = some c) : scP t (k + 1) = scStep (scP t k) k c := by
  have hk := lt_of_get hc
  have e : t.take (k + 1) = t.take k ++ [c] := by rw [List.take_succ, hc]; rfl
  unfold scP
  rw [e, scanL_app, List.length_take, Nat.min_eq_left (by omega), Nat.zero_add]
  rfl
/-- an end stands in the whole list where it came -/
theorem es_at {t : List Nat} {k : Nat} (hk : k ≤ t.length) : ∃ u, esOf t = (scP t k).2.2.2 ++ u := by
  obtain ⟨u, hu⟩ := es_pre (t.drop k) k (scP t k)
  refine ⟨u ++ [(t.length, (wsOf t).length)], ?_⟩
  unfold esOf
  rw [scP_rest t hk, hu, List.append_assoc]
/-- behind the end of a sentence there is no markup, and so many ends are behind us -/
theorem scP_end {t : List Nat} : ∀ (k : Nat), k ≤ t.length → ∀ i, i < (scP t k).2.2.2.length → ∃ d, d ≤ k ∧ sSt (scP t k).2.2.2 (i + 1) = d ∧ (scP t d).1 = false ∧ (scP t d).2.2.2.length = i + 1 := by
  intro k
  induction k with
  | zero => intro _ i hi; exact absurd hi (Nat.not_lt_zero _)
  | succ k ih =>
    intro hk i hi
    have hc : t[k]? = some (t[k]'(by omega)) := List.getElem?_eq_getElem _
    have hs := scP_succ hc
    rcases scStep_cases (scP t k) k (t[k]'(by omega)) with ⟨a, -, -⟩ | ⟨-, a⟩
    · rw [hs, a] at hi ⊢
      obtain ⟨d, d1, d2⟩ := ih (by omega) i hi
      exact ⟨d, by omega, d2⟩
    · rw [hs, a] at hi ⊢
      have hi' : i < ((scP t k).2.2.2 ++ [(k + 1, (scP t k).2.2.1.length)]).length := hi
      rw [List.length_append, List.length_singleton] at hi'
      show ∃ d, d ≤ k + 1 ∧ sSt ((scP t k).2.2.2 ++ [(k + 1, (scP t k).2.2.1.length)]) (i + 1) = d ∧ _
      by_cases q : i < (scP t k).2.2.2.length
      · rw [(sSt_snoc (by omega)).1]
        obtain ⟨d, d1, d2⟩ := ih (by omega) i q
        exact ⟨d, by omega, d2⟩
      · have : i = (scP t k).2.2.2.length := by omega
        subst this
        rw [sSt_last.1]
        refine ⟨k + 1, Nat.le_refl _, rfl, ?_, ?_⟩
        · rw [hs, a]
        · rw [hs, a, List.length_append]; rfl
/-- what holds of a text's sentences -/
theorem es_len (t : List Nat) : (esOf t).length = (scan t).2.2.2.length + 1 ∧ (scan t).2.2.2.length ≤ t.length := by
  refine ⟨?_, (scan_ok t).2.1⟩
  unfold esOf
  rw [List.length_append]; rfl
theorem st_end (t : List Nat) : sSt (esOf t) (esOf t).length = t.length ∧ sFw (esOf t) (esOf t).length = (wsOf t).length := by
  rw [(es_len t).1]
  unfold esOf
  exact sSt_last
theorem st_in (t : List Nat) {i : Nat} (hi : i ≤ (scan t).2.2.2.length) : sSt (esOf t) i = sSt (scan t).2.2.2 i ∧ sFw (esOf t) i = sFw (scan t).2.2.2 i := by
  unfold esOf
  exact sSt_snoc hi
/-- every sentence but the last has a sign -/
theorem st_up (t : List Nat) {i : Nat} (hi : i < (scan t).2.2.2.length) : sSt (esOf t) i < sSt (esOf t) (i + 1) ∧ sFw (esOf t) i ≤ sFw (esOf t) (i + 1) := by
  rw [(st_in t (by omega)).1, (st_in t (by omega)).2, (st_in t (show i + 1 ≤ _ by omega)).1, (st_in t (show i + 1 ≤ _ by omega)).2]
  exact (eup_scan t).1 i hi
theorem st_le (t : List Nat) {i : Nat} (hi : i < (esOf t).length) : sSt (esOf t) i ≤ sSt (esOf t) (i + 1) ∧ sFw (esOf t) i ≤ sFw (esOf t) (i + 1) := by
  have h1 := es_len t
  by_cases q : i < (scan t).2.2.2.length
  · exact ⟨Nat.le_of_lt (st_up t q).1, (st_up t q).2⟩
  · have e : i = (scan t).2.2.2.length := by omega
    have h2 := st_end t
    rw [h1.1] at h2
    rw [e, h2.1, h2.2, (st_in t (Nat.le_refl _)).1, (st_in t (Nat.le_refl _)).2]
    exact ⟨(eup_scan t).2.1, (eup_scan t).2.2⟩
theorem st_mono (t : List Nat) : ∀ (d i : Nat), i + d ≤ (esOf t).length → sSt (esOf t) i ≤ sSt (esOf t) (i + d) ∧ sFw (esOf t) i ≤ sFw (esOf t) (i + d) := by
  intro d
  induction d with
  | zero => intro i _; exact ⟨Nat.le_refl _, Nat.le_refl _⟩
  | succ d ih =>
    intro i hi
    have a := ih i (by omega)
    have b := st_le t (i := i + d) (by omega)
    exact ⟨Nat.le_trans a.1 b.1, Nat.le_trans a.2 b.2⟩
theorem st_max (t : List Nat) {i : Nat} (hi : i ≤ (esOf t).length) : sSt (esOf t) i ≤ t.length ∧ sFw (esOf t) i ≤ (wsOf t).length := by
  have a := st_mono t ((esOf t).length - i) i (by omega)
  rw [show i + ((esOf t).length - i) = (esOf t).length by omega, (st_end t).1, (st_end t).2] at a
  exact a
/-- at the start of a sentence -/
theorem st_state (t : List Nat) {i : Nat} (hi : i < (esOf t).length) : (scP t (sSt (esOf t) i)).1 = false ∧ (scP t (sSt (esOf t) i)).2.2.2.length = i := by
  cases i with
  | zero => exact ⟨rfl, rfl⟩
  | succ i =>
    have h1 := es_len t
    obtain ⟨d, d1, d2, d3, d4⟩ := scP_end (t := t) t.length (Nat.le_refl _) i (by rw [scP_full]; omega)
    rw [scP_full] at d2
    rw [(st_in t (by omega)).1, d2]
    exact ⟨d3, d4⟩
/-- which words lie in which sentence -/
theorem st_words (t : List Nat) {i : Nat} (hi : i ≤ (esOf t).length) {j : Nat} {w : Wr} (hw : (wsOf t)[j]? = some w) : (j < sFw (esOf t) i ↔ w.1 < sSt (esOf t) i) ∧ (w.2.2 < i ↔ j < sFw (esOf t) i) := by
  obtain ⟨a1, a2, a3, a4, a5⟩ := scan_ok t
  have h1 := es_len t
  obtain ⟨b1, b2, b3, b4, b5⟩ := a4 j w hw
  have hl : 0 < w.2.1.length := List.length_pos_iff.mpr b2
  cases i with
  | zero => exact ⟨⟨fun q => absurd q (Nat.not_lt_zero _), fun q => absurd q (Nat.not_lt_zero _)⟩, ⟨fun q => absurd q (Nat.not_lt_zero _), fun q => absurd q (Nat.not_lt_zero _)⟩⟩
  | succ i =>
    by_cases q : i < (scan t).2.2.2.length
    · have he : (scan t).2.2.2[i]? = some ((scan t).2.2.2.getD i (0, 0)) := by
        rw [List.getD_eq_getElem?_getD, List.getElem?_eq_getElem q]; rfl
      obtain ⟨c1, c2, c3⟩ := a5 i _ he
      obtain ⟨d1, d2⟩ := c3 j w hw
      rw [(st_in t (show i + 1 ≤ _ by omega)).1, (st_in t (show i + 1 ≤ _ by omega)).2]
      exact ⟨d2, ⟨fun z => d1.mp (by omega), fun z => by have := d1.mpr z; omega⟩⟩
    · have e : i + 1 = (esOf t).length := by omega
      rw [e, (st_end t).1, (st_end t).2]
      have hj : j < (wsOf t).length := lt_of_get hw
      exact ⟨⟨fun _ => by omega, fun _ => hj⟩, ⟨fun _ => hj, fun _ => by omega⟩⟩
