/-! ===== the text: what its signs are, which words and sentences it has ===== -/
def isLt (c : Nat) : Prop := 97 ≤ c ∧ c ≤ 104
def isSg (c : Nat) : Prop := isLt c ∨ c = 32 ∨ c = 46 ∨ c = 60 ∨ c = 62
/-- a word of the text: where it begins, its letters, the number of its sentence -/
abbrev Wr : Type := Nat × Wd × Nat
/-- is there markup, is there a word, the words, the ends of sentences with how many words are ahead of them -/
abbrev Sc : Type := Bool × Bool × List Wr × List (Nat × Nat)
def addL : List Wr → Nat → List Wr
  | [], _ => []
  | w :: t, l => match t with
    | [] => [(w.1, w.2.1 ++ [l], w.2.2)]
    | _ :: _ => w :: addL t l
theorem addL_snoc (u : List Wr) (w : Wr) (l : Nat) : addL (u ++ [w]) l = u ++ [(w.1, w.2.1 ++ [l], w.2.2)] := by
  induction u with
  | nil => rfl
  | cons x u ih =>
    cases u with
    | nil => rfl
    | cons y u => exact congrArg (x :: ·) ih
def scW (s : Sc) (k : Nat) : List Wr := if s.2.1 = true then s.2.2.1 else s.2.2.1 ++ [(k, [], s.2.2.2.length)]
def scStep (s : Sc) (k c : Nat) : Sc :=
  if s.1 = false ∧ 97 ≤ c ∧ c ≤ 104 then (s.1, true, addL (scW s k) (c - 97), s.2.2.2)
  else if c = 46 ∧ s.1 = false then (s.1, false, s.2.2.1, s.2.2.2 ++ [(k + 1, s.2.2.1.length)])
  else if c = 60 then (true, false, s.2.2)
  else if c = 62 then (false, false, s.2.2)
  else (s.1, false, s.2.2)
def scanL : List Nat → Nat → Sc → Sc
  | [], _, s => s
  | c :: t, k, s => scanL t (k + 1) (scStep s k c)
def sc0 : Sc := (false, false, [], [])
def scan (t : List Nat) : Sc := scanL t 0 sc0
def wsOf (t : List Nat) : List Wr := (scan t).2.2.1
/-- with the last sentence's end -/
def esOf (t : List Nat) : List (Nat × Nat) := (scan t).2.2.2 ++ [(t.length, (wsOf t).length)]
/-- what holds of the first k signs -/
def SOk (t : List Nat) (k : Nat) (s : Sc) : Prop :=
  (2 * s.2.2.1.length ≤ k + if s.2.1 = true then 1 else 0) ∧ s.2.2.2.length ≤ k ∧
  (s.2.1 = true → s.1 = false ∧ ∃ (u : List Wr) (w : Wr), s.2.2.1 = u ++ [w] ∧ w.1 + w.2.1.length = k ∧ w.2.2 = s.2.2.2.length) ∧
  (∀ (i : Nat) (w : Wr), s.2.2.1[i]? = some w → isW w.2.1 ∧ w.2.1 ≠ [] ∧ w.1 + w.2.1.length ≤ k ∧ w.2.2 ≤ s.2.2.2.length ∧ ∀ j, j < w.2.1.length → t[w.1 + j]? = some (97 + w.2.1.getD j 0)) ∧
  (∀ (i : Nat) (e : Nat × Nat), s.2.2.2[i]? = some e → e.1 ≤ k ∧ e.2 ≤ s.2.2.1.length ∧ ∀ (j : Nat) (w : Wr), s.2.2.1[j]? = some w → (w.2.2 ≤ i ↔ j < e.2) ∧ (j < e.2 ↔ w.1 < e.1))
theorem snoc_get {α : Type} {u : List α} {x : α} {i : Nat} {w : α} : (u ++ [x])[i]? = some w ↔ u[i]? = some w ∨ i = u.length ∧ w = x := by
  by_cases h : i < u.length
  · rw [List.getElem?_append_left h]
    exact Iff.intro Or.inl (fun q => q.elim id (fun z => absurd z.1 (by omega)))
  · rw [List.getElem?_append_right (by omega)]
    have hn : u[i]? = none := List.getElem?_eq_none (by omega)
    by_cases he : i = u.length
    · subst he
      rw [Nat.sub_self, hn]
      show some x = some w ↔ _
      exact Iff.intro (fun q => Or.inr ⟨rfl, (Option.some.inj q).symm⟩) (fun q => q.elim (fun z => by cases z) (fun z => by rw [z.2]))
    · rw [hn, List.getElem?_eq_none (by simp; omega)]
      exact Iff.intro (fun q => by cases q) (fun q => q.elim (fun z => by cases z) (fun z => absurd z.1 he))
theorem lt_of_get {α : Type} {u : List α} {i : Nat} {w : α} (h : u[i]? = some w) : i < u.length := by
  by_cases q : i < u.length
  · exact q
  · rw [List.getElem?_eq_none (by omega)] at h; cases h
theorem SOk0 (t : List Nat) : SOk t 0 sc0 := by
  refine ⟨by simp [sc0], by simp [sc0], fun q => (by cases q), fun i w h => (by cases h), fun i e h => (by cases h)⟩
theorem sok_step {t : List Nat} {k : Nat} {s : Sc} (h : SOk t k s) {c : Nat} (hc : t[k]? = some c) : SOk t (k + 1) (scStep s k c) := by
  obtain ⟨mk, inw, ws, es⟩ := s
  obtain ⟨h1, h2, h3, h4, h5⟩ := h
  unfold scStep
  have off : ∀ mk' : Bool, SOk t (k + 1) (mk', false, ws, es) := fun mk' => by
    refine ⟨?_, Nat.le_succ_of_le h2, fun q => (by cases q), fun i w hw => ?_, fun i e he => ?_⟩
    · show 2 * ws.length ≤ k + 1 + _
      have h1' : 2 * ws.length ≤ k + _ := h1
      have : (if inw = true then 1 else 0) ≤ 1 := by split <;> decide
      show 2 * ws.length ≤ k + 1 + if (false = true) then 1 else 0
      rw [if_neg (by decide)]
      have h1'' : 2 * ws.length ≤ k + if inw = true then 1 else 0 := h1
      omega
    · obtain ⟨a, b, c1, d, e⟩ := h4 i w hw
      exact ⟨a, b, Nat.le_succ_of_le c1, d, e⟩
    · obtain ⟨a, b, c1⟩ := h5 i e he
      exact ⟨Nat.le_succ_of_le a, b, c1⟩
  by_cases q : mk = false ∧ 97 ≤ c ∧ c ≤ 104
  · rw [if_pos q]
    obtain ⟨q1, q2, q3⟩ := q
    subst q1
    -- the words ahead, the word that takes the letter
    have key : ∃ (u : List Wr) (w : Wr), scW (false, inw, ws, es) k = u ++ [w] ∧ w.1 + w.2.1.length = k ∧ w.2.2 = es.length ∧ isW w.2.1 ∧ (∀ j, j < w.2.1.length → t[w.1 + j]? = some (97 + w.2.1.getD j 0)) ∧ (2 * u.length ≤ k) ∧ (∀ (i : Nat) (w' : Wr), u[i]? = some w' → ws[i]? = some w') ∧ (∀ (i : Nat) (e : Nat × Nat), es[i]? = some e → e.2 ≤ u.length ∨ (u.length < e.2 ∧ e.2 ≤ u.length + 1 ∧ inw = true)) ∧ (inw = true → ws = u ++ [w]) := by
      cases inw with
      | true =>
        obtain ⟨-, u, w, w1, w2, w3⟩ := h3 rfl
        have w1' : ws = u ++ [w] := w1
        obtain ⟨a1, a2, a3, a4, a5⟩ := h4 u.length w (by show ws[u.length]? = some w; rw [w1']; exact snoc_get.mpr (Or.inr ⟨rfl, rfl⟩))
        refine ⟨u, w, w1, w2, w3, a1, a5, ?_, fun i w' hw' => ?_, fun i e he => ?_, fun _ => w1'⟩
        · have h1' : 2 * ws.length ≤ k + 1 := h1
          rw [w1', List.length_append] at h1'
          simp at h1'
          omega
        · rw [w1']; exact snoc_get.mpr (Or.inl hw')
        · have := (h5 i e he).2.1
          have this' : e.2 ≤ ws.length := this
          rw [w1', List.length_append] at this'
          simp at this'
          by_cases z : e.2 ≤ u.length
          · exact Or.inl z
          · exact Or.inr ⟨by omega, by omega, rfl⟩
      | false =>
        refine ⟨ws, (k, [], es.length), rfl, rfl, rfl, isW_nil, fun j hj => absurd hj (Nat.not_lt_zero _), ?_, fun i w' hw' => hw', fun i e he => Or.inl (h5 i e he).2.1, fun z => (by cases z)⟩
        have h1' : 2 * ws.length ≤ k + 0 := h1
        omega
    obtain ⟨u, w, k1, k2, k3, k4, k5, k6, k7, k8, k9⟩ := key
    show SOk t (k + 1) (false, true, addL (scW (false, inw, ws, es) k) (c - 97), es)
    rw [k1, addL_snoc]
    have hlen : (u ++ [(w.1, w.2.1 ++ [c - 97], w.2.2)]).length = u.length + 1 := by simp
    refine ⟨?_, Nat.le_succ_of_le h2, fun _ => ⟨rfl, u, _, rfl, ?_, k3⟩, fun i w' hw' => ?_, fun i e he => ?_⟩
    · show 2 * (u ++ [_]).length ≤ k + 1 + 1
      rw [hlen]; omega
    · show w.1 + (w.2.1 ++ [c - 97]).length = k + 1
      rw [List.length_append]; simp; omega
    · rcases snoc_get.mp hw' with z | ⟨-, z⟩
      · obtain ⟨a, b, c1, d, e⟩ := h4 i w' (k7 i w' z)
        exact ⟨a, b, Nat.le_succ_of_le c1, d, e⟩
      · subst z
        refine ⟨isW_app.mpr ⟨k4, fun l hl => ?_⟩, by simp, ?_, Nat.le_of_eq k3, fun j hj => ?_⟩
        · have : l = c - 97 := List.mem_singleton.mp hl
          omega
        · show w.1 + (w.2.1 ++ [c - 97]).length ≤ k + 1
          rw [List.length_append]; simp; omega
        · show t[w.1 + j]? = some (97 + (w.2.1 ++ [c - 97]).getD j 0)
          have hj' : j < (w.2.1 ++ [c - 97]).length := hj
          rw [List.length_append] at hj'
          simp at hj'
          rw [List.getD_eq_getElem?_getD]
          by_cases z : j < w.2.1.length
          · rw [List.getElem?_append_left z, ← List.getD_eq_getElem?_getD]; exact k5 j z
          · have e : j = w.2.1.length := by omega
            subst e
            rw [List.getElem?_append_right (Nat.le_refl _), Nat.sub_self, k2, hc]
            show some c = some (97 + (c - 97))
            congr 1; omega
    · obtain ⟨a, b, c1⟩ := h5 i e he
      have hil := lt_of_get he
      have hil' : i < es.length := hil
      refine ⟨Nat.le_succ_of_le a, ?_, fun j w' hw' => ?_⟩
      · show e.2 ≤ (u ++ [_]).length
        rw [hlen]
        rcases k8 i e he with z | z <;> omega
      · rcases snoc_get.mp hw' with z | ⟨z1, z⟩
        · exact c1 j w' (k7 j w' z)
        · subst z
          have z1' : j = u.length := z1
          show (w.2.2 ≤ i ↔ j < e.2) ∧ (j < e.2 ↔ w.1 < e.1)
          rcases k8 i e he with y | ⟨y1, y2, y3⟩
          · refine ⟨⟨fun p => by omega, fun p => by omega⟩, ⟨fun p => by omega, fun p => ?_⟩⟩
            cases inw with
            | true =>
              have := (c1 u.length w (by show ws[u.length]? = some w; rw [k9 rfl]; exact snoc_get.mpr (Or.inr ⟨rfl, rfl⟩))).2.mpr p
              omega
            | false =>
              have a' : e.1 ≤ k := a
              have k1' : ws ++ [(k, [], es.length)] = u ++ [w] := k1
              have := (List.append_inj' k1' rfl).2
              have : w = (k, [], es.length) := (List.cons.inj this).1.symm
              rw [this] at p
              have p' : k < e.1 := p
              omega
          · have := c1 u.length w (by show ws[u.length]? = some w; rw [k9 y3]; exact snoc_get.mpr (Or.inr ⟨rfl, rfl⟩))
            rw [z1']; exact this
  · rw [if_neg q]
    by_cases q2 : c = 46 ∧ mk = false
    · rw [if_pos q2]
      obtain ⟨o1, o2, o3, o4, o5⟩ := off mk
      refine ⟨o1, ?_, fun z => (by cases z), fun i w hw => ?_, fun i e he => ?_⟩
      · show (es ++ [_]).length ≤ k + 1
        rw [List.length_append]; simp
        exact h2
      · obtain ⟨a, b, c1, d, e⟩ := o4 i w hw
        refine ⟨a, b, c1, ?_, e⟩
        show w.2.2 ≤ (es ++ [_]).length
        rw [List.length_append]
        exact Nat.le_trans d (Nat.le_add_right _ _)
      · rcases snoc_get.mp he with z | ⟨z1, z⟩
        · exact o5 i e z
        · subst z
          refine ⟨Nat.le_refl _, Nat.le_refl _, fun j w hw => ?_⟩
          obtain ⟨a, b, c1, d, e⟩ := h4 j w hw
          have hj : j < ws.length := lt_of_get hw
          have hl : 0 < w.2.1.length := List.length_pos_iff.mpr b
          have z1' : i = es.length := z1
          have d' : w.2.2 ≤ es.length := d
          refine ⟨⟨fun _ => hj, fun _ => by omega⟩, ⟨fun _ => ?_, fun _ => hj⟩⟩
          show w.1 < k + 1
          omega
    · rw [if_neg q2]
      split
      · exact off true
      · split
        · exact off false
        · exact off mk
theorem sok_scanL {t : List Nat} : ∀ (r : List Nat) (k : Nat) (s : Sc), t.drop k = r → SOk t k s → SOk t (k + r.length) (scanL r k s) := by
  intro r
  induction r with
  | nil => intro k s _ h; exact h
  | cons c r ih =>
    intro k s hd h
    obtain ⟨hat, hd'⟩ := drop_at hd
    have := ih (k + 1) (scStep s k c) hd' (sok_step h hat)
    rw [List.length_cons, show k + (r.length + 1) = k + 1 + r.length by omega]
    exact this
theorem scan_ok (t : List Nat) : SOk t t.length (scan t) := by
  have := sok_scanL (t := t) t 0 sc0 rfl (SOk0 t)
  rw [Nat.zero_add] at this
  exact this
