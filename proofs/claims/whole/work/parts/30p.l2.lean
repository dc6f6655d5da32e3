/-! ===== the class's book and the reference's table, side by side ===== -/
def hk (l : Bk) (w : Nat) : Prop := ∃ e, e ∈ l ∧ e.1 = w
theorem fnd_hk {l : Bk} (hs : SB l) {w : Nat} : fnd l w ↔ hk l w := by
  induction l with
  | nil => exact ⟨fun q => absurd q.1 (Nat.not_lt_zero _), fun ⟨e, q, _⟩ => absurd q List.not_mem_nil⟩
  | cons y t ih =>
    obtain ⟨c, z⟩ := y
    obtain ⟨h1, h2⟩ := List.pairwise_cons.mp hs
    unfold fnd
    by_cases hc : c < w
    · have e : brank ((c, z) :: t) w = brank t w + 1 := by simp only [brank, if_pos hc]
      rw [e]
      constructor
      · rintro ⟨q1, q2⟩
        obtain ⟨e', m1, m2⟩ := (ih h2).mp ⟨by simpa using q1, q2⟩
        exact ⟨e', List.mem_cons_of_mem _ m1, m2⟩
      · rintro ⟨e', m1, m2⟩
        rcases List.mem_cons.mp m1 with q | q
        · rw [q] at m2; have : c = w := m2; omega
        · obtain ⟨q1, q2⟩ := (ih h2).mpr ⟨e', q, m2⟩
          exact ⟨by simpa using q1, q2⟩
    · have e : brank ((c, z) :: t) w = 0 := by simp only [brank, if_neg hc]
      rw [e]
      constructor
      · rintro ⟨q1, q2⟩
        exact ⟨(c, z), List.mem_cons_self, q2⟩
      · rintro ⟨e', m1, m2⟩
        refine ⟨by simp, ?_⟩
        rcases List.mem_cons.mp m1 with q | q
        · rw [q] at m2; exact m2
        · have h3 : c < e'.1 := h1 _ q
          omega
theorem bput_has (l : Bk) (w v : Nat) : (w, v) ∈ bput l w v := by
  induction l with
  | nil => exact List.mem_singleton.mpr rfl
  | cons y t ih =>
    obtain ⟨c, z⟩ := y
    simp only [bput]
    split
    · exact List.mem_cons_of_mem _ ih
    · split
      · exact List.mem_cons_self
      · exact List.mem_cons_self
theorem bput_keeps {l : Bk} {w v : Nat} {e : Nat × Nat} (h : e ∈ l) (hw : e.1 ≠ w) : e ∈ bput l w v := by
  induction l with
  | nil => exact absurd h List.not_mem_nil
  | cons y t ih =>
    obtain ⟨c, z⟩ := y
    simp only [bput]
    rcases List.mem_cons.mp h with q | q
    · split
      · exact q ▸ List.mem_cons_self
      · split
        · rename_i hc; rw [q] at hw; exact absurd hc hw
        · exact q ▸ List.mem_cons_of_mem _ List.mem_cons_self
    · split
      · exact List.mem_cons_of_mem _ (ih q)
      · split
        · exact List.mem_cons_of_mem _ q
        · exact List.mem_cons_of_mem _ (List.mem_cons_of_mem _ q)
theorem hk_bput {l : Bk} {w v w' : Nat} : hk (bput l w v) w' ↔ w' = w ∨ hk l w' := by
  constructor
  · rintro ⟨e, m1, m2⟩
    rcases mem_bput m1 with q | q
    · rw [q] at m2; exact Or.inl m2.symm
    · exact Or.inr ⟨e, q, m2⟩
  · rintro (q | ⟨e, m1, m2⟩)
    · exact ⟨(w, v), bput_has l w v, q.symm⟩
    · by_cases hw : e.1 = w
      · exact ⟨(w, v), bput_has l w v, by rw [← m2, hw]⟩
      · exact ⟨e, bput_keeps m1 hw, m2⟩
theorem bget_bput (l : Bk) (w v w' : Nat) : bget (bput l w v) w' = if w' = w then v else bget l w' := by
  induction l with
  | nil =>
    show (if w = w' then v else 0) = _
    by_cases h : w' = w
    · rw [if_pos h, if_pos h.symm]
    · rw [if_neg h, if_neg (fun q => h q.symm)]; rfl
  | cons y t ih =>
    obtain ⟨c, z⟩ := y
    have g0 : bget ((c, z) :: t) w' = if c = w' then z else bget t w' := rfl
    rw [g0]
    by_cases hc : c < w
    · have e2 : bput ((c, z) :: t) w v = (c, z) :: bput t w v := by simp only [bput, if_pos hc]
      rw [e2]
      show (if c = w' then z else bget (bput t w v) w') = _
      rw [ih]
      by_cases h : c = w'
      · rw [if_pos h, if_neg (show ¬ w' = w by omega), if_pos h]
      · rw [if_neg h, if_neg h]
    · by_cases he : c = w
      · have e2 : bput ((c, z) :: t) w v = (w, v) :: t := by simp only [bput, if_neg hc, if_pos he]
        rw [e2]
        show (if w = w' then v else bget t w') = _
        by_cases h : w' = w
        · rw [if_pos h, if_pos h.symm]
        · rw [if_neg h, if_neg (show ¬ w = w' by omega), if_neg (show ¬ c = w' by omega)]
      · have e2 : bput ((c, z) :: t) w v = (w, v) :: (c, z) :: t := by simp only [bput, if_neg hc, if_neg he]
        rw [e2]
        show (if w = w' then v else if c = w' then z else bget t w') = _
        by_cases h : w' = w
        · rw [if_pos h, if_pos h.symm]
        · rw [if_neg h, if_neg (show ¬ w = w' by omega)]
theorem bget_none {l : Bk} {w : Nat} (h : ¬ hk l w) : bget l w = 0 := by
  induction l with
  | nil => rfl
  | cons y t ih =>
    obtain ⟨c, z⟩ := y
    show (if c = w then z else bget t w) = 0
    rw [if_neg (fun q => h ⟨(c, z), List.mem_cons_self, q⟩)]
    exact ih (fun ⟨e, m1, m2⟩ => h ⟨e, List.mem_cons_of_mem _ m1, m2⟩)
theorem lor2 {i a b c d : Nat} (hb : b < 2 ^ i) (hd : d < 2 ^ i) : (2 ^ i * a + b) ||| (2 ^ i * c + d) = 2 ^ i * (a ||| c) + (b ||| d) := by
  refine Nat.eq_of_testBit_eq fun j => ?_
  rw [Nat.testBit_or, Nat.testBit_two_pow_mul_add _ hb, Nat.testBit_two_pow_mul_add _ hd, Nat.testBit_two_pow_mul_add _ (Nat.or_lt_two_pow hb hd)]
  by_cases h : j < i
  · rw [if_pos h, if_pos h, if_pos h, Nat.testBit_or]
  · rw [if_neg h, if_neg h, if_neg h, Nat.testBit_or]
theorem lor3 {p q o p' q' o' : Nat} (h1 : p < 256) (h2 : q < 256) (h3 : p' < 256) (h4 : q' < 256) : (p + 256 * q + 65536 * o) ||| (p' + 256 * q' + 65536 * o') = (p ||| p') + 256 * (q ||| q') + 65536 * (o ||| o') := by
  have e1 : p + 256 * q + 65536 * o = 2 ^ 8 * (2 ^ 8 * o + q) + p := by omega
  have e2 : p' + 256 * q' + 65536 * o' = 2 ^ 8 * (2 ^ 8 * o' + q') + p' := by omega
  rw [e1, e2, lor2 (i := 8) h1 h3, lor2 (i := 8) h2 h4]
  omega
def updN (K : Nat → Nat) (s v : Nat) : Nat → Nat := fun t => if t = s then v else K t
def used (K : Nat → Nat) (n : Nat) : Nat := (List.range n).countP (fun s => K s != 0)
theorem used_succ (K : Nat → Nat) (n : Nat) : used K (n + 1) = used K n + if K n = 0 then 0 else 1 := by
  unfold used
  rw [List.range_succ, List.countP_append]
  congr 1
  by_cases h : K n = 0
  · rw [if_pos h]; simp [h]
  · rw [if_neg h]; simp [h]
theorem used_updN {K : Nat → Nat} {s v : Nat} (h0 : K s = 0) (hv : v ≠ 0) : ∀ n, used (updN K s v) n = used K n + if s < n then 1 else 0 := by
  intro n
  induction n with
  | zero => rfl
  | succ n ih =>
    rw [used_succ, used_succ, ih]
    unfold updN
    by_cases h : n = s
    · subst h
      rw [if_pos rfl, if_neg hv, if_pos h0, if_neg (Nat.lt_irrefl _), if_pos (Nat.lt_succ_self _)]
    · rw [if_neg h]
      by_cases h2 : s < n
      · rw [if_pos h2, if_pos (show s < n + 1 by omega)]; omega
      · rw [if_neg h2, if_neg (show ¬ s < n + 1 by omega)]; omega
theorem used_same {K K' : Nat → Nat} (h : ∀ t, K t = 0 ↔ K' t = 0) : ∀ n, used K n = used K' n := by
  intro n
  induction n with
  | zero => rfl
  | succ n ih =>
    rw [used_succ, used_succ, ih]
    by_cases q : K n = 0
    · rw [if_pos q, if_pos ((h n).mp q)]
    · rw [if_neg q, if_neg (fun z => q ((h n).mpr z))]
theorem used_free {K : Nat → Nat} : ∀ n, used K n < n → ∃ z, z < n ∧ K z = 0 := by
  intro n
  induction n with
  | zero => intro h; exact absurd h (Nat.not_lt_zero _)
  | succ n ih =>
    intro h
    rw [used_succ] at h
    by_cases q : K n = 0
    · exact ⟨n, Nat.lt_succ_self _, q⟩
    · rw [if_neg q] at h
      obtain ⟨z, h1, h2⟩ := ih (by omega)
      exact ⟨z, Nat.lt_succ_of_lt h1, h2⟩
/-- a new key at its free slot: every key keeps its slot -/
theorem slot_put {K : Nat → Nat} {w s : Nat} (hs : IsSlot K w s) (h0 : K s = 0) : IsSlot (updN K s w) w s ∧ ∀ v t, t ≠ s → K t = v → v ≠ 0 → IsSlot K v t → IsSlot (updN K s w) v t := by
  constructor
  · obtain ⟨d, h1, h2, h3, h4⟩ := hs
    refine ⟨d, h1, h2, Or.inr (if_pos rfl), fun e he => ?_⟩
    obtain ⟨q1, q2⟩ := h4 e he
    have hne : (hash w + e) % 16384 ≠ s := fun q => q1 (by rw [q]; exact h0)
    unfold updN
    rw [if_neg hne]
    exact ⟨q1, q2⟩
  · intro v t ht hK hv hs'
    obtain ⟨d, h1, h2, h3, h4⟩ := hs'
    refine ⟨d, h1, h2, Or.inr ((if_neg ht).trans hK), fun e he => ?_⟩
    obtain ⟨q1, q2⟩ := h4 e he
    have hne : (hash v + e) % 16384 ≠ s := fun q => q1 (by rw [q]; exact h0)
    unfold updN
    rw [if_neg hne]
    exact ⟨q1, q2⟩
