/-! ===== what it costs to change a word into another one ===== -/
section
variable (u v : Nat → Nat) (al : Nat → Nat → Bool)
def subC (a b : Nat) : Nat := if a = b then 0 else if a = b + 1 ∨ b = a + 1 then 1 else if al a b = true then 1 else 2
def swC (i j : Nat) : Bool := if 1 ≤ i ∧ 1 ≤ j ∧ u i = v (j - 1) ∧ u (i - 1) = v j then true else false
def CF : Nat → Nat → Nat
  | 0, j => 2 * j
  | i + 1, 0 => 2 * (i + 1)
  | i + 1, j + 1 => if swC u v i j = true then min (min (CF i j + subC al (u i) (v j)) (2 + min (CF i (j + 1)) (CF (i + 1) j))) (CF (i - 1) (j - 1) + 1) else min (CF i j + subC al (u i) (v j)) (2 + min (CF i (j + 1)) (CF (i + 1) j))
termination_by i j => i + j
end
section
variable {u v : Nat → Nat} {al : Nat → Nat → Bool}
theorem CF_0 (j : Nat) : CF u v al 0 j = 2 * j := by rw [CF]
theorem CF_s0 (i : Nat) : CF u v al i 0 = 2 * i := by
  cases i with
  | zero => rw [CF]
  | succ i => rw [CF]
theorem CF_ss (i j : Nat) : CF u v al (i + 1) (j + 1) = if swC u v i j = true then min (min (CF u v al i j + subC al (u i) (v j)) (2 + min (CF u v al i (j + 1)) (CF u v al (i + 1) j))) (CF u v al (i - 1) (j - 1) + 1) else min (CF u v al i j + subC al (u i) (v j)) (2 + min (CF u v al i (j + 1)) (CF u v al (i + 1) j)) := by rw [CF]
theorem subC_le (a b : Nat) : subC al a b ≤ 2 := by
  unfold subC
  split
  · decide
  · split
    · decide
    · split <;> decide
theorem swC_pos {i j : Nat} (h : swC u v i j = true) : 1 ≤ i ∧ 1 ≤ j ∧ u i = v (j - 1) ∧ u (i - 1) = v j := by
  unfold swC at h
  split at h
  · assumption
  · cases h
/-- lengths apart cost -/
theorem CF_lo : ∀ n i j, i + j ≤ n → 2 * i ≤ CF u v al i j + 2 * j ∧ 2 * j ≤ CF u v al i j + 2 * i ∧ CF u v al i j ≤ 2 * (i + j) := by
  intro n
  induction n with
  | zero =>
    intro i j h
    have : i = 0 := by omega
    have : j = 0 := by omega
    subst i
    subst j
    rw [CF_0]
    exact ⟨by omega, by omega, by omega⟩
  | succ n ih =>
    intro i j h
    cases i with
    | zero => rw [CF_0]; exact ⟨by omega, by omega, by omega⟩
    | succ i =>
      cases j with
      | zero => rw [CF_s0]; exact ⟨by omega, by omega, by omega⟩
      | succ j =>
        have a := ih i j (by omega)
        have b := ih i (j + 1) (by omega)
        have c := ih (i + 1) j (by omega)
        have d := ih (i - 1) (j - 1) (by omega)
        have s := subC_le (al := al) (u i) (v j)
        rw [CF_ss]
        cases q : swC u v i j with
        | true =>
          have := swC_pos q
          rw [if_pos rfl]
          omega
        | false =>
          rw [if_neg (by decide)]
          omega
theorem CF_far {i j : Nat} (h : i + 2 < j ∨ j + 2 < i) : 4 < CF u v al i j := by
  have := CF_lo (u := u) (v := v) (al := al) (i + j) i j (Nat.le_refl _)
  omega
theorem subC_0 {a b : Nat} : subC al a b = 0 ↔ a = b := by
  unfold subC
  split
  · rename_i h; exact Iff.intro (fun _ => h) (fun _ => rfl)
  · rename_i h
    refine Iff.intro (fun q => ?_) (fun q => absurd q h)
    split at q
    · cases q
    · split at q <;> cases q
theorem CF_zero : ∀ n i j, i + j ≤ n → (CF u v al i j = 0 ↔ i = j ∧ ∀ k, k < i → u k = v k) := by
  intro n
  induction n with
  | zero =>
    intro i j h
    have : i = 0 := by omega
    have : j = 0 := by omega
    subst i
    subst j
    rw [CF_0]
    exact Iff.intro (fun _ => ⟨rfl, fun k hk => absurd hk (Nat.not_lt_zero _)⟩) (fun _ => rfl)
  | succ n ih =>
    intro i j h
    cases i with
    | zero =>
      rw [CF_0]
      exact Iff.intro (fun q => ⟨by omega, fun k hk => absurd hk (Nat.not_lt_zero _)⟩) (fun q => by omega)
    | succ i =>
      cases j with
      | zero => rw [CF_s0]; exact Iff.intro (fun q => by omega) (fun q => by omega)
      | succ j =>
        have a := ih i j (by omega)
        have key : CF u v al (i + 1) (j + 1) = 0 ↔ CF u v al i j + subC al (u i) (v j) = 0 := by
          rw [CF_ss]
          cases q : swC u v i j with
          | true => rw [if_pos rfl]; omega
          | false => rw [if_neg (by decide)]; omega
        rw [key, Nat.add_eq_zero_iff, a, subC_0]
        constructor
        · rintro ⟨⟨h1, h2⟩, h3⟩
          subst h1
          refine ⟨rfl, fun k hk => ?_⟩
          by_cases q : k = i
          · rw [q]; exact h3
          · exact h2 k (by omega)
        · rintro ⟨h1, h2⟩
          have h1' : i = j := by omega
          subst h1'
          exact ⟨⟨rfl, fun k hk => h2 k (by omega)⟩, h2 i (by omega)⟩
/-- a table's value: right as far as it counts -/
def CP (u v : Nat → Nat) (al : Nat → Nat → Bool) (i j t : Nat) : Prop := min t 5 = min (CF u v al i j) 5 ∧ t ≤ 100000 + 2 * (i + j)
theorem m5_min {a a' b b' : Nat} (h1 : min a 5 = min a' 5) (h2 : min b 5 = min b' 5) : min (min a b) 5 = min (min a' b') 5 := by omega
theorem m5_add {a a' : Nat} (h1 : min a 5 = min a' 5) (k : Nat) : min (a + k) 5 = min (a' + k) 5 := by omega
theorem CP_val {i j t : Nat} (h : CP u v al i j t) : (CF u v al i j ≤ 4 ↔ t ≤ 4) ∧ (t ≤ 4 → t = CF u v al i j) := by
  have := h.1
  omega
theorem CP_00 : CP u v al 0 0 0 := by
  unfold CP
  rw [CF_0]
  exact ⟨rfl, by omega⟩
theorem CP_far {i j : Nat} (h : i + 2 < j ∨ j + 2 < i) : CP u v al i j 100000 := by
  have := CF_far (u := u) (v := v) (al := al) h
  exact ⟨by omega, by omega⟩
theorem CP_0s {j t : Nat} (h : CP u v al 0 j t) : CP u v al 0 (j + 1) ((if t < 100000 then t else 100000) + 2) := by
  unfold CP at h ⊢
  rw [CF_0] at h
  rw [CF_0]
  split <;> omega
theorem CP_s0 {i t : Nat} (h : CP u v al i 0 t) : CP u v al (i + 1) 0 ((if 100000 < t then 100000 else t) + 2) := by
  unfold CP at h ⊢
  rw [CF_s0] at h
  rw [CF_s0]
  split <;> omega
theorem CP_ss {i j t1 t2 t3 t4 : Nat} (h1 : CP u v al i (j + 1) t1) (h2 : CP u v al (i + 1) j t2) (h3 : CP u v al i j t3) (h4 : swC u v i j = true → CP u v al (i - 1) (j - 1) t4) :
    CP u v al (i + 1) (j + 1) (if swC u v i j = true then (if t4 + 1 < (if t3 + subC al (u i) (v j) < (if t2 < t1 then t2 else t1) + 2 then t3 + subC al (u i) (v j) else (if t2 < t1 then t2 else t1) + 2) then t4 + 1 else (if t3 + subC al (u i) (v j) < (if t2 < t1 then t2 else t1) + 2 then t3 + subC al (u i) (v j) else (if t2 < t1 then t2 else t1) + 2)) else (if t3 + subC al (u i) (v j) < (if t2 < t1 then t2 else t1) + 2 then t3 + subC al (u i) (v j) else (if t2 < t1 then t2 else t1) + 2)) := by
  have s := subC_le (al := al) (u i) (v j)
  have a : (if t2 < t1 then t2 else t1) = min t1 t2 := by split <;> omega
  rw [a]
  have b : (if t3 + subC al (u i) (v j) < min t1 t2 + 2 then t3 + subC al (u i) (v j) else min t1 t2 + 2) = min (t3 + subC al (u i) (v j)) (min t1 t2 + 2) := by split <;> omega
  rw [b]
  have e : min (min (t3 + subC al (u i) (v j)) (min t1 t2 + 2)) 5 = min (min (CF u v al i j + subC al (u i) (v j)) (2 + min (CF u v al i (j + 1)) (CF u v al (i + 1) j))) 5 := by
    refine m5_min (m5_add h3.1 _) ?_
    rw [Nat.add_comm 2]
    exact m5_add (m5_min h1.1 h2.1) 2
  have bd : min (t3 + subC al (u i) (v j)) (min t1 t2 + 2) ≤ 100000 + 2 * (i + 1 + (j + 1)) := by
    have := h3.2
    omega
  unfold CP
  rw [CF_ss]
  cases q : swC u v i j with
  | true =>
    have h4' := h4 q
    rw [if_pos rfl, if_pos rfl]
    have c : (if t4 + 1 < min (t3 + subC al (u i) (v j)) (min t1 t2 + 2) then t4 + 1 else min (t3 + subC al (u i) (v j)) (min t1 t2 + 2)) = min (min (t3 + subC al (u i) (v j)) (min t1 t2 + 2)) (t4 + 1) := by split <;> omega
    rw [c]
    exact ⟨m5_min e (m5_add h4'.1 1), by omega⟩
  | false =>
    rw [if_neg (by decide), if_neg (by decide)]
    exact ⟨e, bd⟩
end
