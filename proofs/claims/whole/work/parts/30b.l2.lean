/-! ===== words: letters 0 to 7 ===== -/
abbrev Wd : Type := List Nat
def cN (w : Wd) : Nat := w.foldl (fun a l => 8 * a + l) 1
def mN (w : Wd) : Nat := w.foldl (fun a l => 16 * a + (l + 1)) 0
def dN (w : Wd) : Nat := w.foldl (fun a l => 8 * a + l) 0
def isW (w : Wd) : Prop := ∀ l ∈ w, l < 8
theorem isW_app {u v : Wd} : isW (u ++ v) ↔ isW u ∧ isW v := by
  unfold isW
  simp only [List.mem_append]
  exact ⟨fun h => ⟨fun l q => h l (Or.inl q), fun l q => h l (Or.inr q)⟩, fun h l q => q.elim (h.1 l) (h.2 l)⟩
theorem isW_take {w : Wd} (h : isW w) (n : Nat) : isW (w.take n) := fun l q => h l (List.mem_of_mem_take q)
theorem isW_drop {w : Wd} (h : isW w) (n : Nat) : isW (w.drop n) := fun l q => h l (List.mem_of_mem_drop q)
theorem isW_nil : isW [] := fun l q => absurd q List.not_mem_nil
theorem cN_snoc (w : Wd) (l : Nat) : cN (w ++ [l]) = 8 * cN w + l := by unfold cN; rw [List.foldl_append]; rfl
theorem mN_snoc (w : Wd) (l : Nat) : mN (w ++ [l]) = 16 * mN w + (l + 1) := by unfold mN; rw [List.foldl_append]; rfl
theorem dN_snoc (w : Wd) (l : Nat) : dN (w ++ [l]) = 8 * dN w + l := by unfold dN; rw [List.foldl_append]; rfl
/-- from the back -/
theorem snoc_ind {P : Wd → Prop} (h0 : P []) (h1 : ∀ w l, P w → P (w ++ [l])) : ∀ w, P w := by
  intro w
  generalize hn : w.length = n
  induction n generalizing w with
  | zero => rw [List.length_eq_zero_iff.mp hn]; exact h0
  | succ n ih =>
    have hw : w ≠ [] := fun e => by rw [e] at hn; cases hn
    rw [← List.dropLast_concat_getLast hw]
    exact h1 _ _ (ih _ (by rw [List.length_dropLast, hn]; rfl))
theorem dN_lt {w : Wd} : isW w → dN w < 8 ^ w.length := by
  refine snoc_ind (P := fun w => isW w → dN w < 8 ^ w.length) (fun _ => by decide) (fun w l ih h => ?_) w
  have h1 := isW_app.mp h
  have h2 := ih h1.1
  have h3 : l < 8 := h1.2 l (by simp)
  rw [dN_snoc, List.length_append, List.length_singleton, Nat.pow_succ]
  omega
theorem mN_lt {w : Wd} : isW w → mN w < 16 ^ w.length := by
  refine snoc_ind (P := fun w => isW w → mN w < 16 ^ w.length) (fun _ => by decide) (fun w l ih h => ?_) w
  have h1 := isW_app.mp h
  have h2 := ih h1.1
  have h3 : l < 8 := h1.2 l (by simp)
  rw [mN_snoc, List.length_append, List.length_singleton, Nat.pow_succ]
  omega
theorem cN_app (u v : Wd) : cN (u ++ v) = cN u * 8 ^ v.length + dN v := by
  refine snoc_ind (P := fun v => cN (u ++ v) = cN u * 8 ^ v.length + dN v) (by simp [dN]) (fun w l ih => ?_) v
  rw [← List.append_assoc, cN_snoc, ih, dN_snoc, List.length_append, List.length_singleton, Nat.pow_succ, Nat.mul_add, ← Nat.add_assoc]
  congr 2
  rw [Nat.mul_comm 8, Nat.mul_assoc]
theorem mN_app (u v : Wd) : mN (u ++ v) = mN u * 16 ^ v.length + mN v := by
  refine snoc_ind (P := fun v => mN (u ++ v) = mN u * 16 ^ v.length + mN v) (by simp [mN]) (fun w l ih => ?_) v
  rw [← List.append_assoc, mN_snoc, ih, mN_snoc, List.length_append, List.length_singleton, Nat.pow_succ]
  have e : 16 * (mN u * 16 ^ w.length) = mN u * (16 ^ w.length * 16) := by rw [Nat.mul_comm 16, Nat.mul_assoc]
  omega
theorem cN_eq (w : Wd) : cN w = 8 ^ w.length + dN w := by
  have := cN_app [] w
  rw [List.nil_append] at this
  rw [this]; show 1 * _ + _ = _; omega
theorem cN_lo (w : Wd) : 8 ^ w.length ≤ cN w := by rw [cN_eq]; omega
theorem cN_hi {w : Wd} (h : isW w) : cN w < 2 * 8 ^ w.length := by rw [cN_eq]; have := dN_lt h; omega
theorem cN_range {w : Wd} (h : isW w) (hl : w.length ≤ 10) : 1 ≤ cN w ∧ cN w < 2147483648 := by
  have h1 := cN_lo w
  have h2 := cN_hi h
  have h3 : 8 ^ w.length ≤ 8 ^ 10 := Nat.pow_le_pow_right (by decide) hl
  have h4 : 0 < 8 ^ w.length := Nat.pow_pos (by decide)
  omega
theorem mN_range {w : Wd} (h : isW w) (hl : w.length ≤ 12) : mN w < 281474976710656 := by
  have h2 := mN_lt h
  have h3 : 16 ^ w.length ≤ 16 ^ 12 := Nat.pow_le_pow_right (by decide) hl
  omega
theorem mN_pos {w : Wd} (h : w ≠ []) : 1 ≤ mN w := by
  rw [← List.dropLast_concat_getLast h, mN_snoc]; omega
/-- the order of words is that of their numbers, in both -/
theorem cm_lt : ∀ (n : Nat) (u v : Wd), u.length + v.length ≤ n → isW u → isW v → ((cN u < cN v ↔ mN u < mN v) ∧ (cN u = cN v ↔ u = v) ∧ (mN u = mN v ↔ u = v)) := by
  intro n
  induction n with
  | zero =>
    intro u v h hu hv
    have h1 : u = [] := List.length_eq_zero_iff.mp (by omega)
    have h2 : v = [] := List.length_eq_zero_iff.mp (by omega)
    subst h1 h2
    simp
  | succ n ih =>
    intro u v h hu hv
    by_cases eu : u = []
    · subst eu
      by_cases ev : v = []
      · subst ev; simp
      · have e1 : cN [] = 1 := rfl
        have e2 : mN [] = 0 := rfl
        have e3 := mN_pos ev
        rw [← List.dropLast_concat_getLast ev] at hv ⊢
        have e4 := cN_lo v.dropLast
        have e5 : 0 < 8 ^ v.dropLast.length := Nat.pow_pos (by decide)
        rw [e1, e2, cN_snoc, mN_snoc]
        refine ⟨⟨fun _ => by omega, fun _ => by omega⟩, ⟨fun q => by omega, fun q => ?_⟩, ⟨fun q => by omega, fun q => ?_⟩⟩
        · exact absurd q.symm (by simp)
        · exact absurd q.symm (by simp)
    · by_cases ev : v = []
      · subst ev
        have e1 : cN [] = 1 := rfl
        have e2 : mN [] = 0 := rfl
        have e3 := mN_pos eu
        rw [← List.dropLast_concat_getLast eu] at hu ⊢
        have e4 := cN_lo u.dropLast
        have e5 : 0 < 8 ^ u.dropLast.length := Nat.pow_pos (by decide)
        rw [e1, e2, cN_snoc, mN_snoc]
        refine ⟨⟨fun _ => by omega, fun _ => by omega⟩, ⟨fun q => by omega, fun q => ?_⟩, ⟨fun q => by omega, fun q => ?_⟩⟩
        · exact absurd q (by simp)
        · exact absurd q (by simp)
      · have lu : u.dropLast.length + v.dropLast.length ≤ n := by
          have := List.length_pos_iff.mpr eu
          have := List.length_pos_iff.mpr ev
          rw [List.length_dropLast, List.length_dropLast]; omega
        generalize hu0 : u.getLast eu = a at *
        generalize hv0 : v.getLast ev = b at *
        rw [← List.dropLast_concat_getLast eu, hu0] at hu ⊢
        rw [← List.dropLast_concat_getLast ev, hv0] at hv ⊢
        obtain ⟨h1, h2⟩ := isW_app.mp hu
        obtain ⟨h3, h4⟩ := isW_app.mp hv
        have ha : a < 8 := h2 a (by simp)
        have hb : b < 8 := h4 b (by simp)
        obtain ⟨i1, i2, i3⟩ := ih _ _ lu h1 h3
        rw [cN_snoc, cN_snoc, mN_snoc, mN_snoc]
        have i4 : cN u.dropLast = cN v.dropLast ↔ mN u.dropLast = mN v.dropLast := i2.trans i3.symm
        refine ⟨?_, ⟨fun q => ?_, fun q => ?_⟩, ⟨fun q => ?_, fun q => ?_⟩⟩
        · constructor
          · intro q
            rcases Nat.lt_trichotomy (cN u.dropLast) (cN v.dropLast) with w | w | w
            · have := i1.mp w; omega
            · have := i4.mp w; omega
            · omega
          · intro q
            rcases Nat.lt_trichotomy (cN u.dropLast) (cN v.dropLast) with w | w | w
            · omega
            · have := i4.mp w; omega
            · have : ¬ mN u.dropLast < mN v.dropLast := fun z => absurd (i1.mpr z) (by omega)
              have : mN u.dropLast ≠ mN v.dropLast := fun z => absurd (i4.mpr z) (by omega)
              omega
        · have e : cN u.dropLast = cN v.dropLast := by omega
          rw [i2.mp e, show a = b by omega]
        · have := List.append_inj' q rfl
          rw [this.1, List.singleton_inj.mp this.2]
        · have e : mN u.dropLast = mN v.dropLast := by omega
          rw [i3.mp e, show a = b by omega]
        · have := List.append_inj' q rfl
          rw [this.1, List.singleton_inj.mp this.2]
theorem cm_order {u v : Wd} (hu : isW u) (hv : isW v) : cN u < cN v ↔ mN u < mN v := (cm_lt _ u v (Nat.le_refl _) hu hv).1
theorem cN_inj {u v : Wd} (hu : isW u) (hv : isW v) : cN u = cN v ↔ u = v := (cm_lt _ u v (Nat.le_refl _) hu hv).2.1
theorem mN_inj {u v : Wd} (hu : isW u) (hv : isW v) : mN u = mN v ↔ u = v := (cm_lt _ u v (Nat.le_refl _) hu hv).2.2
