/-! ===== the class's words ===== -/
theorem bI_rz (h : ZH) (c : Prop) [Decidable c] : z_rz (if c then 1 else 0) h = some (if c then 1 else 0, h) := by
  by_cases hc : c <;> simp only [hc, if_true, if_false, z_rz, or_true, true_or]
theorem isIn_eq (h : ZH) (a b c : Int32) : p_X11_isIn a b c h = some (if b ≤ a ∧ a ≤ c then 1 else 0, h) := by
  simp only [p_X11_isIn, ite_ap, z_rz, or_true, true_or, if_true]
  by_cases h1 : a < b
  · have : ¬ b ≤ a := Int32.not_le.mpr h1
    simp only [h1, this, if_true, if_false, false_and]
  · have h1' : b ≤ a := Int32.not_lt.mp h1
    by_cases h2 : c < a
    · have : ¬ a ≤ c := Int32.not_le.mpr h2
      simp only [h1, h2, this, if_true, if_false, and_false]
    · have h2' : a ≤ c := Int32.not_lt.mp h2
      simp only [h1, h2, h1', h2', if_true, if_false, and_self]
theorem I_0n : (0 : Int32) = I ((0 : Nat) : Int) := rfl
theorem sizeOf_l : ∀ (n : Nat) (u : Wd) (s : Nat) (h : ZH), isW u → s + u.length ≤ 10 → u.length < n → p_X11_sizeOf_l4 n (I s) (I (cN u)) h = some (I ((s + u.length : Nat) : Int), h) := by
  intro n
  induction n with
  | zero => intro u s h _ _ q; exact absurd q (Nat.not_lt_zero _)
  | succ n ih =>
    intro u s h hu hl hn
    have hr := cN_range hu (by omega)
    show p_X11_sizeOf_c4 (p_X11_sizeOf_l4 n) (I s) (I (cN u)) h = _
    have e1 : (I (cN u) < 8) ↔ cN u < 8 := by rw [lit, I_lt (by omega) (by omega)]; omega
    have e2 : (10 ≤ I (s : Int)) ↔ 10 ≤ s := by rw [lit, I_le (by omega) (by omega)]; omega
    have e3 : I (s : Int) + 1 = I ((s + 1 : Nat) : Int) := I_add s 1
    have e4 : I (cN u : Int) >>> (3 &&& 31) = I ((cN u / 8 : Nat) : Int) := I_shr (a := cN u) (k := 3) hr.2 (by decide)
    simp only [p_X11_sizeOf_c4, ite_ap, z_n, z_rt, e1, e2, e3, e4]
    rcases List.eq_nil_or_concat u with e | ⟨v, l, e⟩
    · subst e
      rw [if_pos (by decide)]
      rfl
    · rw [List.concat_eq_append] at e
      subst e
      obtain ⟨h1, h2⟩ := isW_app.mp hu
      have h3 : l < 8 := h2 l (by simp)
      rw [List.length_append, List.length_singleton] at hl hn ⊢
      have h4 := cN_lo v
      have h5 : 0 < 8 ^ v.length := Nat.pow_pos (by decide)
      rw [cN_snoc, if_neg (by omega), if_neg (by omega), show (8 * cN v + l) / 8 = cN v by omega, ih v (s + 1) h h1 (by omega) (by omega)]
      rw [show s + 1 + v.length = s + (v.length + 1) by omega]
theorem sizeOf_eq (h : ZH) {u : Wd} (hu : isW u) (hl : u.length ≤ 10) : p_X11_sizeOf (I (cN u)) h = some (I (u.length : Int), h) := by
  have := sizeOf_l zFuel u 0 h hu (by omega) (by unfold zFuel; omega)
  rw [Nat.zero_add] at this
  exact this
theorem sizeOf_0 (h : ZH) : p_X11_sizeOf 0 h = some (0, h) := rfl
theorem withLetter_eq (h : ZH) {u : Wd} {l : Nat} (hl : l < 8) : p_X11_withLetter (I (cN u)) (I l) h = some (I (cN (u ++ [l])), h) := by
  have e : I (cN u : Int) <<< (3 &&& 31) = I ((cN u * 2 ^ 3 : Nat) : Int) := I_shl (a := cN u) (k := 3) (by decide)
  simp only [p_X11_withLetter, z_rt, e, I_or, cN_snoc]
  congr 4
  rw [← Nat.shiftLeft_eq, ← Nat.shiftLeft_add_eq_or_of_lt (show l < 2 ^ 3 from hl), Nat.shiftLeft_eq]
  omega
theorem I_sn (a b : Nat) (h : b ≤ a) : I (a : Int) - I (b : Int) = I ((a - b : Nat) : Int) := by
  rw [I_sub, Int.ofNat_sub h]
theorem I_mn (a b : Nat) : I (a : Int) * I (b : Int) = I ((a * b : Nat) : Int) := by
  rw [I_mul, Int.natCast_mul]
theorem I_an (a b : Nat) : I (a : Int) + I (b : Int) = I ((a + b : Nat) : Int) := by
  rw [I_add, Int.natCast_add]
theorem cN_take {u : Wd} (hu : isW u) (k : Nat) (hk : k ≤ u.length) : cN u / 2 ^ (3 * (u.length - k)) = cN (u.take k) := by
  have h1 := cN_app (u.take k) (u.drop k)
  rw [List.take_append_drop, List.length_drop] at h1
  have h2 := dN_lt (isW_drop hu k)
  rw [List.length_drop] at h2
  rw [h1, Nat.pow_mul, show (2 : Nat) ^ 3 = 8 from rfl, Nat.mul_comm, Nat.mul_add_div (Nat.pow_pos (by decide)), Nat.div_eq_of_lt h2]
  omega
theorem letterOf_eq (h : ZH) {u : Wd} (hu : isW u) (hl : u.length ≤ 10) {i : Nat} (hi : i < u.length) : p_X11_letterOf (I (cN u)) (I i) h = some (I ((u.getD i 0 : Nat) : Int), h) := by
  have hr := cN_range hu hl
  have e1 : 3 * (I (u.length : Int) - 1 - I (i : Int)) = I ((3 * (u.length - 1 - i) : Nat) : Int) := by
    rw [show (1 : Int32) = I ((1 : Nat) : Int) from rfl, I_sn _ _ (by omega), I_sn _ _ (by omega), show (3 : Int32) = I ((3 : Nat) : Int) from rfl, I_mn]
  simp only [p_X11_letterOf, z_b, sizeOf_eq h hu hl, z_rt, e1, I_msk _ (show 3 * (u.length - 1 - i) < 32 by omega), I_shr hr.2 (show 3 * (u.length - 1 - i) < 32 by omega)]
  rw [show u.length - 1 - i = u.length - (i + 1) by omega, cN_take hu (i + 1) hi, show (7 : Int32) = I ((7 : Nat) : Int) from rfl, I_and]
  congr 4
  rw [List.take_succ_eq_append_getElem hi, cN_snoc, show (7 : Nat) = 2 ^ 3 - 1 from rfl, Nat.and_two_pow_sub_one_eq_mod]
  have : u[i] < 8 := hu _ (List.getElem_mem hi)
  rw [List.getD_eq_getElem?_getD, List.getElem?_eq_getElem hi]
  show _ = u[i]
  omega
theorem or_add {a b k : Nat} (h : b < 2 ^ k) : a * 2 ^ k ||| b = a * 2 ^ k + b := by
  rw [← Nat.shiftLeft_eq, Nat.shiftLeft_add_eq_or_of_lt h]
theorem partOf_eq (h : ZH) {u : Wd} (hu : isW u) (hl : u.length ≤ 10) {i j : Nat} (hij : i ≤ j) (hj : j ≤ u.length) : p_X11_partOf (I (cN u)) (I i) (I j) h = some (I (cN ((u.take j).drop i)), h) := by
  have hr := cN_range hu hl
  have e1 : 3 * (I (j : Int) - I (i : Int)) = I ((3 * (j - i) : Nat) : Int) := by
    rw [I_sn _ _ hij, show (3 : Int32) = I ((3 : Nat) : Int) from rfl, I_mn]
  have e2 : 3 * (I (u.length : Int) - I (j : Int)) = I ((3 * (u.length - j) : Nat) : Int) := by
    rw [I_sn _ _ hj, show (3 : Int32) = I ((3 : Nat) : Int) from rfl, I_mn]
  have e3 : (1 : Int32) <<< I ((3 * (j - i) : Nat) : Int) = I ((1 * 2 ^ (3 * (j - i)) : Nat) : Int) := I_shl (a := 1) (show 3 * (j - i) < 32 by omega)
  have e4 : 1 ≤ 2 ^ (3 * (j - i)) := Nat.pow_pos (by decide)
  have e5 : I ((1 * 2 ^ (3 * (j - i)) : Nat) : Int) - 1 = I ((2 ^ (3 * (j - i)) - 1 : Nat) : Int) := by
    rw [show (1 : Int32) = I ((1 : Nat) : Int) from rfl, I_sn _ _ (by omega), Nat.one_mul]
  simp only [p_X11_partOf, z_b, z_n, sizeOf_eq h hu hl, z_rt, e1, e2, I_msk _ (show 3 * (j - i) < 32 by omega), I_msk _ (show 3 * (u.length - j) < 32 by omega), e3, e5, I_shr hr.2 (show 3 * (u.length - j) < 32 by omega), I_and, I_or]
  rw [cN_take hu j hj, Nat.and_two_pow_sub_one_eq_mod]
  have h1 := cN_app ((u.take j).take i) ((u.take j).drop i)
  rw [List.take_append_drop, List.length_drop, List.length_take, Nat.min_eq_left hj] at h1
  have h2 := dN_lt (isW_drop (isW_take hu j) i)
  rw [List.length_drop, List.length_take, Nat.min_eq_left hj] at h2
  have e6 : (8 : Nat) ^ (j - i) = 2 ^ (3 * (j - i)) := by rw [Nat.pow_mul]
  rw [e6] at h1 h2
  have e7 : cN (u.take j) % 2 ^ (3 * (j - i)) = dN ((u.take j).drop i) := by
    rw [h1, Nat.mul_comm, Nat.mul_add_mod, Nat.mod_eq_of_lt h2]
  rw [e7, or_add h2, cN_eq, List.length_drop, List.length_take, Nat.min_eq_left hj, e6, Nat.one_mul]
theorem joined_eq (h : ZH) {u v : Wd} (hu : isW u) (hv : isW v) (hl : u.length + v.length ≤ 10) : p_X11_joined (I (cN u)) (I (cN v)) h = some (I (cN (u ++ v)), h) := by
  have e1 : 3 * I (v.length : Int) = I ((3 * v.length : Nat) : Int) := by
    rw [show (3 : Int32) = I ((3 : Nat) : Int) from rfl, I_mn]
  have e3 : (1 : Int32) <<< I ((3 * v.length : Nat) : Int) = I ((1 * 2 ^ (3 * v.length) : Nat) : Int) := I_shl (a := 1) (show 3 * v.length < 32 by omega)
  have e4 : 1 ≤ 2 ^ (3 * v.length) := Nat.pow_pos (by decide)
  have e5 : I ((1 * 2 ^ (3 * v.length) : Nat) : Int) - 1 = I ((2 ^ (3 * v.length) - 1 : Nat) : Int) := by
    rw [show (1 : Int32) = I ((1 : Nat) : Int) from rfl, I_sn _ _ (by omega), Nat.one_mul]
  simp only [p_X11_joined, z_b, z_n, sizeOf_eq h hv (by omega), z_rt, e1, I_msk _ (show 3 * v.length < 32 by omega), e3, e5, I_and, I_mn, I_or]
  have h2 := dN_lt hv
  have e6 : (8 : Nat) ^ v.length = 2 ^ (3 * v.length) := by rw [Nat.pow_mul]
  rw [e6] at h2
  rw [Nat.and_two_pow_sub_one_eq_mod, cN_eq v, e6, Nat.add_mod_left, Nat.mod_eq_of_lt h2, Nat.one_mul, or_add h2, cN_app, e6]
