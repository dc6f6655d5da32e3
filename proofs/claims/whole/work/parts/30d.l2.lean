/-! ===== the reference's words ===== -/
theorem lgc_le0 (x : Int64) : (lg_cmp x 0 ≤ 0) ↔ x ≤ 0 := by
  unfold lg_cmp
  by_cases h1 : x > 0
  · rw [if_pos h1]
    exact ⟨fun h => absurd h (by decide), fun h => absurd h (Int64.not_le.mpr h1)⟩
  · rw [if_neg h1]
    have h2 : x ≤ 0 := Int64.not_lt.mp h1
    by_cases h3 : x = 0
    · rw [if_pos h3]; exact ⟨fun _ => h2, fun _ => by decide⟩
    · rw [if_neg h3]; exact ⟨fun _ => h2, fun _ => by decide⟩
theorem lgc_eq0 (x y : Int64) : (lg_cmp x y = 0) ↔ x = y := by
  unfold lg_cmp
  by_cases h1 : x > y
  · rw [if_pos h1]
    exact ⟨fun h => absurd h (by decide), fun h => absurd h1 (by rw [h]; exact Int64.lt_irrefl)⟩
  · rw [if_neg h1]
    by_cases h3 : x = y
    · rw [if_pos h3]; exact ⟨fun _ => h3, fun _ => rfl⟩
    · rw [if_neg h3]; exact ⟨fun h => absurd h (by decide), fun h => absurd h h3⟩
theorem J_sn (a b : Nat) (h : b ≤ a) : J (a : Int) - J (b : Int) = J ((a - b : Nat) : Int) := by
  rw [J_sub, Int.ofNat_sub h]
theorem IJn {n : Nat} (h : n < 2147483648) : (I (n : Int)).toInt64 = J (n : Int) := IJ (by omega)
theorem lengthOf_l : ∀ (n : Nat) (u : Wd) (s : Nat) (h : ZH), isW u → s + u.length ≤ 12 → u.length < n → p_X12_lengthOf_l4 n (I s) (J (mN u)) h = some (I ((s + u.length : Nat) : Int), h) := by
  intro n
  induction n with
  | zero => intro u s h _ _ q; exact absurd q (Nat.not_lt_zero _)
  | succ n ih =>
    intro u s h hu hl hn
    have hr := mN_range hu (by omega)
    show p_X12_lengthOf_c4 (p_X12_lengthOf_l4 n) (I s) (J (mN u)) h = _
    have e1 : (lg_cmp (J (mN u)) 0 ≤ 0) ↔ mN u = 0 := by
      rw [lgc_le0, litJ, J_le (by omega) (by omega)]; omega
    have e3 : I (s : Int) + 1 = I ((s + 1 : Nat) : Int) := I_add s 1
    have e4 : J (mN u : Int) >>> (Int32.toInt64 4 &&& 63) = J ((mN u / 16 : Nat) : Int) := J_shr (a := mN u) (k := 4) (by omega) (by decide)
    simp only [p_X12_lengthOf_c4, ite_ap, z_n, z_rt, e1, e3, e4]
    rcases List.eq_nil_or_concat u with e | ⟨v, l, e⟩
    · subst e
      rw [if_pos (by decide)]
      rfl
    · rw [List.concat_eq_append] at e
      subst e
      obtain ⟨h1, h2⟩ := isW_app.mp hu
      have h3 : l < 8 := h2 l (by simp)
      rw [List.length_append, List.length_singleton] at hl hn ⊢
      rw [mN_snoc, if_neg (by omega), show (16 * mN v + (l + 1)) / 16 = mN v by omega, ih v (s + 1) h h1 (by omega) (by omega)]
      rw [show s + 1 + v.length = s + (v.length + 1) by omega]
theorem lengthOf_eq (h : ZH) {u : Wd} (hu : isW u) (hl : u.length ≤ 12) : p_X12_lengthOf (J (mN u)) h = some (I (u.length : Int), h) := by
  have := lengthOf_l zFuel u 0 h hu (by omega) (by unfold zFuel; omega)
  rw [Nat.zero_add] at this
  exact this
theorem mN_take {u : Wd} (hu : isW u) (k : Nat) : mN u / 2 ^ (4 * (u.length - k)) = mN (u.take k) := by
  have h1 := mN_app (u.take k) (u.drop k)
  rw [List.take_append_drop, List.length_drop] at h1
  have h2 := mN_lt (isW_drop hu k)
  rw [List.length_drop] at h2
  rw [h1, Nat.pow_mul, show (2 : Nat) ^ 4 = 16 from rfl, Nat.mul_comm, Nat.mul_add_div (Nat.pow_pos (by decide)), Nat.div_eq_of_lt h2]
  omega
theorem mN_last {u : Wd} (hu : isW u) (h : u ≠ []) : mN u % 16 = u.getD (u.length - 1) 0 + 1 := by
  rw [List.getD_eq_getElem?_getD, ← List.getLast?_eq_getElem?, List.getLast?_eq_some_getLast h]
  have h1 := hu _ (List.getLast_mem h)
  generalize hg : u.getLast h = a at *
  rw [← List.dropLast_concat_getLast h, hg, mN_snoc]
  show _ = a + 1
  omega
theorem lastOf_eq (h : ZH) {u : Wd} (hu : isW u) (hn : u ≠ []) : p_X12_lastOf (J (mN u)) h = some (I ((u.getD (u.length - 1) 0 + 1 : Nat) : Int), h) := by
  simp only [p_X12_lastOf, z_rt]
  rw [show (15 : Int64) = J ((15 : Nat) : Int) from rfl, J_and, show (15 : Nat) = 2 ^ 4 - 1 from rfl, Nat.and_two_pow_sub_one_eq_mod, JI, show (2 : Nat) ^ 4 = 16 from rfl, mN_last hu hn]
theorem mN_first {u : Wd} (hu : isW u) (hn : u ≠ []) : mN u / 2 ^ (4 * (u.length - 1)) = u.getD 0 0 + 1 := by
  rw [mN_take hu 1]
  match u, hn with
  | a :: t, _ => show mN [a] = a + 1; unfold mN; simp
theorem J_msk' (k : Nat) (hk : k < 64) : Int32.toInt64 (I (k : Int)) &&& 63 = J (k : Int) := by
  rw [IJn (by omega), J_msk k hk]
theorem firstOf_eq (h : ZH) {u : Wd} (hu : isW u) (hn : u ≠ []) (hl : u.length ≤ 12) : p_X12_firstOf (J (mN u)) h = some (I ((u.getD 0 0 + 1 : Nat) : Int), h) := by
  have hr := mN_range hu hl
  have hp := List.length_pos_iff.mpr hn
  have e1 : 4 * (I (u.length : Int) - 1) = I ((4 * (u.length - 1) : Nat) : Int) := by
    rw [show (1 : Int32) = I ((1 : Nat) : Int) from rfl, I_sn _ _ (by omega), show (4 : Int32) = I ((4 : Nat) : Int) from rfl, I_mn]
  simp only [p_X12_firstOf, z_b, lengthOf_eq h hu hl, z_rt, e1, J_msk' _ (show 4 * (u.length - 1) < 64 by omega), J_shr (show mN u < 9223372036854775808 by omega) (show 4 * (u.length - 1) < 64 by omega), JI, mN_first hu hn]
theorem both_eq (h : ZH) {u v : Wd} (hv : isW v) (hl : v.length ≤ 12) : p_X12_both (J (mN u)) (J (mN v)) h = some (J (mN (u ++ v)), h) := by
  have e1 : 4 * I (v.length : Int) = I ((4 * v.length : Nat) : Int) := by
    rw [show (4 : Int32) = I ((4 : Nat) : Int) from rfl, I_mn]
  simp only [p_X12_both, z_b, lengthOf_eq h hv hl, z_rt, e1, J_msk' _ (show 4 * v.length < 64 by omega), J_shl (show 4 * v.length < 64 by omega), J_or]
  have h2 := mN_lt hv
  have e6 : (16 : Nat) ^ v.length = 2 ^ (4 * v.length) := by rw [Nat.pow_mul]
  rw [e6] at h2
  rw [or_add h2, mN_app, e6]
theorem part_eq (h : ZH) {u : Wd} (hu : isW u) (hl : u.length ≤ 12) {i j : Nat} (hij : i ≤ j) (hj : j ≤ u.length) : p_X12_part (J (mN u)) (I i) (I j) h = some (J (mN ((u.take j).drop i)), h) := by
  have hr := mN_range hu hl
  have e1 : 4 * (I (j : Int) - I (i : Int)) = I ((4 * (j - i) : Nat) : Int) := by
    rw [I_sn _ _ hij, show (4 : Int32) = I ((4 : Nat) : Int) from rfl, I_mn]
  have e2 : 4 * (I (u.length : Int) - I (j : Int)) = I ((4 * (u.length - j) : Nat) : Int) := by
    rw [I_sn _ _ hj, show (4 : Int32) = I ((4 : Nat) : Int) from rfl, I_mn]
  have e3 : (1 : Int64) <<< J ((4 * (j - i) : Nat) : Int) = J ((1 * 2 ^ (4 * (j - i)) : Nat) : Int) := J_shl (a := 1) (show 4 * (j - i) < 64 by omega)
  have e4 : 1 ≤ 2 ^ (4 * (j - i)) := Nat.pow_pos (by decide)
  have e5 : J ((1 * 2 ^ (4 * (j - i)) : Nat) : Int) - 1 = J ((2 ^ (4 * (j - i)) - 1 : Nat) : Int) := by
    rw [show (1 : Int64) = J ((1 : Nat) : Int) from rfl, J_sn _ _ (by omega), Nat.one_mul]
  simp only [p_X12_part, z_b, z_n, lengthOf_eq h hu hl, z_rt, e1, e2, J_msk' _ (show 4 * (j - i) < 64 by omega), J_msk' _ (show 4 * (u.length - j) < 64 by omega), e3, e5, J_shr (show mN u < 9223372036854775808 by omega) (show 4 * (u.length - j) < 64 by omega), J_and]
  rw [mN_take hu j, Nat.and_two_pow_sub_one_eq_mod]
  have h1 := mN_app ((u.take j).take i) ((u.take j).drop i)
  rw [List.take_append_drop, List.length_drop, List.length_take, Nat.min_eq_left hj] at h1
  have h2 := mN_lt (isW_drop (isW_take hu j) i)
  rw [List.length_drop, List.length_take, Nat.min_eq_left hj] at h2
  have e6 : (16 : Nat) ^ (j - i) = 2 ^ (4 * (j - i)) := by rw [Nat.pow_mul]
  rw [e6] at h1 h2
  rw [h1, Nat.mul_comm, Nat.mul_add_mod, Nat.mod_eq_of_lt h2]
theorem min_eq (h : ZH) (a b c : Int32) : p_X12_in a b c h = some (if b ≤ a ∧ a ≤ c then 1 else 0, h) := isIn_eq h a b c
/-- the class's number and the reference's of one letter -/
theorem meets_eq (h : ZH) {u v : Wd} (hu : isW u) (hv : isW v) (nu : u ≠ []) (nv : v ≠ []) (hl : v.length ≤ 12) : p_X12_meets (J (mN u)) (J (mN v)) h = some (if u.getD (u.length - 1) 0 = v.getD 0 0 then 1 else 0, h) := by
  have h1 : ∀ {w : Wd} (i : Nat), isW w → w.getD i 0 < 8 := fun {w} i hw => by
    rw [List.getD_eq_getElem?_getD]
    cases e : w[i]? with
    | none => decide
    | some x => exact hw _ (List.mem_of_getElem? e)
  have q1 := h1 (u.length - 1) hu
  have q2 := h1 0 hv
  have e : (I ((u.getD (u.length - 1) 0 + 1 : Nat) : Int) = I ((v.getD 0 0 + 1 : Nat) : Int)) ↔ u.getD (u.length - 1) 0 = v.getD 0 0 := by
    rw [I_inj (by omega) (by omega)]; omega
  simp only [p_X12_meets, z_b, lastOf_eq h hu nu, firstOf_eq h hv nv hl, ite_ap, z_rz, e, or_true, true_or, if_true]
  by_cases hc : u.getD (u.length - 1) 0 = v.getD 0 0
  · rw [if_pos hc, if_neg (fun q => q hc)]
  · rw [if_neg hc, if_pos hc]
