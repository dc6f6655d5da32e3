/-! ===== the reference's cells ===== -/
abbrev FL : Type := Nat → Nat → Int64
def hM (h : ZH) (f : FI) (g : FL) : ZH := (zT h, zN h, zK h, f, g, zR h, zD h)
theorem hM_T (h : ZH) (f : FI) (g : FL) : zT (hM h f g) = zT h := rfl
theorem hM_N (h : ZH) (f : FI) (g : FL) : zN (hM h f g) = zN h := rfl
theorem hM_K (h : ZH) (f : FI) (g : FL) : zK (hM h f g) = zK h := rfl
theorem hM_I (h : ZH) (f : FI) (g : FL) : zI (hM h f g) = f := rfl
theorem hM_L (h : ZH) (f : FI) (g : FL) : zL (hM h f g) = g := rfl
theorem hM_R (h : ZH) (f : FI) (g : FL) : zR (hM h f g) = zR h := rfl
theorem hM_D (h : ZH) (f : FI) (g : FL) : zD (hM h f g) = zD h := rfl
theorem sI_hM (h : ZH) (f : FI) (g : FL) (a k : Nat) (v : Int32) : zsI (hM h f g) a k v = hM h (zu f a k v) g := rfl
theorem sL_hM (h : ZH) (f : FI) (g : FL) (a k : Nat) (v : Int64) : zsL (hM h f g) a k v = hM h f (zu g a k v) := rfl
/-- the reference's arrays: kind and length, by field -/
def mSz (j : Nat) : Nat × Nat := ((([(2, 2, 12), (3, 1, 12), (4, 1, 12), (5, 1, 12), (6, 1, 12), (8, 1, 8), (9, 1, 8), (10, 1, 8), (11, 2, 8), (12, 1, 8), (13, 1, 8), (14, 1, 8), (15, 1, 8), (16, 1, 81), (18, 2, 10), (19, 1, 10), (21, 2, 10), (23, 2, 1024), (24, 1, 1024), (25, 1, 16), (27, 1, 27), (28, 2, 27), (29, 1, 9), (30, 1, 9), (31, 2, 9), (33, 1, 100), (36, 2, 16384), (37, 1, 16384), (38, 1, 16384), (39, 1, 16384), (41, 1, 101), (42, 1, 101), (43, 1, 101), (44, 2, 101), (45, 1, 101), (46, 1, 101), (47, 1, 101), (48, 1, 101), (49, 1, 808), (50, 1, 169), (51, 1, 13), (53, 2, 8200), (54, 1, 8200), (55, 1, 100), (57, 1, 2121)] : List (Nat × Nat × Nat)).find? (fun q => q.1 == j)).map (fun q => q.2)).getD (0, 0)
def MAt (h : ZH) (M : Nat) (ar : Nat → Nat) : Prop := zK h M = (19, 0) ∧ (∀ j, (mSz j).1 ≠ 0 → zR h M j = some (ar j) ∧ zK h (ar j) = mSz j ∧ ar j ≠ M) ∧ (∀ i j, (mSz i).1 ≠ 0 → (mSz j).1 ≠ 0 → ar i = ar j → i = j)
section
variable {h : ZH} {M : Nat} {ar : Nat → Nat} {f : FI} {g : FL}
theorem m_gR (m : MAt h M ar) (j : Nat) (hj : (mSz j).1 ≠ 0) : z_gR 13 j (some M) (hM h f g) = some (some (ar j), hM h f g) := by
  simp only [z_gR, hM_K, hM_R, m.1, (m.2.1 j hj).1, if_true]
theorem m_gI (m : MAt h M ar) (j : Nat) : z_gI 13 j (some M) (hM h f g) = some (f M j, hM h f g) := by
  simp only [z_gI, hM_K, hM_I, m.1, if_true]
theorem m_gL (m : MAt h M ar) (j : Nat) : z_gL 13 j (some M) (hM h f g) = some (g M j, hM h f g) := by
  simp only [z_gL, hM_K, hM_L, m.1, if_true]
theorem m_pI (m : MAt h M ar) (j : Nat) (v : Int32) : z_pI 13 j (some M) v (hM h f g) = some ((), hM h (zu f M j v) g) := by
  simp only [z_pI, hM_K, sI_hM, m.1, if_true]
theorem m_pL (m : MAt h M ar) (j : Nat) (v : Int64) : z_pL 13 j (some M) v (hM h f g) = some ((), hM h f (zu g M j v)) := by
  simp only [z_pL, hM_K, sL_hM, m.1, if_true]
theorem m_vr (m : MAt h M ar) {α : Type} (k : ZM α) : z_vr 13 (some M) k (hM h f g) = k (hM h f g) := by
  simp only [z_vr, hM_K, m.1, if_true]
theorem ix_ok {i n : Nat} (hi : i < n) (hn : n < 100000) : ¬ (I (i : Int) < 0 ∨ n ≤ i) := by
  rw [I_0, I_lt (by omega) (by omega)]
  omega
theorem ix_nat {i n : Nat} (hi : i < n) (hn : n < 100000) : (I (i : Int)).toNatClampNeg = i := by
  rw [I_nat (by omega)]; omega
theorem m_aI (m : MAt h M ar) (j n : Nat) (hj : mSz j = (1, n)) {i : Nat} (hi : i < n) (hn : n < 100000) : z_aI (some (ar j)) (I i) (hM h f g) = some (f (ar j) i, hM h f g) := by
  have hk := (m.2.1 j (by rw [hj]; exact Nat.succ_ne_zero _)).2.1
  rw [hj] at hk
  simp only [z_aI, hM_K, hM_I, hk, ix_ok hi hn, ix_nat hi hn, not_false_eq_true, and_self, if_true]
theorem m_aL (m : MAt h M ar) (j n : Nat) (hj : mSz j = (2, n)) {i : Nat} (hi : i < n) (hn : n < 100000) : z_aL (some (ar j)) (I i) (hM h f g) = some (g (ar j) i, hM h f g) := by
  have hk := (m.2.1 j (by rw [hj]; exact Nat.succ_ne_zero _)).2.1
  rw [hj] at hk
  simp only [z_aL, hM_K, hM_L, hk, ix_ok hi hn, ix_nat hi hn, not_false_eq_true, and_self, if_true]
theorem m_sI (m : MAt h M ar) (j n : Nat) (hj : mSz j = (1, n)) {i : Nat} (hi : i < n) (hn : n < 100000) (v : Int32) : z_sI (some (ar j)) (I i) v (hM h f g) = some ((), hM h (zu f (ar j) i v) g) := by
  have hk := (m.2.1 j (by rw [hj]; exact Nat.succ_ne_zero _)).2.1
  rw [hj] at hk
  simp only [z_sI, hM_K, sI_hM, hk, ix_ok hi hn, ix_nat hi hn, not_false_eq_true, and_self, if_true]
theorem m_sL (m : MAt h M ar) (j n : Nat) (hj : mSz j = (2, n)) {i : Nat} (hi : i < n) (hn : n < 100000) (v : Int64) : z_sL (some (ar j)) (I i) v (hM h f g) = some ((), hM h f (zu g (ar j) i v)) := by
  have hk := (m.2.1 j (by rw [hj]; exact Nat.succ_ne_zero _)).2.1
  rw [hj] at hk
  simp only [z_sL, hM_K, sL_hM, hk, ix_ok hi hn, ix_nat hi hn, not_false_eq_true, and_self, if_true]
/-! the table of made words: open addressing -/
def hash (w : Nat) : Nat := (Int64.toInt32 (((J (w : Int) * 31) + (J (w : Int) >>> (Int32.toInt64 17 &&& 63))) &&& 16383)).toNatClampNeg
theorem hash_bv (x : Int64) : ∃ n : Nat, n < 16384 ∧ x &&& 16383 = J (n : Int) := by
  refine ⟨(x.toBitVec &&& 16383#64).toNat, ?_, ?_⟩
  · rw [BitVec.toNat_and]
    exact Nat.lt_of_le_of_lt Nat.and_le_right (by decide)
  · rw [← Int64.toBitVec_inj, Int64.toBitVec_and, J_bv, BitVec.ofNat_toNat, BitVec.setWidth_eq]
    rfl
theorem hash_ok (w : Nat) : hash w < 16384 ∧ Int64.toInt32 (((J (w : Int) * 31) + (J (w : Int) >>> (Int32.toInt64 17 &&& 63))) &&& 16383) = I (hash w) := by
  unfold hash
  obtain ⟨n, h1, h2⟩ := hash_bv ((J (w : Int) * 31) + (J (w : Int) >>> (Int32.toInt64 17 &&& 63)))
  rw [h2, JI, I_nat (by omega)]
  exact ⟨by omega, by rw [show (n : Int).toNat = n by omega]⟩
/-- a slot at which the search for w, from its hash on, ends -/
def IsSlot (K : Nat → Nat) (w s : Nat) : Prop := ∃ d, d < 16384 ∧ s = (hash w + d) % 16384 ∧ (K s = 0 ∨ K s = w) ∧ ∀ e, e < d → K ((hash w + e) % 16384) ≠ 0 ∧ K ((hash w + e) % 16384) ≠ w
theorem slot_lt {K : Nat → Nat} {w s : Nat} (h : IsSlot K w s) : s < 16384 := by
  obtain ⟨d, -, rfl, -⟩ := h
  exact Nat.mod_lt _ (by decide)
theorem slot_uniq {K : Nat → Nat} {w s t : Nat} (h1 : IsSlot K w s) (h2 : IsSlot K w t) : s = t := by
  obtain ⟨d, a1, rfl, a3, a4⟩ := h1
  obtain ⟨e, b1, rfl, b3, b4⟩ := h2
  rcases Nat.lt_trichotomy d e with q | q | q
  · exact absurd a3 (fun z => z.elim (b4 d q).1 (b4 d q).2)
  · rw [q]
  · exact absurd b3 (fun z => z.elim (a4 e q).1 (a4 e q).2)
theorem least {P : Nat → Prop} (n : Nat) (h : ∃ d, d < n ∧ P d) : ∃ d, d < n ∧ P d ∧ ∀ e, e < d → ¬ P e := by
  induction n with
  | zero => obtain ⟨d, hd, -⟩ := h; exact absurd hd (Nat.not_lt_zero _)
  | succ n ih =>
    by_cases hc : ∃ d, d < n ∧ P d
    · obtain ⟨d, h1, h2, h3⟩ := ih hc
      exact ⟨d, Nat.lt_succ_of_lt h1, h2, h3⟩
    · obtain ⟨d, h1, h2⟩ := h
      have : d = n := by
        by_cases hd : d < n
        · exact absurd ⟨d, hd, h2⟩ hc
        · omega
      subst this
      exact ⟨d, h1, h2, fun e he q => hc ⟨e, he, q⟩⟩
/-- there is one, where a slot is free -/
theorem slot_ex {K : Nat → Nat} {z : Nat} (hz : z < 16384) (h0 : K z = 0) (w : Nat) : ∃ s, IsSlot K w s := by
  have hw := (hash_ok w).1
  obtain ⟨d, h1, h2, h3⟩ := least 16384 (P := fun d => K ((hash w + d) % 16384) = 0 ∨ K ((hash w + d) % 16384) = w) ⟨(z + 16384 - hash w) % 16384, Nat.mod_lt _ (by decide), Or.inl (by
    rw [show (hash w + (z + 16384 - hash w) % 16384) % 16384 = z by omega]; exact h0)⟩
  exact ⟨_, d, h1, rfl, h2, fun e he => ⟨fun q => h3 e he (Or.inl q), fun q => h3 e he (Or.inr q)⟩⟩
theorem slot_l (m : MAt h M ar) {K : Nat → Nat} (hK : ∀ s, s < 16384 → g (ar 36) s = J (K s) ∧ K s < 9223372036854775808) {w : Nat} (hw : w < 9223372036854775808) {d : Nat} (hd : d < 16384) (hs : K ((hash w + d) % 16384) = 0 ∨ K ((hash w + d) % 16384) = w) (hp : ∀ e, e < d → K ((hash w + e) % 16384) ≠ 0 ∧ K ((hash w + e) % 16384) ≠ w) :
    ∀ (c e n : Nat), e + c = d → c < n → p_X12_slotOf_l16 n (some M) (J w) (I (((hash w + e) % 16384 : Nat) : Int)) (hM h f g) = some (I (((hash w + d) % 16384 : Nat) : Int), hM h f g) := by
  intro c
  induction c with
  | zero =>
    intro e n he hn
    obtain ⟨n, rfl⟩ := Nat.exists_eq_add_of_lt hn
    have he' : e = d := by omega
    subst he'
    show p_X12_slotOf_c16 _ _ _ _ _ = _
    have hl : (hash w + e) % 16384 < 16384 := Nat.mod_lt _ (by decide)
    obtain ⟨k1, k2⟩ := hK _ hl
    have e1 : (J (K ((hash w + e) % 16384) : Int) = 0) ↔ K ((hash w + e) % 16384) = 0 := by rw [litJ, J_inj (by omega) (by omega)]; omega
    have e2 : (J (K ((hash w + e) % 16384) : Int) = J (w : Int)) ↔ K ((hash w + e) % 16384) = w := by rw [J_inj (by omega) (by omega)]; omega
    simp only [p_X12_slotOf_c16, ite_ap, z_b, z_rt, z_n, m_gR m 36 (by decide), m_aL m 36 16384 (by decide) hl (by decide), lgc_eq0, k1, e1, e2]
    rcases hs with q | q
    · rw [if_pos q]
    · by_cases q0 : K ((hash w + e) % 16384) = 0
      · rw [if_pos q0]
      · rw [if_neg q0, if_pos q]
  | succ c ih =>
    intro e n he hn
    cases n with
    | zero => exact absurd hn (Nat.not_lt_zero _)
    | succ n =>
      show p_X12_slotOf_c16 (p_X12_slotOf_l16 n) _ _ _ _ = _
      have hl : (hash w + e) % 16384 < 16384 := Nat.mod_lt _ (by decide)
      obtain ⟨k1, k2⟩ := hK _ hl
      obtain ⟨p1, p2⟩ := hp e (by omega)
      have e1 : (J (K ((hash w + e) % 16384) : Int) = 0) ↔ K ((hash w + e) % 16384) = 0 := by rw [litJ, J_inj (by omega) (by omega)]; omega
      have e2 : (J (K ((hash w + e) % 16384) : Int) = J (w : Int)) ↔ K ((hash w + e) % 16384) = w := by rw [J_inj (by omega) (by omega)]; omega
      have e3 : (I (((hash w + e) % 16384 : Nat) : Int) + 1) &&& 16383 = I (((hash w + (e + 1)) % 16384 : Nat) : Int) := by
        rw [show (1 : Int32) = I ((1 : Nat) : Int) from rfl, I_an, show (16383 : Int32) = I ((16383 : Nat) : Int) from rfl, I_and, show (16383 : Nat) = 2 ^ 14 - 1 from rfl, Nat.and_two_pow_sub_one_eq_mod]
        congr 2
        show ((hash w + e) % 16384 + 1) % 16384 = _
        omega
      simp only [p_X12_slotOf_c16, ite_ap, z_b, z_rt, z_n, m_gR m 36 (by decide), m_aL m 36 16384 (by decide) hl (by decide), lgc_eq0, k1, e1, e2, p1, p2, if_false, e3]
      exact ih (e + 1) n (by omega) (by omega)
theorem slot_eq (m : MAt h M ar) {K : Nat → Nat} (hK : ∀ s, s < 16384 → g (ar 36) s = J (K s) ∧ K s < 9223372036854775808) {w s : Nat} (hw : w < 9223372036854775808) (hs : IsSlot K w s) : p_X12_slotOf (some M) (J w) (hM h f g) = some (I (s : Int), hM h f g) := by
  obtain ⟨d, h1, rfl, h3, h4⟩ := hs
  have h5 := hash_ok w
  have := slot_l (f := f) m hK hw h1 h3 h4 d 0 zFuel (by omega) (by unfold zFuel; omega)
  rw [Nat.add_zero, Nat.mod_eq_of_lt h5.1] at this
  simp only [p_X12_slotOf, z_n, h5.2]
  exact this
end
