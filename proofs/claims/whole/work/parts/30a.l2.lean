/-! ===== whole numbers ===== -/
def I (z : Int) : Int32 := Int32.ofInt z
theorem I_toInt {z : Int} (h : -2147483648 ≤ z ∧ z < 2147483648) : (I z).toInt = z := by
  unfold I
  rw [Int32.toInt_ofInt]
  exact Int.bmod_eq_of_le (by simp only [Int32.size]; omega) (by simp only [Int32.size]; omega)
theorem toInt_I (x : Int32) : I x.toInt = x := Int32.ofInt_toInt x
theorem I_add (a b : Int) : I a + I b = I (a + b) := (Int32.ofInt_add a b).symm
theorem I_sub (a b : Int) : I a - I b = I (a - b) := (Int32.ofInt_sub a b).symm
theorem I_mul (a b : Int) : I a * I b = I (a * b) := (Int32.ofInt_mul a b).symm
theorem I_neg (a : Int) : - I a = I (-a) := (Int32.ofInt_neg a).symm
theorem I_ofNat (n : Nat) : Int32.ofNat n = I n := rfl
theorem I_inj {a b : Int} (ha : -2147483648 ≤ a ∧ a < 2147483648) (hb : -2147483648 ≤ b ∧ b < 2147483648) : (I a = I b) ↔ a = b := by
  constructor
  · intro h
    have := congrArg Int32.toInt h
    rwa [I_toInt ha, I_toInt hb] at this
  · intro h; rw [h]
theorem I_lt {a b : Int} (ha : -2147483648 ≤ a ∧ a < 2147483648) (hb : -2147483648 ≤ b ∧ b < 2147483648) : (I a < I b) ↔ a < b := by
  rw [Int32.lt_iff_toInt_lt, I_toInt ha, I_toInt hb]
theorem I_le {a b : Int} (ha : -2147483648 ≤ a ∧ a < 2147483648) (hb : -2147483648 ≤ b ∧ b < 2147483648) : (I a ≤ I b) ↔ a ≤ b := by
  rw [Int32.le_iff_toInt_le, I_toInt ha, I_toInt hb]
theorem I_nat {a : Int} (ha : -2147483648 ≤ a ∧ a < 2147483648) : (I a).toNatClampNeg = a.toNat := by
  show (I a).toInt.toNat = _
  rw [I_toInt ha]
theorem I_div {a b : Int} (ha : 0 ≤ a ∧ a < 2147483648) (hb : 0 < b ∧ b < 2147483648) : I a / I b = I (a / b) := by
  rw [← toInt_I (I a / I b), Int32.toInt_div, I_toInt (by omega), I_toInt (by omega)]
  congr 1
  rw [Int.tdiv_eq_ediv_of_nonneg ha.1]
  refine Int.bmod_eq_of_le ?_ ?_
  · have := Int.ediv_nonneg ha.1 (Int.le_of_lt hb.1); omega
  · have := Int.ediv_le_self b ha.1; omega
theorem lit (n : Nat) : (@OfNat.ofNat Int32 n _) = I (@OfNat.ofNat Int n _) := rfl
theorem I_0 : (0 : Int32) = I 0 := rfl
theorem I_nlt {a b : Int} (ha : -2147483648 ≤ a ∧ a < 2147483648) (hb : -2147483648 ≤ b ∧ b < 2147483648) (h : b ≤ a) : ¬ (I a < I b) := by
  rw [I_lt ha hb]; omega
/-! bits -/
def J (z : Int) : Int64 := Int64.ofInt z
theorem J_toInt {z : Int} (h : -9223372036854775808 ≤ z ∧ z < 9223372036854775808) : (J z).toInt = z := by
  unfold J
  rw [Int64.toInt_ofInt]
  exact Int.bmod_eq_of_le (by simp only [Int64.size]; omega) (by simp only [Int64.size]; omega)
theorem toInt_J (x : Int64) : J x.toInt = x := Int64.ofInt_toInt x
theorem J_add (a b : Int) : J a + J b = J (a + b) := (Int64.ofInt_add a b).symm
theorem J_sub (a b : Int) : J a - J b = J (a - b) := (Int64.ofInt_sub a b).symm
theorem J_mul (a b : Int) : J a * J b = J (a * b) := (Int64.ofInt_mul a b).symm
theorem J_inj {a b : Int} (ha : -9223372036854775808 ≤ a ∧ a < 9223372036854775808) (hb : -9223372036854775808 ≤ b ∧ b < 9223372036854775808) : (J a = J b) ↔ a = b := by
  constructor
  · intro h
    have := congrArg Int64.toInt h
    rwa [J_toInt ha, J_toInt hb] at this
  · intro h; rw [h]
theorem J_lt {a b : Int} (ha : -9223372036854775808 ≤ a ∧ a < 9223372036854775808) (hb : -9223372036854775808 ≤ b ∧ b < 9223372036854775808) : (J a < J b) ↔ a < b := by
  rw [Int64.lt_iff_toInt_lt, J_toInt ha, J_toInt hb]
theorem J_le {a b : Int} (ha : -9223372036854775808 ≤ a ∧ a < 9223372036854775808) (hb : -9223372036854775808 ≤ b ∧ b < 9223372036854775808) : (J a ≤ J b) ↔ a ≤ b := by
  rw [Int64.le_iff_toInt_le, J_toInt ha, J_toInt hb]
theorem litJ (n : Nat) : (@OfNat.ofNat Int64 n _) = J (@OfNat.ofNat Int n _) := rfl
theorem IJ {z : Int} (h : -2147483648 ≤ z ∧ z < 2147483648) : (I z).toInt64 = J z := Int32.toInt64_ofInt (by simpa using h.1) (by have : Int32.maxValue.toInt = 2147483647 := by decide
                                                                                                                                  omega)
theorem JI (z : Int) : (J z).toInt32 = I z := Int64.toInt32_ofInt
theorem I_bv (n : Nat) : (I (n : Int)).toBitVec = BitVec.ofNat 32 n := by
  show (Int32.ofInt (n : Int)).toBitVec = _
  rw [Int32.toBitVec_ofInt, BitVec.ofInt_natCast]
theorem I_and (a b : Nat) : I (a : Int) &&& I (b : Int) = I ((a &&& b : Nat) : Int) := by
  rw [← Int32.toBitVec_inj, Int32.toBitVec_and, I_bv, I_bv, I_bv, BitVec.ofNat_and]
theorem I_or (a b : Nat) : I (a : Int) ||| I (b : Int) = I ((a ||| b : Nat) : Int) := by
  rw [← Int32.toBitVec_inj, Int32.toBitVec_or, I_bv, I_bv, I_bv, BitVec.ofNat_or]
theorem I_smod : ∀ k : Nat, k < 32 → (I (k : Int)).toBitVec.smod 32 = BitVec.ofNat 32 k := by decide +kernel
theorem I_shr {a k : Nat} (ha : a < 2147483648) (hk : k < 32) : I (a : Int) >>> I (k : Int) = I ((a / 2 ^ k : Nat) : Int) := by
  rw [← Int32.toInt_inj, I_toInt ⟨Int.le_trans (by decide) (Int.natCast_nonneg _), Int.ofNat_lt.mpr (Nat.lt_of_le_of_lt (Nat.div_le_self _ _) ha)⟩, ← Int32.toInt_toBitVec, Int32.toBitVec_shiftRight, I_smod k hk]
  show (BitVec.sshiftRight _ (BitVec.ofNat 32 k).toNat).toInt = _
  rw [BitVec.toInt_sshiftRight, Int32.toInt_toBitVec, I_toInt (by omega), BitVec.toNat_ofNat, Nat.mod_eq_of_lt (show k < 2 ^ 32 from Nat.lt_trans hk (by decide)), Int.shiftRight_eq_div_pow]
  rfl
theorem I_shl {a k : Nat} (hk : k < 32) : I (a : Int) <<< I (k : Int) = I ((a * 2 ^ k : Nat) : Int) := by
  rw [← Int32.toBitVec_inj, Int32.toBitVec_shiftLeft, I_smod k hk, I_bv, I_bv]
  show BitVec.ofNat 32 a <<< (BitVec.ofNat 32 k).toNat = _
  rw [BitVec.toNat_ofNat, Nat.mod_eq_of_lt (show k < 2 ^ 32 from Nat.lt_trans hk (by decide))]
  refine BitVec.eq_of_toNat_eq ?_
  rw [BitVec.toNat_shiftLeft, BitVec.toNat_ofNat, BitVec.toNat_ofNat, Nat.shiftLeft_eq, Nat.mod_mul_mod]
theorem I_msk (k : Nat) (hk : k < 32) : I (k : Int) &&& 31 = I (k : Int) := by
  rw [show (31 : Int32) = I ((31 : Nat) : Int) from rfl, I_and, show (31 : Nat) = 2 ^ 5 - 1 from rfl, Nat.and_two_pow_sub_one_eq_mod, Nat.mod_eq_of_lt hk]
theorem J_bv (n : Nat) : (J (n : Int)).toBitVec = BitVec.ofNat 64 n := by
  show (Int64.ofInt (n : Int)).toBitVec = _
  rw [Int64.toBitVec_ofInt, BitVec.ofInt_natCast]
theorem J_and (a b : Nat) : J (a : Int) &&& J (b : Int) = J ((a &&& b : Nat) : Int) := by
  rw [← Int64.toBitVec_inj, Int64.toBitVec_and, J_bv, J_bv, J_bv, BitVec.ofNat_and]
theorem J_or (a b : Nat) : J (a : Int) ||| J (b : Int) = J ((a ||| b : Nat) : Int) := by
  rw [← Int64.toBitVec_inj, Int64.toBitVec_or, J_bv, J_bv, J_bv, BitVec.ofNat_or]
theorem J_smod : ∀ k : Nat, k < 64 → (J (k : Int)).toBitVec.smod 64 = BitVec.ofNat 64 k := by decide +kernel
theorem J_shr {a k : Nat} (ha : a < 9223372036854775808) (hk : k < 64) : J (a : Int) >>> J (k : Int) = J ((a / 2 ^ k : Nat) : Int) := by
  rw [← Int64.toInt_inj, J_toInt ⟨Int.le_trans (by decide) (Int.natCast_nonneg _), Int.ofNat_lt.mpr (Nat.lt_of_le_of_lt (Nat.div_le_self _ _) ha)⟩, ← Int64.toInt_toBitVec, Int64.toBitVec_shiftRight, J_smod k hk]
  show (BitVec.sshiftRight _ (BitVec.ofNat 64 k).toNat).toInt = _
  rw [BitVec.toInt_sshiftRight, Int64.toInt_toBitVec, J_toInt (by omega), BitVec.toNat_ofNat, Nat.mod_eq_of_lt (show k < 2 ^ 64 from Nat.lt_trans hk (by decide)), Int.shiftRight_eq_div_pow]
  rfl
theorem J_shl {a k : Nat} (hk : k < 64) : J (a : Int) <<< J (k : Int) = J ((a * 2 ^ k : Nat) : Int) := by
  rw [← Int64.toBitVec_inj, Int64.toBitVec_shiftLeft, J_smod k hk, J_bv, J_bv]
  show BitVec.ofNat 64 a <<< (BitVec.ofNat 64 k).toNat = _
  rw [BitVec.toNat_ofNat, Nat.mod_eq_of_lt (show k < 2 ^ 64 from Nat.lt_trans hk (by decide))]
  refine BitVec.eq_of_toNat_eq ?_
  rw [BitVec.toNat_shiftLeft, BitVec.toNat_ofNat, BitVec.toNat_ofNat, Nat.shiftLeft_eq, Nat.mod_mul_mod]
theorem J_msk (k : Nat) (hk : k < 64) : J (k : Int) &&& 63 = J (k : Int) := by
  rw [show (63 : Int64) = J ((63 : Nat) : Int) from rfl, J_and, show (63 : Nat) = 2 ^ 6 - 1 from rfl, Nat.and_two_pow_sub_one_eq_mod, Nat.mod_eq_of_lt hk]
/-! ===== rows ===== -/
/-- the heap with other whole numbers -/
def hI (h : ZH) (f : Nat → Nat → Int32) : ZH := (zT h, zN h, zK h, f, zL h, zR h, zD h)
theorem hI_T (h : ZH) (f) : zT (hI h f) = zT h := rfl
theorem hI_N (h : ZH) (f) : zN (hI h f) = zN h := rfl
theorem hI_K (h : ZH) (f) : zK (hI h f) = zK h := rfl
theorem hI_I (h : ZH) (f) : zI (hI h f) = f := rfl
theorem hI_L (h : ZH) (f) : zL (hI h f) = zL h := rfl
theorem hI_R (h : ZH) (f) : zR (hI h f) = zR h := rfl
theorem hI_D (h : ZH) (f) : zD (hI h f) = zD h := rfl
theorem hI_hI (h : ZH) (f g) : hI (hI h f) g = hI h g := rfl
theorem hI_self (h : ZH) : hI h (zI h) = h := rfl
theorem ite_ap {α β : Type} (c : Prop) [Decidable c] (f g : α → β) (a : α) : (if c then f else g) a = if c then f a else g a := by
  by_cases hc : c <;> simp only [hc, if_true, if_false]
theorem z_ite {α : Type} (c : Prop) [Decidable c] (a b : ZM α) (h : ZH) : (if c then a else b) h = if c then a h else b h := by
  by_cases hc : c <;> simp only [hc, if_true, if_false]
theorem T_sI (h : ZH) (a k : Nat) (v : Int32) : zT (zsI h a k v) = zT h := rfl
theorem N_sI (h : ZH) (a k : Nat) (v : Int32) : zN (zsI h a k v) = zN h := rfl
theorem K_sI (h : ZH) (a k : Nat) (v : Int32) : zK (zsI h a k v) = zK h := rfl
theorem L_sI (h : ZH) (a k : Nat) (v : Int32) : zL (zsI h a k v) = zL h := rfl
theorem R_sI (h : ZH) (a k : Nat) (v : Int32) : zR (zsI h a k v) = zR h := rfl
theorem D_sI (h : ZH) (a k : Nat) (v : Int32) : zD (zsI h a k v) = zD h := rfl
theorem T_sL (h : ZH) (a k : Nat) (v : Int64) : zT (zsL h a k v) = zT h := rfl
theorem N_sL (h : ZH) (a k : Nat) (v : Int64) : zN (zsL h a k v) = zN h := rfl
theorem K_sL (h : ZH) (a k : Nat) (v : Int64) : zK (zsL h a k v) = zK h := rfl
theorem I_sL (h : ZH) (a k : Nat) (v : Int64) : zI (zsL h a k v) = zI h := rfl
theorem R_sL (h : ZH) (a k : Nat) (v : Int64) : zR (zsL h a k v) = zR h := rfl
theorem D_sL (h : ZH) (a k : Nat) (v : Int64) : zD (zsL h a k v) = zD h := rfl
theorem T_sR (h : ZH) (a k : Nat) (v : Option Nat) : zT (zsR h a k v) = zT h := rfl
theorem N_sR (h : ZH) (a k : Nat) (v : Option Nat) : zN (zsR h a k v) = zN h := rfl
theorem K_sR (h : ZH) (a k : Nat) (v : Option Nat) : zK (zsR h a k v) = zK h := rfl
theorem I_sR (h : ZH) (a k : Nat) (v : Option Nat) : zI (zsR h a k v) = zI h := rfl
theorem L_sR (h : ZH) (a k : Nat) (v : Option Nat) : zL (zsR h a k v) = zL h := rfl
theorem D_sR (h : ZH) (a k : Nat) (v : Option Nat) : zD (zsR h a k v) = zD h := rfl
theorem T_wI (h : ZH) (a : Nat) (f : Nat → Int32) : zT (zwI h a f) = zT h := rfl
theorem N_wI (h : ZH) (a : Nat) (f : Nat → Int32) : zN (zwI h a f) = zN h := rfl
theorem K_wI (h : ZH) (a : Nat) (f : Nat → Int32) : zK (zwI h a f) = zK h := rfl
theorem L_wI (h : ZH) (a : Nat) (f : Nat → Int32) : zL (zwI h a f) = zL h := rfl
theorem R_wI (h : ZH) (a : Nat) (f : Nat → Int32) : zR (zwI h a f) = zR h := rfl
theorem D_wI (h : ZH) (a : Nat) (f : Nat → Int32) : zD (zwI h a f) = zD h := rfl
theorem T_wR (h : ZH) (a : Nat) (f : Nat → Option Nat) : zT (zwR h a f) = zT h := rfl
theorem N_wR (h : ZH) (a : Nat) (f : Nat → Option Nat) : zN (zwR h a f) = zN h := rfl
theorem K_wR (h : ZH) (a : Nat) (f : Nat → Option Nat) : zK (zwR h a f) = zK h := rfl
theorem I_wR (h : ZH) (a : Nat) (f : Nat → Option Nat) : zI (zwR h a f) = zI h := rfl
theorem L_wR (h : ZH) (a : Nat) (f : Nat → Option Nat) : zL (zwR h a f) = zL h := rfl
theorem D_wR (h : ZH) (a : Nat) (f : Nat → Option Nat) : zD (zwR h a f) = zD h := rfl
theorem I_sI (h : ZH) (a k : Nat) (v : Int32) : zI (zsI h a k v) = zu (zI h) a k v := rfl
theorem L_sL (h : ZH) (a k : Nat) (v : Int64) : zL (zsL h a k v) = zu (zL h) a k v := rfl
theorem R_sR (h : ZH) (a k : Nat) (v : Option Nat) : zR (zsR h a k v) = zu (zR h) a k v := rfl
theorem I_wI (h : ZH) (a : Nat) (f : Nat → Int32) : zI (zwI h a f) = zw (zI h) a f := rfl
theorem R_wR (h : ZH) (a : Nat) (f : Nat → Option Nat) : zR (zwR h a f) = zw (zR h) a f := rfl
def RowAt (h : ZH) (a arr n : Nat) : Prop := zK h a = (11, 0) ∧ zR h a 0 = some arr ∧ zK h arr = (1, n) ∧ n < 100000
theorem row_get {h : ZH} {a arr n : Nat} (r : RowAt h a arr n) {i : Int} (hi : -100000 ≤ i ∧ i < 2000000) : p_X4_get (some a) (I i) h = some (if 0 ≤ i ∧ i < n then zI h arr i.toNat else 0, h) := by
  obtain ⟨r1, r2, r3, r4⟩ := r
  have e0 : (I i < 0) ↔ i < 0 := by rw [I_0, I_lt (by omega) (by omega)]
  have e1 : (Int32.ofNat n ≤ I i) ↔ (n : Int) ≤ i := by rw [I_ofNat, I_le (by omega) (by omega)]
  have e2 : (I i).toNatClampNeg = i.toNat := I_nat (by omega)
  simp only [p_X4_get, z_ite, z_b, z_gR, z_aN, z_aI, z_rt, r1, r2, r3, e0, e1, e2, if_true, true_or]
  split <;> split <;> (try split) <;> simp_all <;> omega
theorem row_set {h : ZH} {a arr n : Nat} (r : RowAt h a arr n) {i : Int} (hi : -100000 ≤ i ∧ i < 2000000) (v : Int32) : p_X4_set (some a) (I i) v h = some ((), if 0 ≤ i ∧ i < n then zsI h arr i.toNat v else h) := by
  obtain ⟨r1, r2, r3, r4⟩ := r
  have e0 : (I i < 0) ↔ i < 0 := by rw [I_0, I_lt (by omega) (by omega)]
  have e1 : (Int32.ofNat n ≤ I i) ↔ (n : Int) ≤ i := by rw [I_ofNat, I_le (by omega) (by omega)]
  have e2 : (I i).toNatClampNeg = i.toNat := I_nat (by omega)
  simp only [p_X4_set, z_ite, z_b, z_gR, z_aN, z_sI, z_rt, r1, r2, r3, e0, e1, e2, if_true, true_or]
  split <;> split <;> (try split) <;> simp_all <;> omega
theorem row_insert {h : ZH} {a arr n : Nat} (r : RowAt h a arr n) {i u : Int} (hi : -100000 ≤ i ∧ i < 2000000) (hu : -100000 ≤ u ∧ u < 2000000) (v : Int32) : p_X4_insert (some a) (I i) v (I u) h = some ((), if 0 ≤ i ∧ i ≤ u ∧ u < n then zwI h arr (fun k => if k < i.toNat then zI h arr k else if k = i.toNat then v else if k ≤ u.toNat then zI h arr (k - 1) else zI h arr k) else h) := by
  obtain ⟨r1, r2, r3, r4⟩ := r
  have e0 : (I i < 0) ↔ i < 0 := by rw [I_0, I_lt (by omega) (by omega)]
  have e1 : (Int32.ofNat n ≤ I u) ↔ (n : Int) ≤ u := by rw [I_ofNat, I_le (by omega) (by omega)]
  have e2 : (I i).toNatClampNeg = i.toNat := I_nat (by omega)
  have e3 : (I u < I i) ↔ u < i := I_lt (by omega) (by omega)
  have e4 : I i + 1 = I (i + 1) := I_add i 1
  have e5 : I u - I i = I (u - i) := I_sub u i
  by_cases hc : 0 ≤ i ∧ i ≤ u ∧ u < n
  · have e6 : (I (i + 1)).toNatClampNeg = (i + 1).toNat := I_nat (by omega)
    have e7 : (I (u - i)).toNatClampNeg = (u - i).toNat := I_nat (by omega)
    have e8 : ¬ (I (i + 1) < 0) := by rw [I_0, I_lt (by omega) (by omega)]; omega
    have e9 : ¬ (I (u - i) < 0) := by rw [I_0, I_lt (by omega) (by omega)]; omega
    have n0 : ¬ i < 0 := by omega
    have n1 : ¬ u < i := by omega
    have n2 : ¬ (n : Int) ≤ u := by omega
    have n3 : i.toNat + (u - i).toNat ≤ n := by omega
    have n4 : (i + 1).toNat + (u - i).toNat ≤ n := by omega
    have n5 : ¬ n ≤ i.toNat := by omega
    simp only [p_X4_insert, z_ite, z_b, z_gR, z_aN, z_sI, z_rt, z_same, z_cp, r1, r2, r3, e0, e1, e2, e3, e4, e5, e6, e7, e8, e9, n0, n1, n2, n3, n4, n5, if_true, if_false, true_or, not_false_eq_true, and_self, or_self, hc, K_wI, R_wI, I_wI]
    simp only [zsI, zwI, zT, zN, zK, zI, zL, zR, zD]
    congr 6
    funext b k
    simp only [zu, zw, va_cpy, ite_ap]
    by_cases hb : b = arr
    · simp only [hb, true_and, if_true]
      repeat' split
      all_goals (first | rfl | omega | exact congrArg (h.snd.snd.snd.fst arr) (by omega))
    · simp only [hb, false_and, if_false]
  · simp only [p_X4_insert, z_ite, z_b, z_gR, z_aN, z_rt, r1, r2, r3, e0, e1, e3, if_true, true_or, if_neg hc]
    split
    · rfl
    · split
      · rfl
      · split
        · rfl
        · omega

