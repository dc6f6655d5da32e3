/-! ===== costs: the class ===== -/
def uSz (j : Nat) : Nat := [64, 100, 10, 1111, 1558, 5].getD j 0
def AlC (f : FI) (a : Nat) (al : Nat → Nat → Bool) : Prop := ∀ i j, i < 8 → j < 8 → f a (i * 8 + j) = I (bN (al i j))
section
variable {h : ZH} {gx : Nat} {rw ar : Nat → Nat} {f : FI} {u v : Nat → Nat} {al : Nat → Nat → Bool}
def LtC (f : FI) (a : Nat) (u : Nat → Nat) (n : Nat) : Prop := ∀ k, k < n → f a k = I (u k) ∧ u k < 8
/-- a cell of the table is right -/
def CeC (f : FI) (a : Nat) (u v : Nat → Nat) (al : Nat → Nat → Bool) (i j : Nat) : Prop := ∃ t : Nat, f a (i * 11 + j) = I t ∧ CP u v al i j t
/-- near enough -/
def Bd (r i j : Nat) : Prop := i ≤ j + r ∧ j ≤ i + r
theorem CP_lt {i j t : Nat} (h : CP u v al i j t) (hi : i ≤ 1000) (hj : j ≤ 1000) : t < 200000 := by
  have := h.2; omega
theorem I_ite {p : Prop} [Decidable p] {a b : Nat} : (if p then I (a : Int) else I (b : Int)) = I (((if p then a else b : Nat)) : Int) := by
  by_cases q : p
  · rw [if_pos q, if_pos q]
  · rw [if_neg q, if_neg q]
theorem lt_ite {p : Prop} [Decidable p] {a b n : Nat} (ha : a < n) (hb : b < n) : (if p then a else b) < n := by
  by_cases q : p
  · rw [if_pos q]; exact ha
  · rw [if_neg q]; exact hb
theorem I_sgn {a b : Nat} : I (a : Int) - I (b : Int) = I ((a : Int) - (b : Int)) := I_sub _ _
theorem cbf_eq (o : Ob h 9 gx rw ar uSz) {i j r : Nat} (hi : i ≤ 100) (hj : j ≤ 10) (hr : 2 ≤ r ∧ r ≤ 100) (C : Bd r i j → CeC f (ar 3) u v al i j) :
    ∃ t : Nat, p_X8_costBefore (some gx) (I i) (I j) (I r) (hI h f) = some (I t, hI h f) ∧ CP u v al i j t := by
  have e1 : ¬ I (i : Int) < 0 := by rw [lit, I_lt (by omega) (by decide)]; omega
  have e2 : ¬ I (j : Int) < 0 := by rw [lit, I_lt (by omega) (by decide)]; omega
  have e3 : (if (0 : Int32) ≤ I ((i : Int) - (j : Int)) then I ((i : Int) - (j : Int)) else 0 - I ((i : Int) - (j : Int))) = I (((if j ≤ i then i - j else j - i : Nat)) : Int) := by
    have q : ((0 : Int32) ≤ I ((i : Int) - (j : Int))) ↔ j ≤ i := by rw [lit, I_le (by decide) (by omega)]; omega
    by_cases z : j ≤ i
    · rw [if_pos (q.mpr z), if_pos z, show (i : Int) - (j : Int) = ((i - j : Nat) : Int) by omega]
    · rw [if_neg (fun y => z (q.mp y)), if_neg z, show (0 : Int32) = I 0 from rfl, I_sub, show (0 : Int) - ((i : Int) - (j : Int)) = ((j - i : Nat) : Int) by omega]
  have e4 : (I (r : Int) < I (((if j ≤ i then i - j else j - i : Nat)) : Int)) ↔ ¬ (i ≤ j + r ∧ j ≤ i + r) := by
    have : (if j ≤ i then i - j else j - i) ≤ 1000 := by split <;> omega
    rw [I_lt (by omega) (by omega)]
    split <;> omega
  have e5 : I (i : Int) * 11 + I (j : Int) = I ((i * 11 + j : Nat) : Int) := by
    rw [show (11 : Int32) = I ((11 : Nat) : Int) from rfl, I_mn, I_an]
  simp only [p_X8_costBefore, p_X8_costBefore_b22, ite_ap, e1, e2, if_false, I_sgn, e3, e4]
  by_cases z : i ≤ j + r ∧ j ≤ i + r
  · rw [if_neg (fun y => y z)]
    obtain ⟨t, t1, t2⟩ := C z
    refine ⟨t, ?_, t2⟩
    have n1 : ¬ ((1 : Int32) = 0) := by decide
    simp only [p_X8_costBefore_b23, z_b, z_rt, ite_ap, n1, if_false, o_gR o 3 (by decide), o_rv o 3 (by decide), e5, o_get o 3 1111 rfl (show i * 11 + j < 1111 by omega), t1]
  · rw [if_pos z]
    refine ⟨100000, ?_, CP_far ?_⟩
    · simp only [p_X8_costBefore_b23, z_rt, ite_ap, if_true]
      rfl
    · omega
theorem cbf_m1 (o : Ob h 9 gx rw ar uSz) (i j r : Int32) (hx : i = -1 ∨ j = -1) (hi : i = -1 ∨ ¬ i < 0) : p_X8_costBefore (some gx) i j r (hI h f) = some (100000, hI h f) := by
  simp only [p_X8_costBefore, p_X8_costBefore_b22, p_X8_costBefore_b23, ite_ap, if_true, z_rt]
  rcases hi with q | q
  · rw [if_pos (by rw [q]; decide)]
  · rw [if_neg q]
    rcases hx with y | y
    · exact absurd (by rw [y]; decide) q
    · rw [if_pos (by rw [y]; decide)]
theorem sub_eq (o : Ob h 9 gx rw ar uSz) {n m i j : Nat} (A : AlC f (ar 0) al) (U : LtC f (ar 1) u n) (V : LtC f (ar 2) v m) (hi : i < n) (hj : j < m) (hn : n ≤ 100) (hm : m ≤ 10) : p_X8_costToBecome (some gx) (I i) (I j) (hI h f) = some (I (subC al (u i) (v j)), hI h f) := by
  obtain ⟨u1, u2⟩ := U i hi
  obtain ⟨v1, v2⟩ := V j hj
  have e1 : (I (u i : Int) = I (v j : Int)) ↔ u i = v j := I_eqN (by omega) (by omega)
  have e3 : (if (0 : Int32) ≤ I ((u i : Int) - (v j : Int)) then I ((u i : Int) - (v j : Int)) else 0 - I ((u i : Int) - (v j : Int))) = I (((if v j ≤ u i then u i - v j else v j - u i : Nat)) : Int) := by
    have q : ((0 : Int32) ≤ I ((u i : Int) - (v j : Int))) ↔ v j ≤ u i := by rw [lit, I_le (by decide) (by omega)]; omega
    by_cases z : v j ≤ u i
    · rw [if_pos (q.mpr z), if_pos z, show (u i : Int) - (v j : Int) = ((u i - v j : Nat) : Int) by omega]
    · rw [if_neg (fun y => z (q.mp y)), if_neg z, show (0 : Int32) = I 0 from rfl, I_sub, show (0 : Int) - ((u i : Int) - (v j : Int)) = ((v j - u i : Nat) : Int) by omega]
  have e4 : (I (((if v j ≤ u i then u i - v j else v j - u i : Nat)) : Int) = 1) ↔ u i = v j + 1 ∨ v j = u i + 1 := by
    have : (if v j ≤ u i then u i - v j else v j - u i) ≤ 1000 := by split <;> omega
    rw [show (1 : Int32) = I ((1 : Nat) : Int) from rfl, I_eqN (by omega) (by decide)]
    split <;> omega
  have e5 : I (u i : Int) * 8 + I (v j : Int) = I ((u i * 8 + v j : Nat) : Int) := by
    rw [show (8 : Int32) = I ((8 : Nat) : Int) from rfl, I_mn, I_an]
  have e6 : (I (bN (al (u i) (v j)) : Int) = 0) ↔ ¬ al (u i) (v j) = true := by cases al (u i) (v j) <;> decide
  simp only [p_X8_costToBecome, z_b, z_rt, ite_ap, o_gR o 1 (by decide), o_rv o 1 (by decide), o_get o 1 100 rfl (show i < 100 by omega), u1, o_gR o 2 (by decide), o_rv o 2 (by decide), o_get o 2 10 rfl (show j < 10 by omega), v1, e1, I_sgn, e3, e4, o_gR o 0 (by decide), o_rv o 0 (by decide), e5, o_get o 0 64 rfl (show u i * 8 + v j < 64 by omega), A (u i) (v j) u2 v2, e6]
  unfold subC
  by_cases z1 : u i = v j
  · rw [if_neg (fun y => y z1), if_pos z1]; rfl
  · rw [if_pos z1, if_neg z1]
    by_cases z2 : u i = v j + 1 ∨ v j = u i + 1
    · rw [if_pos z2, if_pos z2]; rfl
    · rw [if_neg z2, if_neg z2]
      by_cases z3 : al (u i) (v j) = true
      · rw [if_neg (fun y => y z3), if_pos z3]; rfl
      · rw [if_pos z3, if_neg z3]; rfl
theorem swp_eq (o : Ob h 9 gx rw ar uSz) {n m i j : Nat} (U : LtC f (ar 1) u n) (V : LtC f (ar 2) v m) (hi : i + 1 < n + 1) (hj : j + 1 < m + 1) (hn : n ≤ 100) (hm : m ≤ 10) (h1 : 1 ≤ i) (h2 : 1 ≤ j) : p_X8_isSwapped (some gx) (I ((i + 1 : Nat) : Int)) (I ((j + 1 : Nat) : Int)) (hI h f) = some (bI (swC u v i j), hI h f) := by
  obtain ⟨u1, u2⟩ := U i (by omega)
  obtain ⟨u3, u4⟩ := U (i - 1) (by omega)
  obtain ⟨v1, v2⟩ := V j (by omega)
  obtain ⟨v3, v4⟩ := V (j - 1) (by omega)
  have a1 : I ((i + 1 : Nat) : Int) - 1 = I (i : Int) := I_sn (i + 1) 1 (by omega)
  have a2 : I ((i + 1 : Nat) : Int) - 2 = I ((i - 1 : Nat) : Int) := by rw [show (2 : Int32) = I ((2 : Nat) : Int) from rfl, I_sn (i + 1) 2 (by omega)]; rfl
  have a3 : I ((j + 1 : Nat) : Int) - 1 = I (j : Int) := I_sn (j + 1) 1 (by omega)
  have a4 : I ((j + 1 : Nat) : Int) - 2 = I ((j - 1 : Nat) : Int) := by rw [show (2 : Int32) = I ((2 : Nat) : Int) from rfl, I_sn (j + 1) 2 (by omega)]; rfl
  have e1 : (I (u i : Int) = I (v (j - 1) : Int)) ↔ u i = v (j - 1) := I_eqN (by omega) (by omega)
  have e2 : (I (u (i - 1) : Int) = I (v j : Int)) ↔ u (i - 1) = v j := I_eqN (by omega) (by omega)
  simp only [p_X8_isSwapped, z_b, ite_ap, a1, a2, a3, a4, o_gR o 1 (by decide), o_rv o 1 (by decide), o_get o 1 100 rfl (show i < 100 by omega), u1, o_get o 1 100 rfl (show i - 1 < 100 by omega), u3, o_gR o 2 (by decide), o_rv o 2 (by decide), o_get o 2 10 rfl (show j < 10 by omega), v1, o_get o 2 10 rfl (show j - 1 < 10 by omega), v3, e1, e2]
  unfold swC
  by_cases z1 : u i = v (j - 1)
  · rw [if_neg (fun y => y z1)]
    by_cases z2 : u (i - 1) = v j
    · rw [if_neg (fun y => y z2), if_pos ⟨h1, h2, z1, z2⟩]; rfl
    · rw [if_pos z2, if_neg (fun y => z2 y.2.2.2)]; rfl
  · rw [if_pos z1, if_neg (fun y => z1 y.2.2.1)]; rfl
/-- the least cost of a cell, its neighbours being right -/
theorem least_eq (o : Ob h 9 gx rw ar uSz) {n m i j r : Nat} (A : AlC f (ar 0) al) (U : LtC f (ar 1) u n) (V : LtC f (ar 2) v m) (hi : i ≤ n) (hj : j ≤ m) (hn : n ≤ 100) (hm : m ≤ 10) (hr : 2 ≤ r ∧ r ≤ 100) (C : ∀ i' j', j' ≤ m → (i' < i ∨ i' = i ∧ j' < j) → Bd r i' j' → CeC f (ar 3) u v al i' j') :
    ∃ t : Nat, p_X8_leastCost (some gx) (I i) (I j) (I r) (hI h f) = some (I t, hI h f) ∧ CP u v al i j t := by
  have zi : (I (i : Int) = 0) ↔ i = 0 := I_eqN (k := 0) (by omega) (by decide)
  have zj : (I (j : Int) = 0) ↔ j = 0 := I_eqN (k := 0) (by omega) (by decide)
  have li : (I (i : Int) ≤ 0) ↔ i = 0 := by rw [lit, I_le (by omega) (by decide)]; omega
  have lj : (I (j : Int) ≤ 0) ↔ j = 0 := by rw [lit, I_le (by omega) (by decide)]; omega
  have li1 : (I (i : Int) ≤ 1) ↔ i ≤ 1 := by rw [lit, I_le (by omega) (by decide)]; omega
  have lj1 : (I (j : Int) ≤ 1) ↔ j ≤ 1 := by rw [lit, I_le (by omega) (by decide)]; omega
  simp only [p_X8_leastCost, ite_ap, zi, zj, z_rt]
  cases i with
  | zero =>
    rw [if_neg (fun y => y rfl)]
    cases j with
    | zero =>
      rw [if_neg (fun y => y rfl)]
      exact ⟨0, rfl, CP_00⟩
    | succ j =>
      rw [if_pos (Nat.succ_ne_zero _)]
      obtain ⟨t, t1, t2⟩ := cbf_eq (f := f) (u := u) (v := v) (al := al) o (i := 0) (j := j) (by omega) (by omega) hr (fun b => C 0 j (by omega) (Or.inr ⟨rfl, Nat.lt_succ_self _⟩) b)
      have tl := CP_lt t2 (by omega) (by omega)
      refine ⟨(if t < 100000 then t else 100000) + 2, ?_, CP_0s t2⟩
      have e0 : I ((0 : Nat) : Int) - 1 = -1 := rfl
      have e1 : I ((j + 1 : Nat) : Int) - 1 = I (j : Int) := I_sn (j + 1) 1 (by omega)
      have e2 : (I (t : Int) < 100000) ↔ t < 100000 := by rw [lit, I_lt (by omega) (by decide)]; omega
      have c0 := cbf_m1 (f := f) o (-1) (I ((j + 1 : Nat) : Int)) (I r) (Or.inl rfl) (Or.inl rfl)
      have e3 : (if t < 100000 then I (t : Int) else 100000) + 2 = I (((if t < 100000 then t else 100000) + 2 : Nat) : Int) := by
        split
        · exact I_add _ 2
        · rfl
      simp only [p_X8_leastCost_b10, p_X8_leastCost_b76, z_b, z_n, z_rt, ite_ap, o_vr o, e0, c0, e1, t1, e2, li, li1, if_true, e3]
      rw [if_pos (by decide)]
  | succ i =>
    rw [if_pos (Nat.succ_ne_zero _)]
    have e0 : I ((i + 1 : Nat) : Int) - 1 = I (i : Int) := I_sn (i + 1) 1 (by omega)
    cases j with
    | zero =>
      obtain ⟨t, t1, t2⟩ := cbf_eq (f := f) (u := u) (v := v) (al := al) o (i := i) (j := 0) (by omega) (by omega) hr (fun b => C i 0 (by omega) (Or.inl (Nat.lt_succ_self _)) b)
      have tl := CP_lt t2 (by omega) (by omega)
      refine ⟨(if 100000 < t then 100000 else t) + 2, ?_, CP_s0 t2⟩
      have e1 : I ((0 : Nat) : Int) - 1 = -1 := rfl
      have e2 : ((100000 : Int32) < I (t : Int)) ↔ 100000 < t := by rw [lit, I_lt (by decide) (by omega)]; omega
      have nx : ¬ I ((i + 1 : Nat) : Int) < 0 := by rw [lit, I_lt (by omega) (by decide)]; omega
      have c0 := cbf_m1 (f := f) o (I ((i + 1 : Nat) : Int)) (-1) (I r) (Or.inr rfl) (Or.inr nx)
      have e3 : (if 100000 < t then 100000 else I (t : Int)) + 2 = I (((if 100000 < t then 100000 else t) + 2 : Nat) : Int) := by
        split
        · rfl
        · exact I_add _ 2
      have n0 : ¬ (i + 1 = 0) := Nat.succ_ne_zero _
      simp only [p_X8_leastCost_b10, p_X8_leastCost_b76, z_b, z_n, z_rt, ite_ap, o_vr o, e0, c0, e1, t1, e2, li, li1, lj, lj1, n0, if_true, if_false, e3]
      rw [if_pos (show (0 : Nat) ≤ 1 by decide), ite_self]
    | succ j =>
      have e1 : I ((j + 1 : Nat) : Int) - 1 = I (j : Int) := I_sn (j + 1) 1 (by omega)
      have n0 : ¬ (i + 1 = 0) := Nat.succ_ne_zero _
      have n1 : ¬ (j + 1 = 0) := Nat.succ_ne_zero _
      obtain ⟨t1, a1, a2⟩ := cbf_eq (f := f) (u := u) (v := v) (al := al) o (i := i) (j := j + 1) (by omega) (by omega) hr (fun b => C i (j + 1) (by omega) (Or.inl (Nat.lt_succ_self _)) b)
      obtain ⟨t2, b1, b2⟩ := cbf_eq (f := f) (u := u) (v := v) (al := al) o (i := i + 1) (j := j) (by omega) (by omega) hr (fun b => C (i + 1) j (by omega) (Or.inr ⟨rfl, Nat.lt_succ_self _⟩) b)
      obtain ⟨t3, c1, c2⟩ := cbf_eq (f := f) (u := u) (v := v) (al := al) o (i := i) (j := j) (by omega) (by omega) hr (fun b => C i j (by omega) (Or.inl (Nat.lt_succ_self _)) b)
      have sb := sub_eq (f := f) (u := u) (v := v) o A U V (i := i) (j := j) (by omega) (by omega) hn hm
      have sle := subC_le (al := al) (u i) (v j)
      have l1 := CP_lt a2 (by omega) (by omega)
      have l2 := CP_lt b2 (by omega) (by omega)
      have l3 := CP_lt c2 (by omega) (by omega)
      have x1 : (I (t2 : Int) < I (t1 : Int)) ↔ t2 < t1 := by rw [I_lt (by omega) (by omega)]; omega
      have x2 : (if t2 < t1 then I (t2 : Int) else I (t1 : Int)) + 2 = I (((if t2 < t1 then t2 else t1) + 2 : Nat) : Int) := by
        split
        · exact I_add _ 2
        · exact I_add _ 2
      have hy : (if t2 < t1 then t2 else t1) + 2 < 300000 := by split <;> omega
      have x3 : (I ((t3 + subC al (u i) (v j) : Nat) : Int) < I (((if t2 < t1 then t2 else t1) + 2 : Nat) : Int)) ↔ t3 + subC al (u i) (v j) < (if t2 < t1 then t2 else t1) + 2 := by rw [I_lt (by omega) (by omega)]; omega
      have x4 : (if t3 + subC al (u i) (v j) < (if t2 < t1 then t2 else t1) + 2 then I ((t3 + subC al (u i) (v j) : Nat) : Int) else I (((if t2 < t1 then t2 else t1) + 2 : Nat) : Int)) = I (((if t3 + subC al (u i) (v j) < (if t2 < t1 then t2 else t1) + 2 then t3 + subC al (u i) (v j) else (if t2 < t1 then t2 else t1) + 2 : Nat)) : Int) := I_ite
      have hy2 : (if t3 + subC al (u i) (v j) < (if t2 < t1 then t2 else t1) + 2 then t3 + subC al (u i) (v j) else (if t2 < t1 then t2 else t1) + 2) < 300000 := lt_ite (by omega) (by omega)
      simp only [p_X8_leastCost_b10, z_b, z_n, ite_ap, o_vr o, e0, e1, a1, b1, c1, x1, x2, li, lj, n0, n1, if_false, sb, I_an, x3, x4]
      generalize hg : (if t3 + subC al (u i) (v j) < (if t2 < t1 then t2 else t1) + 2 then t3 + subC al (u i) (v j) else (if t2 < t1 then t2 else t1) + 2) = y at *
      have fin := fun (t4 : Nat) (h4 : swC u v i j = true → CP u v al (i - 1) (j - 1) t4) => CP_ss a2 b2 c2 h4
      rw [hg] at fin
      simp only [p_X8_leastCost_b76, z_b, z_n, z_rt, ite_ap, li1, lj1]
      by_cases w1 : i + 1 ≤ 1
      · rw [if_pos w1]
        have : swC u v i j = false := by
          cases q : swC u v i j with
          | false => rfl
          | true => have := swC_pos q; omega
        have f0 := fin 0 (fun z => by rw [this] at z; cases z)
        rw [this, if_neg (by decide)] at f0
        exact ⟨y, rfl, f0⟩
      · rw [if_neg w1]
        by_cases w2 : j + 1 ≤ 1
        · rw [if_pos w2]
          have : swC u v i j = false := by
            cases q : swC u v i j with
            | false => rfl
            | true => have := swC_pos q; omega
          have f0 := fin 0 (fun z => by rw [this] at z; cases z)
          rw [this, if_neg (by decide)] at f0
          exact ⟨y, rfl, f0⟩
        · rw [if_neg w2]
          have sw := swp_eq (f := f) (u := u) (v := v) o U V (i := i) (j := j) (by omega) (by omega) hn hm (by omega) (by omega)
          simp only [o_vr o, sw]
          cases q : swC u v i j with
          | false =>
            rw [if_pos (show bI false = 0 from rfl)]
            have f0 := fin 0 (fun z => by rw [q] at z; cases z)
            rw [q, if_neg (by decide)] at f0
            exact ⟨y, rfl, f0⟩
          | true =>
            rw [if_neg (show ¬ bI true = 0 by decide)]
            have g1 : I ((i + 1 : Nat) : Int) - 2 = I ((i - 1 : Nat) : Int) := by rw [show (2 : Int32) = I ((2 : Nat) : Int) from rfl, I_sn (i + 1) 2 (by omega)]; rfl
            have g2 : I ((j + 1 : Nat) : Int) - 2 = I ((j - 1 : Nat) : Int) := by rw [show (2 : Int32) = I ((2 : Nat) : Int) from rfl, I_sn (j + 1) 2 (by omega)]; rfl
            obtain ⟨t4, d1, d2⟩ := cbf_eq (f := f) (u := u) (v := v) (al := al) o (i := i - 1) (j := j - 1) (by omega) (by omega) hr (fun b => C (i - 1) (j - 1) (by omega) (Or.inl (by omega)) b)
            have l4 := CP_lt d2 (by omega) (by omega)
            have g3 : I (t4 : Int) + 1 = I ((t4 + 1 : Nat) : Int) := I_add _ 1
            have g4 : (I ((t4 + 1 : Nat) : Int) < I (y : Int)) ↔ t4 + 1 < y := by rw [I_lt (by omega) (by omega)]; omega
            have f0 := fin t4 (fun _ => d2)
            rw [q, if_pos rfl] at f0
            refine ⟨_, ?_, f0⟩
            simp only [g1, g2, d1, g3, g4, I_ite]
end
