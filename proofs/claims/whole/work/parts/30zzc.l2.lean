/-! ===== costs: the reference ===== -/
theorem mlet {w : Wd} (hw : isW w) (hl : w.length ≤ 12) {j : Nat} (h1 : 1 ≤ j) (h2 : j ≤ w.length) : Int64.toInt32 ((J (mN w) >>> (Int32.toInt64 (I ((4 * (w.length - j) : Nat) : Int)) &&& 63)) &&& 15) = I ((w.getD (j - 1) 0 + 1 : Nat) : Int) := by
  have hmr := mN_range hw hl
  rw [J_msk' _ (by omega), J_shr (by omega) (by omega), mN_take hw j, show (15 : Int64) = J ((15 : Nat) : Int) from rfl, J_and, show (15 : Nat) = 2 ^ 4 - 1 from rfl, Nat.and_two_pow_sub_one_eq_mod, show (2 : Nat) ^ 4 = 16 from rfl, mN_last (isW_take hw _) (fun q => by have := congrArg List.length q; rw [List.length_take, Nat.min_eq_left h2] at this; exact absurd this (by simp; omega)), JI]
  have : (w.take j).getD ((w.take j).length - 1) 0 = w.getD (j - 1) 0 := by
    rw [List.length_take, Nat.min_eq_left h2, List.getD_eq_getElem?_getD, List.getElem?_take, if_pos (by omega), List.getD_eq_getElem?_getD]
  rw [this]
theorem least_min (h : ZH) {a b : Nat} (ha : a < 1000000) (hb : b < 1000000) : p_X12_least (I a) (I b) h = some (I ((min a b : Nat) : Int), h) := by
  have e : (I (b : Int) ≤ I (a : Int)) ↔ b ≤ a := by rw [I_le (by omega) (by omega)]; omega
  simp only [p_X12_least, ite_ap, e, z_rt]
  by_cases q : b ≤ a
  · rw [if_pos q, Nat.min_eq_right q]
  · rw [if_neg q, Nat.min_eq_left (by omega)]
section
variable {h : ZH} {M : Nat} {ar : Nat → Nat} {u : Nat → Nat} {al : Nat → Nat → Bool}
def AlM (f : FI) (ar : Nat → Nat) (al : Nat → Nat → Bool) : Prop := ∀ i j, i < 8 → j < 8 → f (ar 16) (9 * (i + 1) + (j + 1)) = I (bN (al i j))
def LtM (f : FI) (ar : Nat → Nat) (u : Nat → Nat) (n : Nat) : Prop := ∀ k, k < n → f (ar 51) (k + 1) = I ((u k + 1 : Nat) : Int) ∧ u k < 8
/-- the table as far as it is filled -/
def TaM (f : FI) (ar : Nat → Nat) (u v : Nat → Nat) (al : Nat → Nat → Bool) (m i j : Nat) : Prop := ∀ i' j', j' ≤ m → (i' < i ∨ i' = i ∧ j' < j) → f (ar 50) (13 * i' + j') = I (CF u v al i' j')
/-- what stands ahead of a table -/
def SgM (f : FI) (ar : Nat → Nat) (u : Nat → Nat) (al : Nat → Nat → Bool) (n : Nat) : Prop := AlM f ar al ∧ LtM f ar u n
theorem SgM.fr {f f' : FI} {g g' : FL} {ss as : List Nat} {n : Nat} (S : SgM f ar u al n) (F : MFr f f' g g' ar M ss as) (m : MAt h M ar) (h6 : 16 ∉ as) (h1 : 51 ∉ as) (h3 : ∀ i ∈ as, (mSz i).1 ≠ 0) : SgM f' ar u al n := by
  refine ⟨fun i j hi hj => ?_, fun k hk => ?_⟩
  · rw [(F.at_ m (j := 16) (by decide) h6 h3).1]; exact S.1 i j hi hj
  · rw [(F.at_ m (j := 51) (by decide) h1 h3).1]; exact S.2 k hk
/-- one cell of the table -/
theorem co18_cell (m : MAt h M ar) {f : FI} {g : FL} {w : Wd} (hw : isW w) (hw10 : w.length ≤ 10) {n i j : Nat} (hn : n ≤ 12) (hi : i ≤ n) (hj : j ≤ w.length) (S : SgM f ar u al n) (T : TaM f ar u (ltr w) al w.length i j) (r9 : Option Nat → Int32 → Int64 → Int32 → Int32 → ZM Int32) (r18 : Option Nat → Int32 → Int64 → Int32 → Int32 → Int32 → ZM Int32) :
    p_X12_costOf_c18 r9 r18 (some M) (I n) (J (mN w)) (I w.length) (I i) (I j) (hM h f g) = r18 (some M) (I n) (J (mN w)) (I w.length) (I i) (I ((j + 1 : Nat) : Int)) (hM h (zu f (ar 50) (13 * i + j) (I (CF u (ltr w) al i j))) g) := by
  have e1 : ¬ I (w.length : Int) < I (j : Int) := by rw [I_lt (by omega) (by omega)]; omega
  have zi : (I (i : Int) = 0) ↔ i = 0 := I_eqN (k := 0) (by omega) (by decide)
  have zj : (I (j : Int) = 0) ↔ j = 0 := I_eqN (k := 0) (by omega) (by decide)
  have li : (I (i : Int) ≤ 0) ↔ i = 0 := by rw [lit, I_le (by omega) (by decide)]; omega
  have lj : (I (j : Int) ≤ 0) ↔ j = 0 := by rw [lit, I_le (by omega) (by decide)]; omega
  have ej : I (j : Int) + 1 = I ((j + 1 : Nat) : Int) := I_add _ 1
  have eidx : 13 * I (i : Int) + I (j : Int) = I ((13 * i + j : Nat) : Int) := by
    rw [show (13 : Int32) = I ((13 : Nat) : Int) from rfl, I_mn, I_an]
  have st : ∀ c : Nat, p_X12_costOf_b291 r9 r18 (some M) (I n) (J (mN w)) (I w.length) (I i) (I j) (I c) (hM h f g) = r18 (some M) (I n) (J (mN w)) (I w.length) (I i) (I ((j + 1 : Nat) : Int)) (hM h (zu f (ar 50) (13 * i + j) (I c)) g) := fun c => by
    simp only [p_X12_costOf_b291, z_b, z_n, m_gR m 50 (by decide), eidx, m_sI m 50 169 (by decide) (show 13 * i + j < 169 by omega) (by decide), ej]
  have m2 : ∀ k : Nat, 2 * I (k : Int) = I ((2 * k : Nat) : Int) := fun k => I_mn 2 k
  simp only [p_X12_costOf_c18, ite_ap, e1, if_false, zi, zj, m2]
  cases i with
  | zero =>
    rw [if_neg (fun y => y rfl)]
    simp only [p_X12_costOf_b51, ite_ap, li, if_true]
    rw [st, CF_0]
  | succ i =>
    rw [if_pos (Nat.succ_ne_zero _)]
    cases j with
    | zero =>
      rw [if_neg (fun y => y rfl)]
      simp only [p_X12_costOf_b51, ite_ap, lj, if_true, ite_self]
      rw [st, CF_s0]
    | succ j =>
      rw [if_pos (Nat.succ_ne_zero _)]
      obtain ⟨u1, u2⟩ := S.2 i (by omega)
      have hv : ltr w j < 8 := getD_lt8 hw j
      have eb : 4 * (I (w.length : Int) - I ((j + 1 : Nat) : Int)) = I ((4 * (w.length - (j + 1)) : Nat) : Int) := by
        rw [I_sn _ _ hj, show (4 : Int32) = I ((4 : Nat) : Int) from rfl, I_mn]
      have lb := mlet hw (by omega) (j := j + 1) (by omega) hj
      rw [Nat.add_sub_cancel] at lb
      have lb' : Int64.toInt32 ((J (mN w) >>> (Int32.toInt64 (I ((4 * (w.length - (j + 1)) : Nat) : Int)) &&& 63)) &&& 15) = I ((ltr w j + 1 : Nat) : Int) := lb
      have q1 : (I ((u i + 1 : Nat) : Int) = I ((ltr w j + 1 : Nat) : Int)) ↔ u i = ltr w j := by rw [I_eqN (by omega) (by omega)]; omega
      have q2 : (I ((u i + 1 : Nat) : Int) - I ((ltr w j + 1 : Nat) : Int) = 1) ↔ u i = ltr w j + 1 := by
        rw [I_sub, show (1 : Int32) = I (1 : Int) from rfl, I_inj (by omega) (by omega)]; omega
      have q3 : (I ((ltr w j + 1 : Nat) : Int) - I ((u i + 1 : Nat) : Int) = 1) ↔ ltr w j = u i + 1 := by
        rw [I_sub, show (1 : Int32) = I (1 : Int) from rfl, I_inj (by omega) (by omega)]; omega
      have e9 : 9 * I ((u i + 1 : Nat) : Int) + I ((ltr w j + 1 : Nat) : Int) = I ((9 * (u i + 1) + (ltr w j + 1) : Nat) : Int) := by
        rw [show (9 : Int32) = I ((9 : Nat) : Int) from rfl, I_mn, I_an]
      have q4 : (I (bN (al (u i) (ltr w j)) : Int) = 1) ↔ al (u i) (ltr w j) = true := by cases al (u i) (ltr w j) <;> decide
      have n0 : ¬ (i + 1 = 0) := Nat.succ_ne_zero _
      have n1 : ¬ (j + 1 = 0) := Nat.succ_ne_zero _
      -- the neighbours
      have t3 := T i j (by omega) (Or.inl (Nat.lt_succ_self _))
      have t1 := T i (j + 1) (by omega) (Or.inl (Nat.lt_succ_self _))
      have t2 := T (i + 1) j (by omega) (Or.inr ⟨rfl, Nat.lt_succ_self _⟩)
      have b3 := (CF_lo (u := u) (v := ltr w) (al := al) (i + j) i j (Nat.le_refl _)).2.2
      have b1 := (CF_lo (u := u) (v := ltr w) (al := al) (i + (j + 1)) i (j + 1) (Nat.le_refl _)).2.2
      have b2 := (CF_lo (u := u) (v := ltr w) (al := al) (i + 1 + j) (i + 1) j (Nat.le_refl _)).2.2
      have b4 := (CF_lo (u := u) (v := ltr w) (al := al) (i - 1 + (j - 1)) (i - 1) (j - 1) (Nat.le_refl _)).2.2
      have sle := subC_le (al := al) (u i) (ltr w j)
      have ei1 : I ((i + 1 : Nat) : Int) - 1 = I (i : Int) := I_sn (i + 1) 1 (by omega)
      have x1 : 13 * I (i : Int) + I ((j + 1 : Nat) : Int) - 1 = I ((13 * i + j : Nat) : Int) := by
        rw [show (13 : Int32) = I ((13 : Nat) : Int) from rfl, I_mn, I_an, show (1 : Int32) = I ((1 : Nat) : Int) from rfl, I_sn _ 1 (by omega)]; rfl
      have x2 : 13 * I (i : Int) + I ((j + 1 : Nat) : Int) = I ((13 * i + (j + 1) : Nat) : Int) := by
        rw [show (13 : Int32) = I ((13 : Nat) : Int) from rfl, I_mn, I_an]
      have x3 : 13 * I ((i + 1 : Nat) : Int) + I ((j + 1 : Nat) : Int) - 1 = I ((13 * (i + 1) + j : Nat) : Int) := by
        rw [show (13 : Int32) = I ((13 : Nat) : Int) from rfl, I_mn, I_an, show (1 : Int32) = I ((1 : Nat) : Int) from rfl, I_sn _ 1 (by omega)]; rfl
      have x13 : I ((13 * i + (j + 1) : Nat) : Int) - 1 = I ((13 * i + j : Nat) : Int) := by
        rw [show (1 : Int32) = I ((1 : Nat) : Int) from rfl, I_sn _ 1 (by omega)]; rfl
      have x33 : 13 * I ((i + 1 : Nat) : Int) + I ((j + 1 : Nat) : Int) = I ((13 * (i + 1) + (j + 1) : Nat) : Int) := by
        rw [show (13 : Int32) = I ((13 : Nat) : Int) from rfl, I_mn, I_an]
      have x34 : I ((13 * (i + 1) + (j + 1) : Nat) : Int) - 1 = I ((13 * (i + 1) + j : Nat) : Int) := by
        rw [show (1 : Int32) = I ((1 : Nat) : Int) from rfl, I_sn _ 1 (by omega)]; rfl
      -- the rest, with what the change of the letter costs
      have go : p_X12_costOf_b139 r9 r18 (some M) (I n) (J (mN w)) (I w.length) (I ((i + 1 : Nat) : Int)) (I ((j + 1 : Nat) : Int)) (I ((u i + 1 : Nat) : Int)) (I ((ltr w j + 1 : Nat) : Int)) (I (subC al (u i) (ltr w j))) (hM h f g) = r18 (some M) (I n) (J (mN w)) (I w.length) (I ((i + 1 : Nat) : Int)) (I ((j + 1 + 1 : Nat) : Int)) (hM h (zu f (ar 50) (13 * (i + 1) + (j + 1)) (I (CF u (ltr w) al (i + 1) (j + 1)))) g) := by
        have c2 : ∀ k : Nat, (2 : Int32) + I (k : Int) = I ((2 + k : Nat) : Int) := fun k => I_add 2 k
        have li1 : (I ((i + 1 : Nat) : Int) ≤ 1) ↔ i + 1 ≤ 1 := by rw [lit, I_le (by omega) (by decide)]; omega
        have lj1 : (I ((j + 1 : Nat) : Int) ≤ 1) ↔ j + 1 ≤ 1 := by rw [lit, I_le (by omega) (by decide)]; omega
        have noSw : swC u (ltr w) i j = false → p_X12_costOf_b252 r9 r18 (some M) (I n) (J (mN w)) (I w.length) (I ((i + 1 : Nat) : Int)) (I ((j + 1 : Nat) : Int)) (I ((min (CF u (ltr w) al i j + subC al (u i) (ltr w j)) (2 + min (CF u (ltr w) al i (j + 1)) (CF u (ltr w) al (i + 1) j)) : Nat) : Int)) (hM h f g) = r18 (some M) (I n) (J (mN w)) (I w.length) (I ((i + 1 : Nat) : Int)) (I ((j + 1 + 1 : Nat) : Int)) (hM h (zu f (ar 50) (13 * (i + 1) + (j + 1)) (I (CF u (ltr w) al (i + 1) (j + 1)))) g) := by
          intro q
          simp only [p_X12_costOf_b252, p_X12_costOf_b253, p_X12_costOf_b289, ite_ap, if_true]
          rw [st, CF_ss, q, if_neg (by decide)]
        simp only [p_X12_costOf_b139, z_b, ite_ap, m_gR m 50 (by decide), ei1, x2, x13, m_aI m 50 169 (by decide) (show 13 * i + j < 169 by omega) (by decide), t3, m_aI m 50 169 (by decide) (show 13 * i + (j + 1) < 169 by omega) (by decide), t1, x33, x34, m_aI m 50 169 (by decide) (show 13 * (i + 1) + j < 169 by omega) (by decide), t2, least_min _ (show CF u (ltr w) al i (j + 1) < 1000000 by omega) (show CF u (ltr w) al (i + 1) j < 1000000 by omega), I_an, c2, least_min _ (show CF u (ltr w) al i j + subC al (u i) (ltr w j) < 1000000 by omega) (show 2 + min (CF u (ltr w) al i (j + 1)) (CF u (ltr w) al (i + 1) j) < 1000000 by omega), li1, lj1]
        by_cases w1 : i + 1 ≤ 1
        · rw [if_pos w1]
          exact noSw (by
            cases q : swC u (ltr w) i j with
            | false => rfl
            | true => have := swC_pos q; omega)
        · rw [if_neg w1]
          by_cases w2 : j + 1 ≤ 1
          · rw [if_pos w2]
            exact noSw (by
              cases q : swC u (ltr w) i j with
              | false => rfl
              | true => have := swC_pos q; omega)
          · rw [if_neg w2]
            have ebs : 4 * (I (w.length : Int) - I ((j + 1 : Nat) : Int) + 1) = I ((4 * (w.length - j) : Nat) : Int) := by
              rw [I_sn _ _ hj, show (1 : Int32) = I ((1 : Nat) : Int) from rfl, I_an, show (4 : Int32) = I ((4 : Nat) : Int) from rfl, I_mn, show w.length - (j + 1) + 1 = w.length - j by omega]
            have lbs := mlet hw (by omega) (j := j) (by omega) (by omega)
            have lbs' : Int64.toInt32 ((J (mN w) >>> (Int32.toInt64 (I ((4 * (w.length - j) : Nat) : Int)) &&& 63)) &&& 15) = I ((ltr w (j - 1) + 1 : Nat) : Int) := lbs
            have hv2 : ltr w (j - 1) < 8 := getD_lt8 hw (j - 1)
            obtain ⟨u3, u4⟩ := S.2 (i - 1) (by omega)
            rw [show i - 1 + 1 = i by omega] at u3
            have q5 : (I ((u i + 1 : Nat) : Int) = I ((ltr w (j - 1) + 1 : Nat) : Int)) ↔ u i = ltr w (j - 1) := by rw [I_eqN (by omega) (by omega)]; omega
            have q6 : (I ((u (i - 1) + 1 : Nat) : Int) = I ((ltr w j + 1 : Nat) : Int)) ↔ u (i - 1) = ltr w j := by rw [I_eqN (by omega) (by omega)]; omega
            simp only [ebs, lbs', q5]
            by_cases z1 : u i = ltr w (j - 1)
            · rw [if_neg (fun y => y z1)]
              simp only [m_gR m 51 (by decide), ei1, m_aI m 51 13 (by decide) (show i < 13 by omega) (by decide), u3, q6]
              by_cases z2 : u (i - 1) = ltr w j
              · rw [if_neg (fun y => y z2)]
                have hsw : swC u (ltr w) i j = true := if_pos ⟨by omega, by omega, z1, z2⟩
                have t4 := T (i - 1) (j - 1) (by omega) (Or.inl (by omega))
                have ei2 : I ((i + 1 : Nat) : Int) - 2 = I ((i - 1 : Nat) : Int) := by rw [show (2 : Int32) = I ((2 : Nat) : Int) from rfl, I_sn (i + 1) 2 (by omega)]; rfl
                have x4 : 13 * I ((i - 1 : Nat) : Int) + I ((j + 1 : Nat) : Int) - 2 = I ((13 * (i - 1) + (j - 1) : Nat) : Int) := by
                  rw [show (13 : Int32) = I ((13 : Nat) : Int) from rfl, I_mn, I_an, show (2 : Int32) = I ((2 : Nat) : Int) from rfl, I_sn _ 2 (by omega), show 13 * (i - 1) + (j + 1) - 2 = 13 * (i - 1) + (j - 1) by omega]
                have c1 : ∀ k : Nat, I (k : Int) + 1 = I ((k + 1 : Nat) : Int) := fun k => I_add _ 1
                have n10 : ¬ ((1 : Int32) = 0) := by decide
                simp only [p_X12_costOf_b253, p_X12_costOf_b289, z_b, ite_ap, n10, if_false, m_gR m 50 (by decide), ei2, x4, m_aI m 50 169 (by decide) (show 13 * (i - 1) + (j - 1) < 169 by omega) (by decide), t4, c1, least_min _ (show min (CF u (ltr w) al i j + subC al (u i) (ltr w j)) (2 + min (CF u (ltr w) al i (j + 1)) (CF u (ltr w) al (i + 1) j)) < 1000000 by omega) (show CF u (ltr w) al (i - 1) (j - 1) + 1 < 1000000 by omega)]
                rw [st, CF_ss, hsw, if_pos rfl]
              · rw [if_pos z2]
                exact noSw (if_neg (fun y => z2 y.2.2.2))
            · rw [if_pos z1]
              exact noSw (if_neg (fun y => z1 y.2.2.1))
      rw [← go]
      simp only [p_X12_costOf_b51, p_X12_costOf_b134, z_b, z_n, ite_ap, li, lj, n0, n1, if_false, m_gR m 51 (by decide), m_aI m 51 13 (by decide) (show i + 1 < 13 by omega) (by decide), u1, eb, lb', q1, q2, q3, m_gR m 16 (by decide), e9, m_aI m 16 81 (by decide) (show 9 * (u i + 1) + (ltr w j + 1) < 81 by omega) (by decide), S.1 (u i) (ltr w j) u2 hv, q4]
      unfold subC
      by_cases z1 : u i = ltr w j
      · rw [if_neg (fun y => y z1), if_pos z1]; rfl
      · rw [if_pos z1, if_neg z1]
        by_cases z2 : u i = ltr w j + 1
        · rw [if_pos z2, if_pos (Or.inl z2)]; rfl
        · rw [if_neg z2]
          by_cases z3 : ltr w j = u i + 1
          · rw [if_pos z3, if_pos (Or.inr z3)]; rfl
          · rw [if_neg z3, if_neg (show ¬ (u i = ltr w j + 1 ∨ ltr w j = u i + 1) by omega)]
            by_cases z4 : al (u i) (ltr w j) = true
            · rw [if_neg (fun y => y z4), if_pos z4]; rfl
            · rw [if_pos z4, if_neg z4]; rfl
end
