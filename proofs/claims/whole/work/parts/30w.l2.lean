section
variable {h : ZH} {M : Nat} {ar : Nat → Nat} {rs : List Ru} {s : St}
theorem end2_l (m : MAt h M ar) (ho : StOk s) {si : Nat} (hsi : si < 12) {e : Ev} (he : EvOk e) (r3 : Option Nat → Int64 → Int32 → Int32 → Int32 → Int32 → Int32 → Int32 → ZM Unit) (v1 : Int64) (v4 v5 v6 : Int32) {k mf : Nat} (hk8 : k < 8) (hmf : mf ≤ 63) :
    ∀ (t : List Ru) (i n : Nat) (f : FI) (g : FL) (l : Bk), rs.drop i = t → i + t.length = rs.length → t.length < n → f (ar 15) k = I mf → RsM f g ar M rs → StM f g ar si s → TC f g ar M l → l.length + ((t.filterMap (rev true mf e)).flatMap (begs rs s.flags)).length < 16384 →
      ∃ f' g', p_X12_endings_l123 r3 n (some M) v1 (I si) v4 v5 v6 1 (I k) (J (mN e.1)) (I e.2.1) (I e.2.2) (I i) (hM h f g) = r3 (some M) v1 (I si) v4 v5 v6 1 (I ((k + 1 : Nat) : Int)) (hM h f' g') ∧ TC f' g' ar M (((t.filterMap (rev true mf e)).flatMap (begs rs s.flags)).foldl (addEv s.is) l) ∧ MF f f' g g' ar M := by
  intro t
  induction t with
  | nil =>
    intro i n f g l h1 h2 h3 hmo hr hs hT hroom
    obtain ⟨q1, q2, q3⟩ := id hr
    obtain ⟨n, rfl⟩ := Nat.exists_eq_add_of_lt h3
    refine ⟨f, g, ?_, hT, MF.refl _ _ _ _⟩
    show p_X12_endings_c123 _ _ _ _ _ _ _ _ _ _ _ _ _ _ _ = _
    have e1 : I (rs.length : Int) ≤ I (i : Int) := by
      simp at h2
      rw [I_le (by omega) (by omega)]; omega
    have e2 : I (k : Int) + 1 = I ((k + 1 : Nat) : Int) := I_add _ 1
    simp only [p_X12_endings_c123, p_X12_endings_b249, z_b, z_n, ite_ap, m_gI m, q1, e1, if_true, e2]
  | cons r t ih =>
    intro i n f g l h1 h2 h3 hmo hr hs hT hroom
    obtain ⟨q1, q2, q3⟩ := id hr
    have hi : i < rs.length := by simp only [List.length_cons] at h2; omega
    have hd : rs[i]? = some r ∧ rs.drop (i + 1) = t := by
      refine ⟨?_, by rw [← List.tail_drop, h1]; rfl⟩
      have : (rs.drop i)[0]? = some r := by rw [h1]; rfl
      rw [List.getElem?_drop] at this
      simpa using this
    obtain ⟨r', w1, w2, w3⟩ := q3 i hi
    rw [hd.1] at w1
    cases w1
    cases n with
    | zero => exact absurd h3 (Nat.not_lt_zero _)
    | succ n =>
      show ∃ f' g', p_X12_endings_c123 r3 (p_X12_endings_l123 r3 n) _ _ _ _ _ _ _ _ _ _ _ _ _ = _ ∧ _
      simp only [List.length_cons] at h2 h3
      have i8 : i < 8 := by omega
      have e1 : ¬ (I (rs.length : Int) ≤ I (i : Int)) := by rw [I_le (by omega) (by omega)]; omega
      have e2 : I (i : Int) + 1 = I ((i + 1 : Nat) : Int) := I_add _ 1
      have n10 : ¬ ((1 : Int32) = 0) := by decide
      obtain ⟨a1, a2, a3, a4, a5, a6, a7, a8⟩ := id w2
      have hbit := bit_eq1 (x := mf) (k := r.flag) (by omega) (by have := w3.1; omega)
      have us := uses_eq (h := h) (f := f) m i8 w2 w3 (w := e.1) ⟨he.1, he.2.1, he.2.2.1⟩
      have skip : ∀ {x : Int64}, x ≤ 0 → p_X12_endings_b181 r3 (p_X12_endings_l123 r3 n) (some M) v1 (I si) v4 v5 v6 1 (I k) (J (mN e.1)) (I e.2.1) (I e.2.2) (I i) x (hM h f g) = p_X12_endings_l123 r3 n (some M) v1 (I si) v4 v5 v6 1 (I k) (J (mN e.1)) (I e.2.1) (I e.2.2) (I ((i + 1 : Nat) : Int)) (hM h f g) := by
        intro x hx
        simp only [p_X12_endings_b181, p_X12_endings_b243, z_n, ite_ap, lgc_le0, hx, if_true, e2]
      cases hev : rev true mf e r with
      | none =>
        rw [List.filterMap_cons_none hev] at hroom ⊢
        obtain ⟨f', g', p1, p2, p3⟩ := ih (i + 1) n f g l hd.2 (by omega) (by omega) hmo hr hs hT hroom
        refine ⟨f', g', ?_, p2, p3⟩
        rw [← p1]
        simp only [p_X12_endings_c123, p_X12_endings_b180, z_b, ite_ap, m_gI m, q1, e1, if_false, n10, m_gR m 9 (by decide), m_aI m 9 8 (by decide) i8 (by decide), a2, m_gR m 15 (by decide), m_aI m 15 8 (by decide) hk8 (by decide), hmo, m_gR m 8 (by decide), m_aI m 8 8 (by decide) i8 (by decide), a1, hbit, m_vr m]
        by_cases hE : r.isEnd = true
        · rw [if_pos hE, if_neg (fun q => q rfl)]
          by_cases hB : mf / 2 ^ r.flag % 2 = 1
          · rw [if_neg (fun q => q hB)]
            have ham : among r mf true = true := by
              unfold among
              rw [Bool.and_eq_true, beq_iff_eq, beq_iff_eq]
              exact ⟨hE, hB⟩
            have hu : usd r e.1 = none := by
              unfold rev at hev
              rw [if_pos ham] at hev
              exact Option.map_eq_none_iff.mp hev
            rw [hu] at us
            simp only [us]
            exact skip (by decide)
          · rw [if_pos hB]
            exact skip (by decide)
        · rw [if_neg hE, if_pos (by decide)]
          exact skip (by decide)
      | some e' =>
        rw [List.filterMap_cons_some hev, List.flatMap_cons] at hroom ⊢
        rw [List.length_append] at hroom
        have he' := rev_ok he w3 hev
        obtain ⟨hc, u, hu, hee⟩ := cO_some hev
        subst hee
        obtain ⟨f1, g1, v2, v3, v4'⟩ := beg_eq m ho hsi he' hr hs hT (by omega)
        have hle := addEvs_le s.is (begs rs s.flags (u, after r.kind e.2.1, after r.form e.2.2)) l
        obtain ⟨f', g', p1, p2, p3⟩ := ih (i + 1) n f1 g1 _ hd.2 (by omega) (by omega) (by rw [v4'.arI m (j := 15) (by decide) (by decide) (by decide) (by decide)]; exact hmo) (hr.fr v4' m) (hs.fr v4' m) v3 (by omega)
        refine ⟨f', g', ?_, by rw [List.foldl_append]; exact p2, v4'.trans p3⟩
        rw [← p1]
        rw [hu] at us
        unfold among at hc
        rw [Bool.and_eq_true, beq_iff_eq, beq_iff_eq] at hc
        have hm1' : 1 ≤ mN u := mN_pos he'.2.1
        have hm2' : mN u < 281474976710656 := mN_range he'.1 (show (u : Wd).length ≤ 12 by have : (u : Wd).length ≤ 10 := he'.2.2.1; omega)
        have np : ¬ (J (mN u : Int) ≤ 0) := by rw [litJ, J_le (by omega) (by omega)]; omega
        have v2' : p_X12_begins (some M) (J (mN u)) (I si) (I (after r.kind e.2.1)) (I (after r.form e.2.2)) (hM h f g) = some ((), hM h f1 g1) := v2
        have b240 : p_X12_endings_b240 r3 (p_X12_endings_l123 r3 n) (some M) v1 (I si) v4 v5 v6 1 (I k) (J (mN e.1)) (I e.2.1) (I e.2.2) (I i) (some M) (J (mN u)) (I si) (I (after r.kind e.2.1)) (I (after r.form e.2.2)) (hM h f g) = p_X12_endings_l123 r3 n (some M) v1 (I si) v4 v5 v6 1 (I k) (J (mN e.1)) (I e.2.1) (I e.2.2) (I ((i + 1 : Nat) : Int)) (hM h f1 g1) := by
          simp only [p_X12_endings_b240, p_X12_endings_b243, z_b, z_n, m_vr m, v2', e2]
        have z1 := oz_ne w3.2.2.2.2.2.1 e.2.1
        have z2 := oz_ne (fun b hb => Nat.le_trans (w3.2.2.2.2.2.2.1 b hb) (by decide)) e.2.2
        have b217 : p_X12_endings_b217 r3 (p_X12_endings_l123 r3 n) (some M) v1 (I si) v4 v5 v6 1 (I k) (J (mN e.1)) (I e.2.1) (I e.2.2) (I i) (some M) (J (mN u)) (I si) (I (after r.kind e.2.1)) (hM h f g) = p_X12_endings_l123 r3 n (some M) v1 (I si) v4 v5 v6 1 (I k) (J (mN e.1)) (I e.2.1) (I e.2.2) (I ((i + 1 : Nat) : Int)) (hM h f1 g1) := by
          simp only [p_X12_endings_b217, z_b, ite_ap, m_gR m 14 (by decide), m_aI m 14 8 (by decide) i8 (by decide), a7]
          by_cases q : I (oz r.form) = -1
          · rw [if_neg (fun z => z q), ← b240, z2.2 q]
          · rw [if_pos q, z2.1 q]; exact b240
        simp only [p_X12_endings_c123, p_X12_endings_b180, z_b, ite_ap, m_gI m, q1, e1, if_false, n10, m_gR m 9 (by decide), m_aI m 9 8 (by decide) i8 (by decide), a2, m_gR m 15 (by decide), m_aI m 15 8 (by decide) hk8 (by decide), hmo, m_gR m 8 (by decide), m_aI m 8 8 (by decide) i8 (by decide), a1, hbit, m_vr m]
        rw [if_pos hc.1, if_neg (fun q => q rfl), if_neg (fun q => q hc.2)]
        simp only [us, mO, p_X12_endings_b181, z_b, ite_ap, lgc_le0, np, if_false, m_gR m 13 (by decide), m_aI m 13 8 (by decide) i8 (by decide), a6]
        by_cases q : I (oz r.kind) = -1
        · rw [if_neg (fun z => z q), ← b217, z1.2 q]
        · rw [if_pos q, z1.1 q]; exact b217
end
