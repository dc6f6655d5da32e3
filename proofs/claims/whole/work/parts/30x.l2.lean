section
variable {h : ZH} {M : Nat} {ar : Nat → Nat} {rs : List Ru} {s : St}
theorem end_l (m : MAt h M ar) (ho : StOk s) {si : Nat} (hsi : si < 12) {e : Ev} (he : EvOk e) :
    ∀ (t : List Ru) (i n : Nat) (f : FI) (g : FL) (l : Bk), rs.drop i = t → i + t.length = rs.length → t.length < n → RsM f g ar M rs → StM f g ar si s → TC f g ar M l → l.length + (t.flatMap (ends rs s.flags e)).length < 16384 →
      ∃ f' g', p_X12_endings_l3 n (some M) (J (mN e.1)) (I si) (I s.flags) (I e.2.1) (I e.2.2) 1 (I i) (hM h f g) = some ((), hM h f' g') ∧ TC f' g' ar M ((t.flatMap (ends rs s.flags e)).foldl (addEv s.is) l) ∧ MF f f' g g' ar M := by
  intro t
  induction t with
  | nil =>
    intro i n f g l h1 h2 h3 hr hs hT hroom
    obtain ⟨q1, q2, q3⟩ := id hr
    obtain ⟨n, rfl⟩ := Nat.exists_eq_add_of_lt h3
    refine ⟨f, g, ?_, hT, MF.refl _ _ _ _⟩
    show p_X12_endings_c3 _ _ _ _ _ _ _ _ _ _ = _
    have e1 : I (rs.length : Int) ≤ I (i : Int) := by
      simp at h2
      rw [I_le (by omega) (by omega)]; omega
    simp only [p_X12_endings_c3, z_b, z_rt, ite_ap, m_gI m, q1, e1, if_true]
  | cons r t ih =>
    intro i n f g l h1 h2 h3 hr hs hT hroom
    obtain ⟨q1, q2, q3⟩ := id hr
    have hi : i < rs.length := by simp only [List.length_cons] at h2; omega
    have hd : rs[i]? = some r ∧ rs.drop (i + 1) = t := by
      refine ⟨?_, by rw [← List.tail_drop, h1]; rfl⟩
      have : (rs.drop i)[0]? = some r := by rw [h1]; rfl
      rw [List.getElem?_drop] at this
      simpa using this
    obtain ⟨r', w1, w2, w3⟩ := q3 i hi
    rw [hd.1] at w1
    cases w1
    cases n with
    | zero => exact absurd h3 (Nat.not_lt_zero _)
    | succ n =>
      show ∃ f' g', p_X12_endings_c3 (p_X12_endings_l3 n) _ _ _ _ _ _ _ _ _ = _ ∧ _
      simp only [List.length_cons] at h2 h3
      have i8 : i < 8 := by omega
      have e1 : ¬ (I (rs.length : Int) ≤ I (i : Int)) := by rw [I_le (by omega) (by omega)]; omega
      have e2 : I (i : Int) + 1 = I ((i + 1 : Nat) : Int) := I_add _ 1
      obtain ⟨a1, a2, a3, a4, a5, a6, a7, a8⟩ := id w2
      have hbit := bit_eq1 (x := s.flags) (k := r.flag) (by have := ho.2.2.2.1; omega) (by have := w3.1; omega)
      have us := uses_eq (h := h) (f := f) m i8 w2 w3 (w := e.1) ⟨he.1, he.2.1, he.2.2.1⟩
      rw [List.flatMap_cons] at hroom ⊢
      rw [List.length_append] at hroom
      have skip : ∀ {x : Int64}, x ≤ 0 → p_X12_endings_b50 (p_X12_endings_l3 n) (some M) (J (mN e.1)) (I si) (I s.flags) (I e.2.1) (I e.2.2) 1 (I i) x (hM h f g) = p_X12_endings_l3 n (some M) (J (mN e.1)) (I si) (I s.flags) (I e.2.1) (I e.2.2) 1 (I ((i + 1 : Nat) : Int)) (hM h f g) := by
        intro x hx
        simp only [p_X12_endings_b50, p_X12_endings_b249, z_n, ite_ap, lgc_le0, hx, if_true, e2]
      cases hev : rev true s.flags e r with
      | none =>
        have hen : ends rs s.flags e r = [] := by unfold ends; rw [hev]
        rw [hen] at hroom ⊢
        obtain ⟨f', g', p1, p2, p3⟩ := ih (i + 1) n f g l hd.2 (by omega) (by omega) hr hs hT (by simpa using hroom)
        refine ⟨f', g', ?_, p2, p3⟩
        rw [← p1]
        simp only [p_X12_endings_c3, p_X12_endings_b49, z_b, ite_ap, m_gI m, q1, e1, if_false, m_gR m 9 (by decide), m_aI m 9 8 (by decide) i8 (by decide), a2, m_gR m 8 (by decide), m_aI m 8 8 (by decide) i8 (by decide), a1, hbit, m_vr m]
        by_cases hE : r.isEnd = true
        · rw [if_pos hE, if_neg (fun q => q rfl)]
          by_cases hB : s.flags / 2 ^ r.flag % 2 = 1
          · rw [if_neg (fun q => q hB)]
            have ham : among r s.flags true = true := by
              unfold among
              rw [Bool.and_eq_true, beq_iff_eq, beq_iff_eq]
              exact ⟨hE, hB⟩
            have hu : usd r e.1 = none := by
              unfold rev at hev
              rw [if_pos ham] at hev
              exact Option.map_eq_none_iff.mp hev
            rw [hu] at us
            simp only [us]
            exact skip (by decide)
          · rw [if_pos hB]
            exact skip (by decide)
        · rw [if_neg hE, if_pos (by decide)]
          exact skip (by decide)
      | some e' =>
        have he' := rev_ok he w3 hev
        obtain ⟨hc, u, hu, hee⟩ := cO_some hev
        have hen : ends rs s.flags e r = begs rs s.flags e' ++ secs rs s.flags r.more e' := by unfold ends; rw [hev]
        rw [hen] at hroom ⊢
        rw [List.length_append] at hroom
        subst hee
        obtain ⟨f1, g1, v2, v3, v4'⟩ := beg_eq m ho hsi he' hr hs hT (by omega)
        have hle := addEvs_le s.is (begs rs s.flags (u, after r.kind e.2.1, after r.form e.2.2)) l
        have hmo : f1 (ar 15) i = I r.more := by rw [v4'.arI m (j := 15) (by decide) (by decide) (by decide) (by decide)]; exact a8
        obtain ⟨f2, g2, y2, y3, y4⟩ := end2_l m ho hsi he' (p_X12_endings_l3 n) (J (mN e.1)) (I s.flags) (I e.2.1) (I e.2.2) i8 w3.2.2.2.2.2.2.2 rs 0 zFuel f1 g1 _ rfl (by omega) (by unfold zFuel; omega) hmo (hr.fr v4' m) (hs.fr v4' m) v3 (by unfold secs at hroom; omega)
        have hle2 := addEvs_le s.is (secs rs s.flags r.more (u, after r.kind e.2.1, after r.form e.2.2)) ((begs rs s.flags (u, after r.kind e.2.1, after r.form e.2.2)).foldl (addEv s.is) l)
        obtain ⟨f', g', p1, p2, p3⟩ := ih (i + 1) n f2 g2 _ hd.2 (by omega) (by omega) (hr.fr (v4'.trans y4) m) (hs.fr (v4'.trans y4) m) y3 (by unfold secs at hle2 hroom; omega)
        refine ⟨f', g', ?_, by rw [List.foldl_append, List.foldl_append]; exact p2, (v4'.trans y4).trans p3⟩
        rw [← p1]
        rw [hu] at us
        unfold among at hc
        rw [Bool.and_eq_true, beq_iff_eq, beq_iff_eq] at hc
        have hm1' : 1 ≤ mN u := mN_pos he'.2.1
        have hm2' : mN u < 281474976710656 := mN_range he'.1 (show (u : Wd).length ≤ 12 by have : (u : Wd).length ≤ 10 := he'.2.2.1; omega)
        have np : ¬ (J (mN u : Int) ≤ 0) := by rw [litJ, J_le (by omega) (by omega)]; omega
        have v2' : p_X12_begins (some M) (J (mN u)) (I si) (I (after r.kind e.2.1)) (I (after r.form e.2.2)) (hM h f g) = some ((), hM h f1 g1) := v2
        have b107 : p_X12_endings_b107 (p_X12_endings_l3 n) (some M) (J (mN e.1)) (I si) (I s.flags) (I e.2.1) (I e.2.2) 1 (I i) (J (mN u)) (I (after r.kind e.2.1)) (I (after r.form e.2.2)) (hM h f g) = p_X12_endings_l3 n (some M) (J (mN e.1)) (I si) (I s.flags) (I e.2.1) (I e.2.2) 1 (I ((i + 1 : Nat) : Int)) (hM h f2 g2) := by
          rw [← y2]
          simp only [p_X12_endings_b107, z_b, m_vr m, v2']
          rfl
        have z1 := oz_ne w3.2.2.2.2.2.1 e.2.1
        have z2 := oz_ne (fun b hb => Nat.le_trans (w3.2.2.2.2.2.2.1 b hb) (by decide)) e.2.2
        have b82 : p_X12_endings_b82 (p_X12_endings_l3 n) (some M) (J (mN e.1)) (I si) (I s.flags) (I e.2.1) (I e.2.2) 1 (I i) (J (mN u)) (I (after r.kind e.2.1)) (hM h f g) = p_X12_endings_l3 n (some M) (J (mN e.1)) (I si) (I s.flags) (I e.2.1) (I e.2.2) 1 (I ((i + 1 : Nat) : Int)) (hM h f2 g2) := by
          simp only [p_X12_endings_b82, z_b, ite_ap, m_gR m 14 (by decide), m_aI m 14 8 (by decide) i8 (by decide), a7]
          by_cases q : I (oz r.form) = -1
          · rw [if_neg (fun z => z q), ← b107, z2.2 q]
          · rw [if_pos q, z2.1 q]; exact b107
        simp only [p_X12_endings_c3, p_X12_endings_b49, z_b, ite_ap, m_gI m, q1, e1, if_false, m_gR m 9 (by decide), m_aI m 9 8 (by decide) i8 (by decide), a2, m_gR m 8 (by decide), m_aI m 8 8 (by decide) i8 (by decide), a1, hbit, m_vr m]
        rw [if_pos hc.1, if_neg (fun q => q rfl), if_neg (fun q => q hc.2)]
        simp only [us, mO, p_X12_endings_b50, z_b, ite_ap, lgc_le0, np, if_false, m_gR m 13 (by decide), m_aI m 13 8 (by decide) i8 (by decide), a6]
        by_cases q : I (oz r.kind) = -1
        · rw [if_neg (fun z => z q), ← b82, z1.2 q]
        · rw [if_pos q, z1.1 q]; exact b82
end
