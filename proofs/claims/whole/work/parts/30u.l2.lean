theorem bit_eq1 {x k : Nat} (hx : x < 2147483648) (hk : k < 32) : (((I (x : Int) >>> (I (k : Int) &&& 31)) &&& 1) = 1) ↔ x / 2 ^ k % 2 = 1 := by
  rw [I_msk k hk, I_shr hx hk, show (1 : Int32) = I ((1 : Nat) : Int) from rfl, I_and, show (1 : Nat) = 2 ^ 1 - 1 from rfl, Nat.and_two_pow_sub_one_eq_mod, I_inj (by omega) (by omega)]
  omega
theorem oz_ne {k : Option Nat} (hk : ∀ b, k = some b → b ≤ 3) (d : Nat) : (¬ (I (oz k) = -1) → I (oz k) = I (after k d)) ∧ (I (oz k) = -1 → after k d = d) := by
  cases k with
  | none => exact ⟨fun q => absurd rfl q, fun _ => rfl⟩
  | some b =>
    refine ⟨fun _ => rfl, fun q => ?_⟩
    have hb := hk b rfl
    have : I (b : Int) = I (-1) := q
    rw [I_inj (by omega) (by omega)] at this
    omega
section
variable {h : ZH} {M : Nat} {ar : Nat → Nat} {rs : List Ru} {s : St}
theorem beg_l (m : MAt h M ar) (ho : StOk s) {si : Nat} (hsi : si < 12) {e : Ev} (he : EvOk e) :
    ∀ (t : List Ru) (i n : Nat) (f : FI) (g : FL) (l : Bk), rs.drop i = t → i + t.length = rs.length → t.length < n → RsM f g ar M rs → StM f g ar si s → TC f g ar M l → l.length + (t.filterMap (rev false s.flags e)).length < 16384 →
      ∃ f' g', p_X12_begins_l18 n (some M) (J (mN e.1)) (I si) (I e.2.1) (I e.2.2) (I i) (hM h f g) = some ((), hM h f' g') ∧ TC f' g' ar M ((t.filterMap (rev false s.flags e)).foldl (addEv s.is) l) ∧ MF f f' g g' ar M := by
  intro t
  induction t with
  | nil =>
    intro i n f g l h1 h2 h3 hr hs hT hroom
    obtain ⟨q1, q2, q3⟩ := id hr
    obtain ⟨n, rfl⟩ := Nat.exists_eq_add_of_lt h3
    refine ⟨f, g, ?_, hT, MF.refl _ _ _ _⟩
    show p_X12_begins_c18 _ _ _ _ _ _ _ _ = _
    have e1 : I (rs.length : Int) ≤ I (i : Int) := by
      simp at h2
      rw [I_le (by omega) (by omega)]; omega
    simp only [p_X12_begins_c18, z_b, ite_ap, z_rt, m_gI m, q1, e1, if_true]
  | cons r t ih =>
    intro i n f g l h1 h2 h3 hr hs hT hroom
    obtain ⟨q1, q2, q3⟩ := id hr
    have hi : i < rs.length := by simp only [List.length_cons] at h2; omega
    have hd : rs[i]? = some r ∧ rs.drop (i + 1) = t := by
      refine ⟨?_, by rw [← List.tail_drop, h1]; rfl⟩
      have : (rs.drop i)[0]? = some r := by rw [h1]; rfl
      rw [List.getElem?_drop] at this
      simpa using this
    obtain ⟨r', w1, w2, w3⟩ := q3 i hi
    rw [hd.1] at w1
    cases w1
    cases n with
    | zero => exact absurd h3 (Nat.not_lt_zero _)
    | succ n =>
      show ∃ f' g', p_X12_begins_c18 (p_X12_begins_l18 n) _ _ _ _ _ _ _ = _ ∧ _
      simp only [List.length_cons] at h2 h3
      have i8 : i < 8 := by omega
      have e1 : ¬ (I (rs.length : Int) ≤ I (i : Int)) := by rw [I_le (by omega) (by omega)]; omega
      have e2 : I (i : Int) + 1 = I ((i + 1 : Nat) : Int) := I_add _ 1
      obtain ⟨a1, a2, a3, a4, a5, a6, a7, a8⟩ := id w2
      obtain ⟨s1, s2, s3, s4, s5⟩ := id hs
      have hbit := bit_eq1 (x := s.flags) (k := r.flag) (by have := ho.2.2.2.1; omega) (by have := w3.1; omega)
      have us := uses_eq (h := h) (f := f) m i8 w2 w3 (w := e.1) ⟨he.1, he.2.1, he.2.2.1⟩
      -- no event: on with the next rule
      have skip : ∀ {x : Int64}, x ≤ 0 → rev false s.flags e r = none → p_X12_begins_b68 (p_X12_begins_l18 n) (some M) (J (mN e.1)) (I si) (I e.2.1) (I e.2.2) (I i) x (hM h f g) = p_X12_begins_l18 n (some M) (J (mN e.1)) (I si) (I e.2.1) (I e.2.2) (I ((i + 1 : Nat) : Int)) (hM h f g) := by
        intro x hx _
        simp only [p_X12_begins_b68, p_X12_begins_b135, z_n, ite_ap, lgc_le0, hx, if_true, e2]
      cases hev : rev false s.flags e r with
      | none =>
        rw [List.filterMap_cons_none hev] at hroom ⊢
        obtain ⟨f', g', p1, p2, p3⟩ := ih (i + 1) n f g l hd.2 (by omega) (by omega) hr hs hT hroom
        refine ⟨f', g', ?_, p2, p3⟩
        rw [← p1]
        simp only [p_X12_begins_c18, p_X12_begins_b67, z_b, ite_ap, m_gI m, q1, e1, if_false, m_gR m 9 (by decide), m_aI m 9 8 (by decide) i8 (by decide), a2, m_gR m 3 (by decide), m_aI m 3 12 (by decide) hsi (by decide), s2, m_gR m 8 (by decide), m_aI m 8 8 (by decide) i8 (by decide), a1, hbit, m_vr m]
        by_cases hE : r.isEnd = true
        · rw [if_pos hE, if_pos (by decide)]
          exact skip (by decide) hev
        · rw [if_neg hE, if_neg (by decide)]
          by_cases hB : s.flags / 2 ^ r.flag % 2 = 1
          · rw [if_neg (fun q => q hB)]
            have ham : among r s.flags false = true := by
              unfold among
              rw [Bool.and_eq_true, beq_iff_eq, beq_iff_eq]
              exact ⟨by simpa using hE, hB⟩
            have hu : usd r e.1 = none := by
              unfold rev at hev
              rw [if_pos ham] at hev
              exact Option.map_eq_none_iff.mp hev
            rw [hu] at us
            simp only [us]
            exact skip (by decide) hev
          · rw [if_pos hB]
            exact skip (by decide) hev
      | some e' =>
        rw [List.filterMap_cons_some hev] at hroom ⊢
        simp only [List.length_cons] at hroom
        have he' := rev_ok he w3 hev
        obtain ⟨hc, u, hu, hee⟩ := cO_some hev
        subst hee
        obtain ⟨f1, g1, v1, v2, v3⟩ := keeps_tc m hT he' ho.2.2.2.2.2.2 (by omega)
        have hle2 : (addEv s.is l (u, after r.kind e.2.1, after r.form e.2.2)).length ≤ l.length + 1 := bput_le _ _ _
        obtain ⟨f', g', p1, p2, p3⟩ := ih (i + 1) n f1 g1 _ hd.2 (by omega) (by omega) (hr.fr v3 m) (hs.fr v3 m) v2 (by omega)
        refine ⟨f', g', ?_, p2, v3.trans p3⟩
        rw [← p1]
        rw [hu] at us
        unfold among at hc
        rw [Bool.and_eq_true, beq_iff_eq, beq_iff_eq] at hc
        have hE : ¬ r.isEnd = true := by rw [hc.1]; decide
        have hm1 := mN_pos he'.2.1
        have hm2 := mN_range he'.1 (show (u : Wd).length ≤ 12 by have : (u : Wd).length ≤ 10 := he'.2.2.1; omega)
        have hm1' : 1 ≤ mN u := hm1
        have hm2' : mN u < 281474976710656 := hm2
        have np : ¬ (J (mN u : Int) ≤ 0) := by rw [litJ, J_le (by omega) (by omega)]; omega
        have v1' : p_X12_keeps (some M) (J (mN u)) (I (after r.kind e.2.1)) (I (after r.form e.2.2)) (I s.is) (hM h f g) = some ((), hM h f1 g1) := v1
        have b126 : p_X12_begins_b126 (p_X12_begins_l18 n) (some M) (J (mN e.1)) (I si) (I e.2.1) (I e.2.2) (I i) (some M) (J (mN u)) (I (after r.kind e.2.1)) (I (after r.form e.2.2)) (hM h f g) = p_X12_begins_l18 n (some M) (J (mN e.1)) (I si) (I e.2.1) (I e.2.2) (I ((i + 1 : Nat) : Int)) (hM h f1 g1) := by
          simp only [p_X12_begins_b126, p_X12_begins_b135, z_b, z_n, m_gR m 6 (by decide), m_aI m 6 12 (by decide) hsi (by decide), s5, m_vr m, v1', e2]
        have z1 := oz_ne w3.2.2.2.2.2.1 e.2.1
        have z2 := oz_ne (fun b hb => Nat.le_trans (w3.2.2.2.2.2.2.1 b hb) (by decide)) e.2.2
        have b103 : p_X12_begins_b103 (p_X12_begins_l18 n) (some M) (J (mN e.1)) (I si) (I e.2.1) (I e.2.2) (I i) (some M) (J (mN u)) (I (after r.kind e.2.1)) (hM h f g) = p_X12_begins_l18 n (some M) (J (mN e.1)) (I si) (I e.2.1) (I e.2.2) (I ((i + 1 : Nat) : Int)) (hM h f1 g1) := by
          simp only [p_X12_begins_b103, z_b, ite_ap, m_gR m 14 (by decide), m_aI m 14 8 (by decide) i8 (by decide), a7]
          by_cases q : I (oz r.form) = -1
          · rw [if_neg (fun z => z q), ← b126, z2.2 q]
          · rw [if_pos q, z2.1 q]; exact b126
        simp only [p_X12_begins_c18, p_X12_begins_b67, z_b, ite_ap, m_gI m, q1, e1, if_false, m_gR m 9 (by decide), m_aI m 9 8 (by decide) i8 (by decide), a2, m_gR m 3 (by decide), m_aI m 3 12 (by decide) hsi (by decide), s2, m_gR m 8 (by decide), m_aI m 8 8 (by decide) i8 (by decide), a1, hbit, m_vr m]
        rw [if_neg hE, if_neg (by decide), if_neg (fun q => q hc.2)]
        simp only [us, mO, p_X12_begins_b68, z_b, ite_ap, lgc_le0, np, if_false, m_gR m 13 (by decide), m_aI m 13 8 (by decide) i8 (by decide), a6]
        by_cases q : I (oz r.kind) = -1
        · rw [if_neg (fun z => z q), ← b103, z1.2 q]
        · rw [if_pos q, z1.1 q]; exact b103
end
