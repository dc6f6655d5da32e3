theorem cO_some {b : Bool} {fl : Nat} {e e' : Ev} {r : Ru} (hev : rev b fl e r = some e') : among r fl b = true ∧ ∃ u, usd r e.1 = some u ∧ e' = (u, after r.kind e.2.1, after r.form e.2.2) := by
  unfold rev at hev
  by_cases hc : among r fl b = true
  · rw [if_pos hc] at hev
    obtain ⟨u, hu, h'⟩ := Option.map_eq_some_iff.mp hev
    exact ⟨hc, u, hu, h'.symm⟩
  · rw [if_neg hc] at hev; cases hev
theorem cO_none {b : Bool} {fl : Nat} {e : Ev} {r : Ru} (hev : rev b fl e r = none) : among r fl b = true → cO (usd r e.1) = 0 := by
  intro hc
  unfold rev at hev
  rw [if_pos hc] at hev
  rw [Option.map_eq_none_iff.mp hev]; rfl
section
variable {h : ZH} {x ls lr km ko kb ks r1 a1 r2 a2 so : Nat} {rs : List Ru} {s : St}
theorem mse_l (lx : LxAt h x ls lr km ko kb ks) (sh : BkAt h km r1 a1 r2 a2 1548) (ho : StOk s) (hso : so ∉ [km, a1, a2]) {e : Ev} (he : EvOk e) {mf : Nat} (hmf : mf ≤ 63) :
    ∀ (t : List Ru) (i n : Nat) (g : FI) (l : Bk), rs.drop i = t → i + t.length = rs.length → t.length < n → RsIs h g lr rs [km, a1, a2] → StIs h g so s → BkIs g km a1 a2 1548 l → l.length + ((t.filterMap (rev true mf e)).flatMap (begs rs s.flags)).length ≤ 1548 →
      ∃ g', p_X2_makeSecondEndings_l3 n (some x) (some so) (I mf) (I (cN e.1)) (I e.2.1) (I e.2.2) (I i) (hI h g) = some ((), hI h g') ∧ BkIs g' km a1 a2 1548 (((t.filterMap (rev true mf e)).flatMap (begs rs s.flags)).foldl (addEv s.is) l) ∧ Fr g g' [km, a1, a2] := by
  intro t
  induction t with
  | nil =>
    intro i n g l h1 h2 h3 hr hs hb hroom
    obtain ⟨x0, x1, x2, x3, x4, x5, x6⟩ := lx
    obtain ⟨arr, nn, os, q1, q2, q3, q4, q5⟩ := id hr
    have hn := q1.2.2.1
    have hn2 := q1.2.2.2.1
    obtain ⟨n, rfl⟩ := Nat.exists_eq_add_of_lt h3
    refine ⟨g, ?_, hb, Fr.refl _ _⟩
    show p_X2_makeSecondEndings_c3 _ _ _ _ _ _ _ _ _ = _
    have e1 : I (rs.length : Int) ≤ I (i : Int) := by
      simp at h2
      rw [I_le (by omega) (by omega)]; omega
    have lsz := ls_size (f := g) q1 (by rw [q2, q3])
    simp only [p_X2_makeSecondEndings_c3, ite_ap, z_b, z_n, z_rt, z_vr, z_gI, z_gR, z_pI, z_pR, hI_K, hI_R, hI_I, hI_hI, hI_T, hI_N, hI_L, hI_D, sI_hI, wI_hI, if_true, x0, x2, q1.1, lsz, q3, e1]
  | cons r t ih =>
    intro i n g l h1 h2 h3 hr hs hb hroom
    obtain ⟨x0, x1, x2, x3, x4, x5, x6⟩ := id lx
    obtain ⟨arr, nn, os, q1, q2, q3, q4, q5⟩ := id hr
    have hn := q1.2.2.1
    have hn2 := q1.2.2.2.1
    have hi : i < rs.length := by simp only [List.length_cons] at h2; omega
    obtain ⟨r', w1, w2, w3, w4⟩ := q5 i hi
    have hrr : r' = r := by
      have : (rs.drop i)[0]? = some r := by rw [h1]; rfl
      rw [List.getElem?_drop] at this
      simpa [w1] using this
    subst hrr
    have hd : rs.drop (i + 1) = t := by rw [← List.tail_drop, h1]; rfl
    cases n with
    | zero => exact absurd h3 (Nat.not_lt_zero _)
    | succ n =>
      show ∃ g', p_X2_makeSecondEndings_c3 (p_X2_makeSecondEndings_l3 n) _ _ _ _ _ _ _ _ = _ ∧ _
      have e1 : ¬ (I (rs.length : Int) ≤ I (i : Int)) := by rw [I_le (by omega) (by omega)]; omega
      have e2 : I (i : Int) + 1 = I ((i + 1 : Nat) : Int) := I_add _ 1
      have lsz := ls_size (f := g) q1 (by rw [q2, q3])
      have lgt := ls_get (f := g) q1 (by rw [q2, q3]) (i := i) (by omega)
      have am := ru_among (h := h) (f := g) w2 w3 hmf true
      rw [if_pos rfl] at am
      have us := ru_used (h := h) (f := g) w2 w3 he.1 he.2.1 he.2.2.1
      have hlen : t.length < n := by simp only [List.length_cons] at h3; omega
      have hlen2 : i + 1 + t.length = rs.length := by simp only [List.length_cons] at h2; omega
      cases hev : rev true mf e r' with
      | none =>
        have hz := cO_none hev
        rw [List.filterMap_cons_none hev] at hroom ⊢
        obtain ⟨g', p1, p2, p3⟩ := ih (i + 1) n g l hd hlen2 hlen hr hs hb hroom
        refine ⟨g', ?_, p2, p3⟩
        rw [← p1]
        simp only [p_X2_makeSecondEndings_c3, p_X2_makeSecondEndings_b53, p_X2_makeSecondEndings_b81, ite_ap, z_b, z_n, z_rt, z_vr, z_gI, z_gR, z_pI, z_pR, hI_K, hI_R, hI_I, hI_hI, hI_T, hI_N, hI_L, hI_D, sI_hI, wI_hI, if_true, x0, x2, q1.1, lsz, q3, e1, e2, lgt, z_ct, w2.1, am, us, if_false]
        by_cases hc : among r' mf true = true
        · simp only [hc, ite_ap, z_b, z_n, z_rt, z_vr, z_gI, z_gR, z_pI, z_pR, hI_K, hI_R, hI_I, hI_hI, hI_T, hI_N, hI_L, hI_D, sI_hI, wI_hI, if_true, us, hz hc]
          rw [if_neg (by decide)]
        · rw [if_neg hc, if_pos rfl]
      | some e' =>
        rw [List.filterMap_cons_some hev, List.flatMap_cons] at hroom ⊢
        rw [List.length_append] at hroom
        have he' := rev_ok he w3 hev
        obtain ⟨hc, u, hu, hee⟩ := cO_some hev
        obtain ⟨g1, v2, v3, v4⟩ := mwb_eq lx sh ho hso he' hr hs hb (by omega)
        have hle := addEvs_le s.is (begs rs s.flags e') l
        obtain ⟨g', p1, p2, p3⟩ := ih (i + 1) n g1 _ hd hlen2 hlen (hr.fr v4) (hs.fr v4 hso) v3 (by omega)
        refine ⟨g', ?_, by rw [List.foldl_append]; exact p2, v4.trans p3⟩
        rw [← p1]
        subst hee
        rw [hu] at us
        have us' : p_X5_usedOn (some (os.getD i 0)) (I (cN e.1)) (hI h g) = some (I (cN u), hI h g) := us
        have nz : ¬ (I (cN u : Int) = 0) := by
          have hcr : 1 ≤ cN u ∧ cN u < 2147483648 := cN_range he'.1 he'.2.2.1
          rw [I_0, I_inj (by omega) (by omega)]; omega
        have kd := ru_kind (h := h) (f := g) w2 w3 e.2.1
        have fm := ru_form (h := h) (f := g) w2 w3 e.2.2
        have v2' : p_X2_makeWithBeginnings (some x) (some so) (I (cN u)) (I (after r'.kind e.2.1)) (I (after r'.form e.2.2)) (hI h g) = some ((), hI h g1) := v2
        simp only [p_X2_makeSecondEndings_c3, p_X2_makeSecondEndings_b53, p_X2_makeSecondEndings_b81, ite_ap, z_b, z_n, z_rt, z_vr, z_gI, z_gR, z_pI, z_pR, hI_K, hI_R, hI_I, hI_hI, hI_T, hI_N, hI_L, hI_D, sI_hI, wI_hI, if_true, x0, x2, q1.1, lsz, q3, e1, e2, lgt, z_ct, w2.1, am, hc, us', if_false]
        rw [if_neg (by decide)]
        simp only [ite_ap, z_b, z_n, z_rt, z_vr, z_gI, z_gR, z_pI, z_pR, hI_K, hI_R, hI_I, hI_hI, hI_T, hI_N, hI_L, hI_D, sI_hI, wI_hI, if_true, w2.1, us', nz, if_false, kd, fm, x0, v2', e2]
theorem rs_len {g : FI} {A : List Nat} (hr : RsIs h g lr rs A) : rs.length < 1000 := by
  obtain ⟨arr, nn, os, q1, q2, q3, q4, q5⟩ := hr
  have := q1.2.2.1
  have := q1.2.2.2.1
  omega
theorem mo_l (lx : LxAt h x ls lr km ko kb ks) (sh : BkAt h km r1 a1 r2 a2 1548) (ho : StOk s) (hso : so ∉ [km, a1, a2]) :
    ∀ (t : List Ru) (i n : Nat) (g : FI) (l : Bk), rs.drop i = t → i + t.length = rs.length → t.length < n → RsIs h g lr rs [km, a1, a2] → StIs h g so s → BkIs g km a1 a2 1548 l → l.length + (t.flatMap (ends rs s.flags (s.w, s.kind, s.form))).length ≤ 1548 →
      ∃ g', p_X2_makeOf_l19 n (some x) (some so) (I i) (hI h g) = some ((), hI h g') ∧ BkIs g' km a1 a2 1548 ((t.flatMap (ends rs s.flags (s.w, s.kind, s.form))).foldl (addEv s.is) l) ∧ Fr g g' [km, a1, a2] := by
  intro t
  have he : EvOk (s.w, s.kind, s.form) := ⟨ho.1, ho.2.1, ho.2.2.1, ho.2.2.2.2.1, ho.2.2.2.2.2.1⟩
  induction t with
  | nil =>
    intro i n g l h1 h2 h3 hr hs hb hroom
    obtain ⟨x0, x1, x2, x3, x4, x5, x6⟩ := lx
    obtain ⟨arr, nn, os, q1, q2, q3, q4, q5⟩ := id hr
    have hn := q1.2.2.1
    have hn2 := q1.2.2.2.1
    obtain ⟨n, rfl⟩ := Nat.exists_eq_add_of_lt h3
    refine ⟨g, ?_, hb, Fr.refl _ _⟩
    show p_X2_makeOf_c19 _ _ _ _ _ = _
    have e1 : I (rs.length : Int) ≤ I (i : Int) := by
      simp at h2
      rw [I_le (by omega) (by omega)]; omega
    have lsz := ls_size (f := g) q1 (by rw [q2, q3])
    simp only [p_X2_makeOf_c19, ite_ap, z_b, z_n, z_rt, z_vr, z_gI, z_gR, z_pI, z_pR, hI_K, hI_R, hI_I, hI_hI, hI_T, hI_N, hI_L, hI_D, sI_hI, wI_hI, if_true, x0, x2, q1.1, lsz, q3, e1]
  | cons r t ih =>
    intro i n g l h1 h2 h3 hr hs hb hroom
    obtain ⟨x0, x1, x2, x3, x4, x5, x6⟩ := id lx
    obtain ⟨arr, nn, os, q1, q2, q3, q4, q5⟩ := id hr
    have hn := q1.2.2.1
    have hn2 := q1.2.2.2.1
    have hi : i < rs.length := by simp only [List.length_cons] at h2; omega
    obtain ⟨r', w1, w2, w3, w4⟩ := q5 i hi
    have hrr : r' = r := by
      have : (rs.drop i)[0]? = some r := by rw [h1]; rfl
      rw [List.getElem?_drop] at this
      simpa [w1] using this
    subst hrr
    have hd : rs.drop (i + 1) = t := by rw [← List.tail_drop, h1]; rfl
    cases n with
    | zero => exact absurd h3 (Nat.not_lt_zero _)
    | succ n =>
      show ∃ g', p_X2_makeOf_c19 (p_X2_makeOf_l19 n) _ _ _ _ = _ ∧ _
      have e1 : ¬ (I (rs.length : Int) ≤ I (i : Int)) := by rw [I_le (by omega) (by omega)]; omega
      have e2 : I (i : Int) + 1 = I ((i + 1 : Nat) : Int) := I_add _ 1
      have lsz := ls_size (f := g) q1 (by rw [q2, q3])
      have lgt := ls_get (f := g) q1 (by rw [q2, q3]) (i := i) (by omega)
      have am := ru_among (h := h) (f := g) w2 w3 ho.2.2.2.1 true
      rw [if_pos rfl] at am
      have us := ru_used (h := h) (f := g) w2 w3 he.1 he.2.1 he.2.2.1
      obtain ⟨s0, s1, s2, s3, s4, s5⟩ := id hs
      have hlen : t.length < n := by simp only [List.length_cons] at h3; omega
      have hlen2 : i + 1 + t.length = rs.length := by simp only [List.length_cons] at h2; omega
      rw [List.flatMap_cons] at hroom ⊢
      rw [List.length_append] at hroom
      cases hev : rev true s.flags (s.w, s.kind, s.form) r' with
      | none =>
        have hz := cO_none hev
        have hen : ends rs s.flags (s.w, s.kind, s.form) r' = [] := by unfold ends; rw [hev]
        rw [hen] at hroom ⊢
        obtain ⟨g', p1, p2, p3⟩ := ih (i + 1) n g l hd hlen2 hlen hr hs hb (by omega)
        refine ⟨g', ?_, p2, p3⟩
        rw [← p1]
        simp only [p_X2_makeOf_c19, p_X2_makeOf_b70, p_X2_makeOf_b123, ite_ap, z_b, z_n, z_rt, z_vr, z_gI, z_gR, z_pI, z_pR, hI_K, hI_R, hI_I, hI_hI, hI_T, hI_N, hI_L, hI_D, sI_hI, wI_hI, if_true, x0, x2, q1.1, lsz, q3, e1, e2, lgt, z_ct, w2.1, s0, s1, s2, am, us, if_false]
        by_cases hc : among r' s.flags true = true
        · simp only [hc, ite_ap, z_b, z_n, z_rt, z_vr, z_gI, z_gR, z_pI, z_pR, hI_K, hI_R, hI_I, hI_hI, hI_T, hI_N, hI_L, hI_D, sI_hI, wI_hI, if_true, us, hz hc]
          rw [if_neg (by decide)]
        · rw [if_neg hc, if_pos rfl]
      | some e' =>
        have he' := rev_ok he w3 hev
        obtain ⟨hc, u, hu, hee⟩ := cO_some hev
        have hen : ends rs s.flags (s.w, s.kind, s.form) r' = begs rs s.flags e' ++ secs rs s.flags r'.more e' := by unfold ends; rw [hev]
        rw [hen] at hroom ⊢
        rw [List.length_append] at hroom
        have hle := addEvs_le s.is (begs rs s.flags e') l
        obtain ⟨g1, v2, v3, v4⟩ := mwb_eq lx sh ho hso he' hr hs hb (by omega)
        have hle2 := addEvs_le s.is (secs rs s.flags r'.more e') ((begs rs s.flags e').foldl (addEv s.is) l)
        obtain ⟨g2, y2, y3, y4⟩ := mse_l lx sh ho hso he' w3.2.2.2.2.2.2.2 rs 0 zFuel g1 _ rfl (by omega) (by have := rs_len hr; unfold zFuel; omega) (hr.fr v4) (hs.fr v4 hso) v3 (by unfold secs at hroom; omega)
        obtain ⟨g', p1, p2, p3⟩ := ih (i + 1) n g2 _ hd hlen2 hlen (hr.fr (v4.trans y4)) (hs.fr (v4.trans y4) hso) y3 (by unfold secs at hle2 hroom; omega)
        refine ⟨g', ?_, by rw [List.foldl_append, List.foldl_append]; exact p2, (v4.trans y4).trans p3⟩
        rw [← p1]
        subst hee
        rw [hu] at us
        have us' : p_X5_usedOn (some (os.getD i 0)) (I (cN s.w)) (hI h g) = some (I (cN u), hI h g) := us
        have nz : ¬ (I (cN u : Int) = 0) := by
          have hcr : 1 ≤ cN u ∧ cN u < 2147483648 := cN_range he'.1 he'.2.2.1
          rw [I_0, I_inj (by omega) (by omega)]; omega
        have kd := ru_kind (h := h) (f := g) w2 w3 s.kind
        have fm := ru_form (h := h) (f := g) w2 w3 s.form
        have v2' : p_X2_makeWithBeginnings (some x) (some so) (I (cN u)) (I (after r'.kind s.kind)) (I (after r'.form s.form)) (hI h g) = some ((), hI h g1) := v2
        have y2' : p_X2_makeSecondEndings_l3 zFuel (some x) (some so) (I r'.more) (I (cN u)) (I (after r'.kind s.kind)) (I (after r'.form s.form)) 0 (hI h g1) = some ((), hI h g2) := y2
        have mo : g1 (os.getD i 0) 7 = I r'.more := by rw [v4 _ w4]; exact w2.2.2.2.2.2.2.2.2
        simp only [p_X2_makeOf_c19, p_X2_makeOf_b70, p_X2_makeOf_b123, ite_ap, z_b, z_n, z_rt, z_vr, z_gI, z_gR, z_pI, z_pR, hI_K, hI_R, hI_I, hI_hI, hI_T, hI_N, hI_L, hI_D, sI_hI, wI_hI, if_true, x0, x2, q1.1, lsz, q3, e1, e2, lgt, z_ct, w2.1, s0, s1, s2, am, hc, us', if_false]
        rw [if_neg (by decide)]
        simp only [ite_ap, z_b, z_n, z_rt, z_vr, z_gI, z_gR, z_pI, z_pR, hI_K, hI_R, hI_I, hI_hI, hI_T, hI_N, hI_L, hI_D, sI_hI, wI_hI, if_true, w2.1, s1, us', nz, if_false, kd, fm, x0, s0, s3, s4, v2', mo, p_X2_makeSecondEndings, y2', e2]
theorem mo_eq (lx : LxAt h x ls lr km ko kb ks) (sh : BkAt h km r1 a1 r2 a2 1548) (ho : StOk s) (hso : so ∉ [km, a1, a2]) {g : FI} {l : Bk} (hr : RsIs h g lr rs [km, a1, a2]) (hs : StIs h g so s) (hb : BkIs g km a1 a2 1548 l) (room : l.length + (evs rs s).length ≤ 1548) :
    ∃ g', p_X2_makeOf (some x) (some so) (hI h g) = some ((), hI h g') ∧ BkIs g' km a1 a2 1548 ((evs rs s).foldl (addEv s.is) l) ∧ Fr g g' [km, a1, a2] := by
  have he : EvOk (s.w, s.kind, s.form) := ⟨ho.1, ho.2.1, ho.2.2.1, ho.2.2.2.2.1, ho.2.2.2.2.2.1⟩
  unfold evs at room ⊢
  rw [List.length_append] at room
  obtain ⟨g1, v2, v3, v4⟩ := mwb_eq lx sh ho hso he hr hs hb (by omega)
  have hle := addEvs_le s.is (begs rs s.flags (s.w, s.kind, s.form)) l
  obtain ⟨g2, y2, y3, y4⟩ := mo_l lx sh ho hso rs 0 zFuel g1 _ rfl (by omega) (by have := rs_len hr; unfold zFuel; omega) (hr.fr v4) (hs.fr v4 hso) v3 (by omega)
  refine ⟨g2, ?_, by rw [List.foldl_append]; exact y3, v4.trans y4⟩
  obtain ⟨s0, s1, s2, s3, s4, s5⟩ := hs
  have v2' : p_X2_makeWithBeginnings (some x) (some so) (I (cN s.w)) (I s.kind) (I s.form) (hI h g) = some ((), hI h g1) := v2
  have y2' : p_X2_makeOf_l19 zFuel (some x) (some so) 0 (hI h g1) = some ((), hI h g2) := y2
  simp only [p_X2_makeOf, ite_ap, z_b, z_n, z_rt, z_vr, z_gI, z_gR, z_pI, z_pR, hI_K, hI_R, hI_I, hI_hI, hI_T, hI_N, hI_L, hI_D, sI_hI, wI_hI, if_true, s0, s1, s3, s4, lx.1, v2', y2']
end
