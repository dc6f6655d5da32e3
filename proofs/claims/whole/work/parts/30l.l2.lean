theorem BkIs.fr {f g : FI} {k a1 a2 m : Nat} {l : Bk} {A : List Nat} (b : BkIs f k a1 a2 m l) (fr : Fr f g A) (h1 : k ∉ A) (h2 : a1 ∉ A) (h3 : a2 ∉ A) : BkIs g k a1 a2 m l := by
  unfold BkIs at b ⊢
  rw [fr _ h1, fr _ h2, fr _ h3]
  exact b
theorem drop_at {α : Type} {l t : List α} {e : α} {i : Nat} (h : l.drop i = e :: t) : l[i]? = some e ∧ l.drop (i + 1) = t := by
  refine ⟨?_, by rw [← List.tail_drop, h]; rfl⟩
  have : (l.drop i)[0]? = some e := by rw [h]; rfl
  rw [List.getElem?_drop] at this
  simpa using this
section
variable {h : ZH} {x ls lr km ko kb ks m1 p1 m2 p2 o1 q1 o2 q2 b1 c1 b2 c2 s1 t1 s2 t2 : Nat}
theorem sug9 (lx : LxAt h x ls lr km ko kb ks) (sm : BkAt h km m1 p1 m2 p2 1548) (so : BkAt h ko o1 q1 o2 q2 10) (sb : BkAt h kb b1 c1 b2 c2 10) (ss : BkAt h ks s1 t1 s2 t2 1558) (dj : ∀ a ∈ [km, p1, p2, ko, q1, q2, kb, c1, c2], a ∉ [ks, t1, t2]) {lm lo lb : Bk} (hlo : lo.length ≤ 10) :
    ∀ (t : Bk) (i n : Nat) (g : FI) (l : Bk), lm.drop i = t → i + t.length = lm.length → t.length < n → BkIs g km p1 p2 1548 lm → BkIs g ko q1 q2 10 lo → BkIs g kb c1 c2 10 lb → BkIs g ks t1 t2 1558 l → l.length + t.length ≤ 1548 →
      ∃ g', p_X2_listSuggestable_l9 n (some x) (I i) (hI h g) = some ((), hI h g') ∧ BkIs g' ks t1 t2 1558 (sugO lo (sugM lb t l)) ∧ Fr g g' [ks, t1, t2] := by
  intro t
  induction t with
  | nil =>
    intro i n g l h1 h2 h3 hm ho hb hs hroom
    obtain ⟨n, rfl⟩ := Nat.exists_eq_add_of_lt h3
    obtain ⟨g', w1, w2, w3⟩ := sug68 lx so ss ⟨dj ko (by simp), dj q1 (by simp), dj q2 (by simp)⟩ lo 0 zFuel g l rfl (by omega) (by unfold zFuel; omega) ho hs (by omega)
    refine ⟨g', ?_, w2, w3⟩
    show p_X2_listSuggestable_c9 _ _ _ _ = _
    have := hm.2.2.1
    have e1 : I (lm.length : Int) ≤ I (i : Int) := by
      simp at h2
      rw [I_le (by omega) (by omega)]; omega
    have w1' : p_X2_listSuggestable_l68 zFuel (some x) 0 (hI h g) = some ((), hI h g') := w1
    simp only [p_X2_listSuggestable_c9, p_X2_listSuggestable_b66, ite_ap, z_b, z_n, z_rt, z_vr, z_gI, z_gR, z_pI, z_pR, hI_K, hI_R, hI_I, hI_hI, hI_T, hI_N, hI_L, hI_D, sI_hI, wI_hI, if_true, lx.1, lx.2.2.2.1, sm.1, bk_count sm hm, e1, w1']
  | cons e t ih =>
    intro i n g l h1 h2 h3 hm ho hb hs hroom
    have hol := hm.2.2.1
    have hi : i < lm.length := by simp only [List.length_cons] at h2; omega
    obtain ⟨hat, hd⟩ := drop_at h1
    have he : cd lm i = e.1 ∧ vl lm i = e.2 := by
      unfold cd vl
      rw [List.getD_eq_getElem?_getD, hat]; exact ⟨rfl, rfl⟩
    cases n with
    | zero => exact absurd h3 (Nat.not_lt_zero _)
    | succ n =>
      show ∃ g', p_X2_listSuggestable_c9 (p_X2_listSuggestable_l9 n) _ _ _ = _ ∧ _
      simp only [List.length_cons] at h2 h3 hroom
      have e1 : ¬ (I (lm.length : Int) ≤ I (i : Int)) := by rw [I_le (by omega) (by omega)]; omega
      have e2 : I (i : Int) + 1 = I ((i + 1 : Nat) : Int) := I_add _ 1
      obtain ⟨hw, hv⟩ := hm.2.2.2.2.2 i hi
      have wo := bk_wordOn sm hm hi
      have vo := bk_valueOn sm hm hi
      rw [he.1] at hw wo
      rw [he.2] at hv vo
      have hsk : (e.2 / 65536 % 2 == 1 && bget lb e.1 == 0) = false → ∃ g', p_X2_listSuggestable_c9 (p_X2_listSuggestable_l9 n) (some x) (I i) (hI h g) = some ((), hI h g') ∧ BkIs g' ks t1 t2 1558 (sugO lo (sugM lb (e :: t) l)) ∧ Fr g g' [ks, t1, t2] := by
        intro hf
        obtain ⟨g', w1, w2, w3⟩ := ih (i + 1) n g l hd (by omega) (by omega) hm ho hb hs (by omega)
        have hM : sugM lb (e :: t) l = sugM lb t l := by unfold sugM; rw [List.filter_cons, hf]; rfl
        refine ⟨g', ?_, by rw [hM]; exact w2, w3⟩
        rw [← w1]
        simp only [p_X2_listSuggestable_c9, p_X2_listSuggestable_b60, ite_ap, z_b, z_n, z_rt, z_vr, z_gI, z_gR, z_pI, z_pR, hI_K, hI_R, hI_I, hI_hI, hI_T, hI_N, hI_L, hI_D, sI_hI, wI_hI, if_true, lx.1, lx.2.2.2.1, sm.1, bk_count sm hm, e1, if_false, wo, vo, bit16 hv, e2]
        by_cases hc : e.2 / 65536 % 2 = 1
        · rw [if_neg (fun q => q hc)]
          have hnb : ¬ bget lb e.1 = 0 := fun q => by
            rw [hc, q] at hf; exact absurd hf (by decide)
          simp only [ite_ap, z_b, z_n, z_rt, z_vr, z_gI, z_gR, z_pI, z_pR, hI_K, hI_R, hI_I, hI_hI, hI_T, hI_N, hI_L, hI_D, sI_hI, wI_hI, if_true, lx.1, isBarred_eq lx sb hb hw, hnb, if_false]
          rw [if_pos (by decide)]
        · rw [if_pos hc]
      by_cases hf : (e.2 / 65536 % 2 == 1 && bget lb e.1 == 0) = true
      · have hf2 := hf
        rw [Bool.and_eq_true, beq_iff_eq, beq_iff_eq] at hf2
        obtain ⟨g1, v1, v2, v3⟩ := bk_store ss hs (w := e.1) (v := 1) hw (by decide) (Or.inr (by omega))
        have hle := bput_le l e.1 1
        obtain ⟨g', w1, w2, w3⟩ := ih (i + 1) n g1 _ hd (by omega) (by omega) (hm.fr v3 (dj km (by simp)) (dj p1 (by simp)) (dj p2 (by simp))) (ho.fr v3 (dj ko (by simp)) (dj q1 (by simp)) (dj q2 (by simp))) (hb.fr v3 (dj kb (by simp)) (dj c1 (by simp)) (dj c2 (by simp))) v2 (by omega)
        have hM : sugM lb (e :: t) l = sugM lb t (bput l e.1 1) := by unfold sugM; rw [List.filter_cons, hf]; rfl
        refine ⟨g', ?_, by rw [hM]; exact w2, v3.trans w3⟩
        rw [← w1]
        have v1' : p_X10_store (some ks) (I (e.1 : Int)) 1 (hI h g) = some ((), hI h g1) := v1
        simp only [p_X2_listSuggestable_c9, p_X2_listSuggestable_b60, ite_ap, z_b, z_n, z_rt, z_vr, z_gI, z_gR, z_pI, z_pR, hI_K, hI_R, hI_I, hI_hI, hI_T, hI_N, hI_L, hI_D, sI_hI, wI_hI, if_true, lx.1, lx.2.2.2.1, lx.2.2.2.2.2.2, sm.1, ss.1, bk_count sm hm, e1, if_false, wo, vo, bit16 hv, e2]
        rw [if_neg (fun q => q hf2.1)]
        simp only [ite_ap, z_b, z_n, z_rt, z_vr, z_gI, z_gR, z_pI, z_pR, hI_K, hI_R, hI_I, hI_hI, hI_T, hI_N, hI_L, hI_D, sI_hI, wI_hI, if_true, lx.1, isBarred_eq lx sb hb hw, hf2.2, lx.2.2.2.2.2.2, ss.1, v1', not_true_eq_false, if_false, e2]
      · exact hsk (by simpa using hf)
/-- what may be suggested -/
theorem sug_eq (lx : LxAt h x ls lr km ko kb ks) (sm : BkAt h km m1 p1 m2 p2 1548) (so : BkAt h ko o1 q1 o2 q2 10) (sb : BkAt h kb b1 c1 b2 c2 10) (ss : BkAt h ks s1 t1 s2 t2 1558) (dj : ∀ a ∈ [km, p1, p2, ko, q1, q2, kb, c1, c2], a ∉ [ks, t1, t2]) {lm lo lb ll : Bk} {g : FI}
    (hm : BkIs g km p1 p2 1548 lm) (ho : BkIs g ko q1 q2 10 lo) (hb : BkIs g kb c1 c2 10 lb) (hs : BkIs g ks t1 t2 1558 ll) :
    ∃ g', p_X2_listSuggestable (some x) (hI h g) = some ((), hI h g') ∧ BkIs g' ks t1 t2 1558 (sugO lo (sugM lb lm [])) ∧ Fr g g' [ks, t1, t2] := by
  obtain ⟨v1, v2⟩ := bk_clear ss hs
  have v3 : Fr g (zu g ks 3 0) [ks, t1, t2] := Fr.zu (by simp)
  obtain ⟨g', w1, w2, w3⟩ := sug9 lx sm so sb ss dj ho.2.2.1 lm 0 zFuel (zu g ks 3 0) [] rfl (by omega) (by have := hm.2.2.1; unfold zFuel; omega) (hm.fr v3 (dj km (by simp)) (dj p1 (by simp)) (dj p2 (by simp))) (ho.fr v3 (dj ko (by simp)) (dj q1 (by simp)) (dj q2 (by simp))) (hb.fr v3 (dj kb (by simp)) (dj c1 (by simp)) (dj c2 (by simp))) v2 (by have := hm.2.2.1; simp; omega)
  refine ⟨g', ?_, w2, v3.trans w3⟩
  have w1' : p_X2_listSuggestable_l9 zFuel (some x) 0 (hI h (zu g ks 3 0)) = some ((), hI h g') := w1
  simp only [p_X2_listSuggestable, ite_ap, z_b, z_n, z_rt, z_vr, z_gI, z_gR, z_pI, z_pR, hI_K, hI_R, hI_I, hI_hI, hI_T, hI_N, hI_L, hI_D, sI_hI, wI_hI, if_true, lx.1, lx.2.2.2.2.2.2, ss.1, v1, w1']
/-- all made words anew -/
theorem rmk_l (lx : LxAt h x ls lr km ko kb ks) (sm : BkAt h km m1 p1 m2 p2 1548) (so : BkAt h ko o1 q1 o2 q2 10) (sb : BkAt h kb b1 c1 b2 c2 10) (ss : BkAt h ks s1 t1 s2 t2 1558) (dj : ∀ a ∈ [km, p1, p2, ko, q1, q2, kb, c1, c2], a ∉ [ks, t1, t2]) (dm : ∀ a ∈ [ko, q1, q2, kb, c1, c2, ks, t1, t2], a ∉ [km, p1, p2]) {rs : List Ru} (hrl : rs.length ≤ 8) {sl : List St} {lo lb ll : Bk} :
    ∀ (t : List St) (i n : Nat) (g : FI) (l : Bk), sl.drop i = t → i + t.length = sl.length → t.length < n → RsIs h g lr rs [km, p1, p2] → SsIs h g ls sl [km, p1, p2] → BkIs g km p1 p2 1548 l → BkIs g ko q1 q2 10 lo → BkIs g kb c1 c2 10 lb → BkIs g ks t1 t2 1558 ll → l.length + 129 * t.length ≤ 1548 →
      ∃ g', p_X2_remake_l9 n (some x) (I i) (hI h g) = some ((), hI h g') ∧ BkIs g' km p1 p2 1548 (madeOf rs t l) ∧ BkIs g' ks t1 t2 1558 (sugO lo (sugM lb (madeOf rs t l) [])) ∧ Fr g g' [km, p1, p2, ks, t1, t2] := by
  intro t
  induction t with
  | nil =>
    intro i n g l h1 h2 h3 hr hsl hm ho hb hs hroom
    obtain ⟨n, rfl⟩ := Nat.exists_eq_add_of_lt h3
    obtain ⟨arr, nn, os, y1, y2, y3, y4, y5⟩ := id hsl
    have := y1.2.2.1
    have := y1.2.2.2.1
    obtain ⟨g', w1, w2, w3⟩ := sug_eq lx sm so sb ss dj hm ho hb hs
    refine ⟨g', ?_, hm.fr w3 (dj km (by simp)) (dj p1 (by simp)) (dj p2 (by simp)), w2, w3.mono (by simp)⟩
    show p_X2_remake_c9 _ _ _ _ = _
    have e1 : I (sl.length : Int) ≤ I (i : Int) := by
      simp at h2
      rw [I_le (by omega) (by omega)]; omega
    have lsz := ls_size (f := g) y1 (by rw [y2, y3])
    simp only [p_X2_remake_c9, p_X2_remake_b45, ite_ap, z_b, z_n, z_rt, z_vr, z_gI, z_gR, z_pI, z_pR, hI_K, hI_R, hI_I, hI_hI, hI_T, hI_N, hI_L, hI_D, sI_hI, wI_hI, if_true, lx.1, lx.2.1, y1.1, lsz, y3, e1, w1]
  | cons s t ih =>
    intro i n g l h1 h2 h3 hr hsl hm ho hb hs hroom
    obtain ⟨arr, nn, os, y1, y2, y3, y4, y5⟩ := id hsl
    have hn := y1.2.2.1
    have hn2 := y1.2.2.2.1
    have hi : i < sl.length := by simp only [List.length_cons] at h2; omega
    obtain ⟨hat, hd⟩ := drop_at h1
    obtain ⟨s', u1, u2, u3, u4⟩ := y5 i hi
    rw [hat] at u1
    cases u1
    cases n with
    | zero => exact absurd h3 (Nat.not_lt_zero _)
    | succ n =>
      show ∃ g', p_X2_remake_c9 (p_X2_remake_l9 n) _ _ _ = _ ∧ _
      simp only [List.length_cons] at h2 h3 hroom
      have e1 : ¬ (I (sl.length : Int) ≤ I (i : Int)) := by rw [I_le (by omega) (by omega)]; omega
      have e2 : I (i : Int) + 1 = I ((i + 1 : Nat) : Int) := I_add _ 1
      have lsz := ls_size (f := g) y1 (by rw [y2, y3])
      have lgt := ls_get (f := g) y1 (by rw [y2, y3]) (i := i) (by omega)
      have hev := evs_len rs s hrl
      obtain ⟨g1, v1, v2, v3⟩ := mo_eq lx sm u3 u4 hr u2 hm (by omega)
      have hle := addEvs_le s.is (evs rs s) l
      obtain ⟨g', w1, w2, w3, w4⟩ := ih (i + 1) n g1 _ hd (by omega) (by omega) (hr.fr v3) (hsl.fr v3) v2 (ho.fr v3 (dm ko (by simp)) (dm q1 (by simp)) (dm q2 (by simp))) (hb.fr v3 (dm kb (by simp)) (dm c1 (by simp)) (dm c2 (by simp))) (hs.fr v3 (dm ks (by simp)) (dm t1 (by simp)) (dm t2 (by simp))) (by omega)
      refine ⟨g', ?_, w2, w3, (v3.mono (by simp)).trans w4⟩
      rw [← w1]
      simp only [p_X2_remake_c9, ite_ap, z_b, z_n, z_rt, z_vr, z_gI, z_gR, z_pI, z_pR, hI_K, hI_R, hI_I, hI_hI, hI_T, hI_N, hI_L, hI_D, sI_hI, wI_hI, if_true, lx.1, lx.2.1, y1.1, lsz, y3, e1, if_false, lgt, z_ct, u2.1, v1, e2]
theorem rmk_eq (lx : LxAt h x ls lr km ko kb ks) (sm : BkAt h km m1 p1 m2 p2 1548) (so : BkAt h ko o1 q1 o2 q2 10) (sb : BkAt h kb b1 c1 b2 c2 10) (ss : BkAt h ks s1 t1 s2 t2 1558) (dj : ∀ a ∈ [km, p1, p2, ko, q1, q2, kb, c1, c2], a ∉ [ks, t1, t2]) (dm : ∀ a ∈ [ko, q1, q2, kb, c1, c2, ks, t1, t2], a ∉ [km, p1, p2]) {rs : List Ru} (hrl : rs.length ≤ 8) {sl : List St} (hsl12 : sl.length ≤ 12) {lo lb ll lm : Bk} {g : FI}
    (hr : RsIs h g lr rs [km, p1, p2]) (hsl : SsIs h g ls sl [km, p1, p2]) (hm : BkIs g km p1 p2 1548 lm) (ho : BkIs g ko q1 q2 10 lo) (hb : BkIs g kb c1 c2 10 lb) (hs : BkIs g ks t1 t2 1558 ll) :
    ∃ g', p_X2_remake (some x) (hI h g) = some ((), hI h g') ∧ BkIs g' km p1 p2 1548 (madeOf rs sl []) ∧ BkIs g' ks t1 t2 1558 (sugO lo (sugM lb (madeOf rs sl []) [])) ∧ Fr g g' [km, p1, p2, ks, t1, t2] := by
  obtain ⟨v1, v2⟩ := bk_clear sm hm
  have v3 : Fr g (zu g km 3 0) [km, p1, p2] := Fr.zu (by simp)
  obtain ⟨g', w1, w2, w3, w4⟩ := rmk_l lx sm so sb ss dj dm hrl sl 0 zFuel (zu g km 3 0) [] rfl (by omega) (by unfold zFuel; omega) (hr.fr v3) (hsl.fr v3) v2 (ho.fr v3 (dm ko (by simp)) (dm q1 (by simp)) (dm q2 (by simp))) (hb.fr v3 (dm kb (by simp)) (dm c1 (by simp)) (dm c2 (by simp))) (hs.fr v3 (dm ks (by simp)) (dm t1 (by simp)) (dm t2 (by simp))) (by simp; omega)
  refine ⟨g', ?_, w2, w3, (v3.mono (by simp)).trans w4⟩
  have w1' : p_X2_remake_l9 zFuel (some x) 0 (hI h (zu g km 3 0)) = some ((), hI h g') := w1
  simp only [p_X2_remake, ite_ap, z_b, z_n, z_rt, z_vr, z_gI, z_gR, z_pI, z_pR, hI_K, hI_R, hI_I, hI_hI, hI_T, hI_N, hI_L, hI_D, sI_hI, wI_hI, if_true, lx.1, lx.2.2.2.1, sm.1, v1, w1']
end
