theorem bget_fnd {l : Bk} (hs : SB l) {w : Nat} (hp : ∀ i, i < l.length → 1 ≤ vl l i) : bget l w ≠ 0 ↔ fnd l w := by
  rw [bget_eq hs]
  unfold fnd
  constructor
  · intro h
    by_cases hc : brank l w < l.length ∧ cd l (brank l w) = w
    · exact hc
    · rw [if_neg hc] at h; exact absurd rfl h
  · intro h
    rw [if_pos h]
    have := hp _ h.1
    omega
section
variable {h : ZH} {x ls lr km ko kb ks m1 p1 m2 p2 o1 q1 o2 q2 b1 c1 b2 c2 s1 t1 s2 t2 : Nat} {g : FI} {lm lo lb ll : Bk}
theorem roomOwn_eq (lx : LxAt h x ls lr km ko kb ks) (so : BkAt h ko o1 q1 o2 q2 10) (ho : BkIs g ko q1 q2 10 lo) {w : Nat} (hw : w < 2147483648) : p_X2_hasRoomForOwn (some x) (I w) (hI h g) = some (if bget lo w ≠ 0 ∨ lo.length < 10 then 1 else 0, hI h g) := by
  have hlt := bget_lt ho w
  have hl := ho.2.2.1
  have e1 : (I (bget lo w : Int) = 0) ↔ bget lo w = 0 := by rw [I_0, I_inj (by omega) (by omega)]; omega
  have e2 : (10 ≤ I (lo.length : Int)) ↔ 10 ≤ lo.length := by rw [lit, I_le (by omega) (by omega)]; omega
  simp only [p_X2_hasRoomForOwn, ite_ap, z_b, z_n, z_rt, z_vr, z_gI, z_gR, z_pI, z_pR, hI_K, hI_R, hI_I, hI_hI, hI_T, hI_N, hI_L, hI_D, sI_hI, wI_hI, if_true, lx.1, lx.2.2.2.2.1, so.1, bk_valueOf so ho hw, bk_count so ho, e1, e2, z_rz, or_true, true_or]
  by_cases c1 : bget lo w = 0
  · by_cases c2 : lo.length < 10
    · simp [c1, c2, show ¬ 10 ≤ lo.length by omega]
    · simp [c1, c2, show 10 ≤ lo.length by omega]
  · simp [c1]
theorem roomBar_eq (lx : LxAt h x ls lr km ko kb ks) (sb : BkAt h kb b1 c1 b2 c2 10) (hb : BkIs g kb c1 c2 10 lb) {w : Nat} (hw : w < 2147483648) : p_X2_hasRoomForBarred (some x) (I w) (hI h g) = some (if bget lb w ≠ 0 ∨ lb.length < 10 then 1 else 0, hI h g) := by
  have hlt := bget_lt hb w
  have hl := hb.2.2.1
  have e1 : (I (bget lb w : Int) = 0) ↔ bget lb w = 0 := by rw [I_0, I_inj (by omega) (by omega)]; omega
  have e2 : (10 ≤ I (lb.length : Int)) ↔ 10 ≤ lb.length := by rw [lit, I_le (by omega) (by omega)]; omega
  simp only [p_X2_hasRoomForBarred, ite_ap, z_b, z_n, z_rt, z_vr, z_gI, z_gR, z_pI, z_pR, hI_K, hI_R, hI_I, hI_hI, hI_T, hI_N, hI_L, hI_D, sI_hI, wI_hI, if_true, lx.1, lx.2.2.2.2.2.1, sb.1, bk_valueOf sb hb hw, bk_count sb hb, e1, e2, z_rz, or_true, true_or]
  by_cases c1 : bget lb w = 0
  · by_cases c2 : lb.length < 10
    · simp [c1, c2, show ¬ 10 ≤ lb.length by omega]
    · simp [c1, c2, show 10 ≤ lb.length by omega]
  · simp [c1]
theorem addOwn_eq (lx : LxAt h x ls lr km ko kb ks) (sm : BkAt h km m1 p1 m2 p2 1548) (so : BkAt h ko o1 q1 o2 q2 10) (sb : BkAt h kb b1 c1 b2 c2 10) (ss : BkAt h ks s1 t1 s2 t2 1558) (dj : ∀ a ∈ [km, p1, p2, ko, q1, q2, kb, c1, c2], a ∉ [ks, t1, t2]) (db : ∀ a ∈ [km, p1, p2, ko, q1, q2, ks, t1, t2], a ∉ [kb, c1, c2]) (dO : ∀ a ∈ [km, p1, p2, kb, c1, c2, ks, t1, t2], a ∉ [ko, q1, q2])
    (hm : BkIs g km p1 p2 1548 lm) (ho : BkIs g ko q1 q2 10 lo) (hb : BkIs g kb c1 c2 10 lb) (hs : BkIs g ks t1 t2 1558 ll) {w r : Nat} (hw : w < 2147483648) (hr : r < 8) (room : fnd lo w ∨ lo.length < 10) :
    ∃ g', p_X2_addOwn (some x) (I w) (I r) (hI h g) = some ((), hI h g') ∧ BkIs g' ko q1 q2 10 (bput lo w (2 ^ r)) ∧ BkIs g' kb c1 c2 10 (bdel lb w) ∧ BkIs g' ks t1 t2 1558 (sugO (bput lo w (2 ^ r)) (sugM (bdel lb w) lm [])) ∧ Fr g g' [ko, q1, q2, kb, c1, c2, ks, t1, t2] := by
  obtain ⟨g1, v1, v2, v3⟩ := bk_drop sb hb hw
  have ho1 := ho.fr v3 (db ko (by simp)) (db q1 (by simp)) (db q2 (by simp))
  have h2r : 2 ^ r < 2147483648 := Nat.lt_of_lt_of_le (Nat.pow_lt_pow_right (by decide) hr) (by decide)
  obtain ⟨g2, w1, w2, w3⟩ := bk_store so ho1 (w := w) (v := 2 ^ r) hw h2r room
  obtain ⟨g3, y1, y2, y3⟩ := sug_eq lx sm so sb ss dj ((hm.fr v3 (db km (by simp)) (db p1 (by simp)) (db p2 (by simp))).fr w3 (dO km (by simp)) (dO p1 (by simp)) (dO p2 (by simp))) w2 (v2.fr w3 (dO kb (by simp)) (dO c1 (by simp)) (dO c2 (by simp))) ((hs.fr v3 (db ks (by simp)) (db t1 (by simp)) (db t2 (by simp))).fr w3 (dO ks (by simp)) (dO t1 (by simp)) (dO t2 (by simp)))
  refine ⟨g3, ?_, w2.fr y3 (dj ko (by simp)) (dj q1 (by simp)) (dj q2 (by simp)), (v2.fr w3 (dO kb (by simp)) (dO c1 (by simp)) (dO c2 (by simp))).fr y3 (dj kb (by simp)) (dj c1 (by simp)) (dj c2 (by simp)), y2, ((v3.mono (by simp)).trans (w3.mono (by simp))).trans (y3.mono (by simp))⟩
  have e1 : (1 : Int32) <<< (I (r : Int) &&& 31) = I ((2 ^ r : Nat) : Int) := by
    rw [I_msk r (by omega), show (1 : Int32) = I ((1 : Nat) : Int) from rfl, I_shl (by omega), Nat.one_mul]
  simp only [p_X2_addOwn, ite_ap, z_b, z_n, z_rt, z_vr, z_gI, z_gR, z_pI, z_pR, hI_K, hI_R, hI_I, hI_hI, hI_T, hI_N, hI_L, hI_D, sI_hI, wI_hI, if_true, lx.1, lx.2.2.2.2.1, lx.2.2.2.2.2.1, so.1, sb.1, v1, e1, w1, y1]
theorem addBar_eq (lx : LxAt h x ls lr km ko kb ks) (sm : BkAt h km m1 p1 m2 p2 1548) (so : BkAt h ko o1 q1 o2 q2 10) (sb : BkAt h kb b1 c1 b2 c2 10) (ss : BkAt h ks s1 t1 s2 t2 1558) (dj : ∀ a ∈ [km, p1, p2, ko, q1, q2, kb, c1, c2], a ∉ [ks, t1, t2]) (db : ∀ a ∈ [km, p1, p2, ko, q1, q2, ks, t1, t2], a ∉ [kb, c1, c2]) (dO : ∀ a ∈ [km, p1, p2, kb, c1, c2, ks, t1, t2], a ∉ [ko, q1, q2])
    (hm : BkIs g km p1 p2 1548 lm) (ho : BkIs g ko q1 q2 10 lo) (hb : BkIs g kb c1 c2 10 lb) (hs : BkIs g ks t1 t2 1558 ll) {w : Nat} (hw : w < 2147483648) (room : fnd lb w ∨ lb.length < 10) :
    ∃ g', p_X2_addBarred (some x) (I w) (hI h g) = some ((), hI h g') ∧ BkIs g' ko q1 q2 10 (bdel lo w) ∧ BkIs g' kb c1 c2 10 (bput lb w 1) ∧ BkIs g' ks t1 t2 1558 (sugO (bdel lo w) (sugM (bput lb w 1) lm [])) ∧ Fr g g' [ko, q1, q2, kb, c1, c2, ks, t1, t2] := by
  obtain ⟨g1, v1, v2, v3⟩ := bk_drop so ho hw
  have hb1 := hb.fr v3 (dO kb (by simp)) (dO c1 (by simp)) (dO c2 (by simp))
  obtain ⟨g2, w1, w2, w3⟩ := bk_store sb hb1 (w := w) (v := 1) hw (by decide) room
  obtain ⟨g3, y1, y2, y3⟩ := sug_eq lx sm so sb ss dj ((hm.fr v3 (dO km (by simp)) (dO p1 (by simp)) (dO p2 (by simp))).fr w3 (db km (by simp)) (db p1 (by simp)) (db p2 (by simp))) (v2.fr w3 (db ko (by simp)) (db q1 (by simp)) (db q2 (by simp))) w2 ((hs.fr v3 (dO ks (by simp)) (dO t1 (by simp)) (dO t2 (by simp))).fr w3 (db ks (by simp)) (db t1 (by simp)) (db t2 (by simp)))
  refine ⟨g3, ?_, (v2.fr w3 (db ko (by simp)) (db q1 (by simp)) (db q2 (by simp))).fr y3 (dj ko (by simp)) (dj q1 (by simp)) (dj q2 (by simp)), w2.fr y3 (dj kb (by simp)) (dj c1 (by simp)) (dj c2 (by simp)), y2, ((v3.mono (by simp)).trans (w3.mono (by simp))).trans (y3.mono (by simp))⟩
  have w1' : p_X10_store (some kb) (I (w : Int)) 1 (hI h g1) = some ((), hI h g2) := w1
  simp only [p_X2_addBarred, ite_ap, z_b, z_n, z_rt, z_vr, z_gI, z_gR, z_pI, z_pR, hI_K, hI_R, hI_I, hI_hI, hI_T, hI_N, hI_L, hI_D, sI_hI, wI_hI, if_true, lx.1, lx.2.2.2.2.1, lx.2.2.2.2.2.1, so.1, sb.1, v1, w1', y1]
end
