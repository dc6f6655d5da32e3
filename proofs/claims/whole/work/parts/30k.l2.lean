/-! how many events there are -/
def nBeg (rs : List Ru) : Nat := (rs.filter (fun r => !r.isEnd)).length
def nEnd (rs : List Ru) : Nat := (rs.filter (fun r => r.isEnd)).length
theorem nSum (rs : List Ru) : nBeg rs + nEnd rs = rs.length := by
  unfold nBeg nEnd
  induction rs with
  | nil => rfl
  | cons r t ih =>
    simp only [List.filter_cons, List.length_cons]
    cases r.isEnd <;> simp <;> omega
theorem among_end {r : Ru} {fl : Nat} {b : Bool} (h : among r fl b = true) : r.isEnd = b := by
  unfold among at h
  rw [Bool.and_eq_true, beq_iff_eq] at h
  exact h.1
theorem fm_false (rs : List Ru) (fl : Nat) (e : Ev) : (rs.filterMap (rev false fl e)).length ≤ nBeg rs := by
  induction rs with
  | nil => exact Nat.le_refl _
  | cons r t ih =>
    unfold nBeg at ih ⊢
    cases hev : rev false fl e r with
    | none =>
      rw [List.filterMap_cons_none hev, List.filter_cons]
      split <;> (try simp only [List.length_cons]) <;> omega
    | some e' =>
      rw [List.filterMap_cons_some hev, List.filter_cons, if_pos (by rw [among_end (cO_some hev).1]; rfl)]
      simp only [List.length_cons]; omega
theorem fm_true (rs : List Ru) (fl : Nat) (e : Ev) : (rs.filterMap (rev true fl e)).length ≤ nEnd rs := by
  induction rs with
  | nil => exact Nat.le_refl _
  | cons r t ih =>
    unfold nEnd at ih ⊢
    cases hev : rev true fl e r with
    | none =>
      rw [List.filterMap_cons_none hev, List.filter_cons]
      split <;> (try simp only [List.length_cons]) <;> omega
    | some e' =>
      rw [List.filterMap_cons_some hev, List.filter_cons, if_pos (by rw [among_end (cO_some hev).1])]
      simp only [List.length_cons]; omega
theorem begs_len (rs : List Ru) (fl : Nat) (e : Ev) : (begs rs fl e).length ≤ nBeg rs + 1 := by
  unfold begs
  have := fm_false rs fl e
  simp only [List.length_cons]; omega
theorem fmap_len {α β : Type} (f : α → List β) (k : Nat) (h : ∀ a, (f a).length ≤ k) (l : List α) : (l.flatMap f).length ≤ l.length * k := by
  induction l with
  | nil => simp
  | cons a t ih =>
    rw [List.flatMap_cons, List.length_append, List.length_cons, Nat.succ_mul]
    have := h a
    omega
theorem secs_len (rs : List Ru) (fl more : Nat) (e : Ev) : (secs rs fl more e).length ≤ nEnd rs * (nBeg rs + 1) := by
  unfold secs
  exact Nat.le_trans (fmap_len _ _ (begs_len rs fl) _) (Nat.mul_le_mul_right _ (fm_true rs more e))
theorem ends_len (rs t : List Ru) (fl : Nat) (e : Ev) : (t.flatMap (ends rs fl e)).length ≤ nEnd t * (nBeg rs + 1 + nEnd rs * (nBeg rs + 1)) := by
  induction t with
  | nil => simp
  | cons r t ih =>
    rw [List.flatMap_cons, List.length_append]
    unfold nEnd at ih ⊢
    rw [List.filter_cons]
    cases hev : rev true fl e r with
    | none =>
      have : ends rs fl e r = [] := by unfold ends; rw [hev]
      rw [this]
      split
      · simp only [List.length_cons, Nat.succ_mul, List.length_nil]; omega
      · simp only [List.length_nil]; omega
    | some e' =>
      have : ends rs fl e r = begs rs fl e' ++ secs rs fl r.more e' := by unfold ends; rw [hev]
      rw [this, if_pos (by rw [among_end (cO_some hev).1]), List.length_append, List.length_cons, Nat.succ_mul]
      have h1 := begs_len rs fl e'
      have h2 := secs_len rs fl r.more e'
      unfold nEnd at h2
      omega
theorem evs_len (rs : List Ru) (s : St) (h : rs.length ≤ 8) : (evs rs s).length ≤ 129 := by
  unfold evs
  rw [List.length_append]
  have h1 := begs_len rs s.flags (s.w, s.kind, s.form)
  have h2 := ends_len rs rs s.flags (s.w, s.kind, s.form)
  have h3 := nSum rs
  have h4 : ∀ a : Nat, a < 9 → ∀ b : Nat, b < 9 → a + b ≤ 8 → a + 1 + b * (a + 1 + b * (a + 1)) ≤ 129 := by decide +kernel
  have h5 := h4 (nBeg rs) (by omega) (nEnd rs) (by omega) (by omega)
  omega
/-- the book of all made words -/
def madeOf (rs : List Ru) (ss : List St) (l : Bk) : Bk := ss.foldl (fun l s => (evs rs s).foldl (addEv s.is) l) l
theorem madeOf_le (rs : List Ru) (ss : List St) (l : Bk) (h : rs.length ≤ 8) : (madeOf rs ss l).length ≤ l.length + 129 * ss.length := by
  induction ss generalizing l with
  | nil => exact Nat.le_refl _
  | cons s t ih =>
    have h1 := ih ((evs rs s).foldl (addEv s.is) l)
    have h2 := addEvs_le s.is (evs rs s) l
    have h3 := evs_len rs s h
    unfold madeOf at h1 ⊢
    simp only [List.foldl_cons, List.length_cons]
    omega
/-- the list of stems, off some cells -/
def SsIs (h : ZH) (f : FI) (ls : Nat) (ss : List St) (A : List Nat) : Prop := ∃ arr n os, LsAt h ls arr n os ∧ f ls 2 = I ss.length ∧ os.length = ss.length ∧ ls ∉ A ∧ ∀ i, i < ss.length → ∃ s, ss[i]? = some s ∧ StIs h f (os.getD i 0) s ∧ StOk s ∧ os.getD i 0 ∉ A
theorem SsIs.fr {h : ZH} {f g : FI} {ls : Nat} {ss : List St} {A : List Nat} (r : SsIs h f ls ss A) (fr : Fr f g A) : SsIs h g ls ss A := by
  obtain ⟨arr, n, os, h1, h2, h3, h4, h5⟩ := r
  refine ⟨arr, n, os, h1, by rw [fr _ h4]; exact h2, h3, h4, fun i hi => ?_⟩
  obtain ⟨r, q1, q2, q3, q4⟩ := h5 i hi
  exact ⟨r, q1, q2.fr fr q4, q3, q4⟩
theorem and16 (v : Nat) : v &&& 65536 = 65536 * (v / 65536 % 2) := by
  refine Nat.eq_of_testBit_eq fun i => ?_
  rw [Nat.testBit_and, show (65536 : Nat) = 2 ^ 16 from rfl, Nat.testBit_two_pow, Nat.testBit_two_pow_mul]
  by_cases h1 : i = 16
  · subst h1
    rw [Nat.sub_self, Nat.testBit_eq_decide_div_mod_eq, Nat.testBit_zero]
    simp
  · by_cases h2 : i < 16
    · rw [decide_eq_false (show ¬ 16 = i by omega), decide_eq_false (show ¬ i ≥ 16 by omega)]
      simp
    · rw [decide_eq_false (show ¬ 16 = i by omega), Bool.and_false, Nat.testBit_lt_two_pow (x := v / 2 ^ 16 % 2), Bool.and_false]
      have h3 : 2 ^ 1 ≤ 2 ^ (i - 16) := Nat.pow_le_pow_right (by decide) (by omega)
      omega
theorem bit16 {v : Nat} (hv : v < 2147483648) : ((I (v : Int) &&& 65536) = 0) ↔ ¬ v / 65536 % 2 = 1 := by
  rw [show (65536 : Int32) = I ((65536 : Nat) : Int) from rfl, I_and, and16, I_0, I_inj (by omega) (by omega)]
  omega
/-- what may be suggested of the made words; then the own ones -/
def sugM (ba : Bk) (t : Bk) (l : Bk) : Bk := (t.filter (fun e => e.2 / 65536 % 2 == 1 && bget ba e.1 == 0)).foldl (fun l e => bput l e.1 1) l
def sugO (t : Bk) (l : Bk) : Bk := t.foldl (fun l e => bput l e.1 1) l
theorem sugO_le (t l : Bk) : (sugO t l).length ≤ l.length + t.length := by
  induction t generalizing l with
  | nil => exact Nat.le_refl _
  | cons e t ih =>
    have h1 := ih (bput l e.1 1)
    have h2 := bput_le l e.1 1
    unfold sugO at h1 ⊢
    simp only [List.foldl_cons, List.length_cons]
    omega
theorem sugM_le (ba t l : Bk) : (sugM ba t l).length ≤ l.length + t.length := by
  have h1 := sugO_le (t.filter (fun e => e.2 / 65536 % 2 == 1 && bget ba e.1 == 0)) l
  have h2 := List.length_filter_le (fun (e : Nat × Nat) => e.2 / 65536 % 2 == 1 && bget ba e.1 == 0) t
  unfold sugM
  unfold sugO at h1
  omega
section
variable {h : ZH} {x ls lr km ko kb ks m1 p1 m2 p2 o1 q1 o2 q2 b1 c1 b2 c2 s1 t1 s2 t2 : Nat}
theorem isBarred_eq (lx : LxAt h x ls lr km ko kb ks) (sb : BkAt h kb b1 c1 b2 c2 10) {g : FI} {lb : Bk} (hb : BkIs g kb c1 c2 10 lb) {w : Nat} (hw : w < 2147483648) : p_X2_isBarred (some x) (I w) (hI h g) = some (if bget lb w = 0 then 0 else 1, hI h g) := by
  have hlt := bget_lt hb w
  have e1 : (I (bget lb w : Int) = 0) ↔ bget lb w = 0 := by rw [I_0, I_inj (by omega) (by omega)]; omega
  simp only [p_X2_isBarred, ite_ap, z_b, z_n, z_rt, z_vr, z_gI, z_gR, z_pI, z_pR, hI_K, hI_R, hI_I, hI_hI, hI_T, hI_N, hI_L, hI_D, sI_hI, wI_hI, if_true, lx.1, lx.2.2.2.2.2.1, sb.1, bk_valueOf sb hb hw, e1, z_rz, or_true, true_or]
  split <;> rfl
theorem sug68 (lx : LxAt h x ls lr km ko kb ks) (so : BkAt h ko o1 q1 o2 q2 10) (ss : BkAt h ks s1 t1 s2 t2 1558) (dj : ko ∉ [ks, t1, t2] ∧ q1 ∉ [ks, t1, t2] ∧ q2 ∉ [ks, t1, t2]) {lo : Bk} :
    ∀ (t : Bk) (i n : Nat) (g : FI) (l : Bk), lo.drop i = t → i + t.length = lo.length → t.length < n → BkIs g ko q1 q2 10 lo → BkIs g ks t1 t2 1558 l → l.length + t.length ≤ 1558 →
      ∃ g', p_X2_listSuggestable_l68 n (some x) (I i) (hI h g) = some ((), hI h g') ∧ BkIs g' ks t1 t2 1558 (sugO t l) ∧ Fr g g' [ks, t1, t2] := by
  intro t
  induction t with
  | nil =>
    intro i n g l h1 h2 h3 ho hs hroom
    obtain ⟨n, rfl⟩ := Nat.exists_eq_add_of_lt h3
    refine ⟨g, ?_, hs, Fr.refl _ _⟩
    show p_X2_listSuggestable_c68 _ _ _ _ = _
    have := ho.2.2.1
    have e1 : I (lo.length : Int) ≤ I (i : Int) := by
      simp at h2
      rw [I_le (by omega) (by omega)]; omega
    simp only [p_X2_listSuggestable_c68, ite_ap, z_b, z_n, z_rt, z_vr, z_gI, z_gR, z_pI, z_pR, hI_K, hI_R, hI_I, hI_hI, hI_T, hI_N, hI_L, hI_D, sI_hI, wI_hI, if_true, lx.1, lx.2.2.2.2.1, so.1, bk_count so ho, e1]
  | cons e t ih =>
    intro i n g l h1 h2 h3 ho hs hroom
    have hol := ho.2.2.1
    have hi : i < lo.length := by simp only [List.length_cons] at h2; omega
    have hd : lo.drop (i + 1) = t := by rw [← List.tail_drop, h1]; rfl
    have he : cd lo i = e.1 := by
      unfold cd
      rw [List.getD_eq_getElem?_getD]
      have : (lo.drop i)[0]? = some e := by rw [h1]; rfl
      rw [List.getElem?_drop] at this
      rw [show lo[i]? = some e by simpa using this]; rfl
    cases n with
    | zero => exact absurd h3 (Nat.not_lt_zero _)
    | succ n =>
      show ∃ g', p_X2_listSuggestable_c68 (p_X2_listSuggestable_l68 n) _ _ _ = _ ∧ _
      simp only [List.length_cons] at h2 h3 hroom
      have e1 : ¬ (I (lo.length : Int) ≤ I (i : Int)) := by rw [I_le (by omega) (by omega)]; omega
      have e2 : I (i : Int) + 1 = I ((i + 1 : Nat) : Int) := I_add _ 1
      have hw := (ho.2.2.2.2.2 i hi).1
      rw [he] at hw
      have wo := bk_wordOn so ho hi
      rw [he] at wo
      obtain ⟨g1, v1, v2, v3⟩ := bk_store ss hs (w := e.1) (v := 1) hw (by decide) (Or.inr (by omega))
      have ho' : BkIs g1 ko q1 q2 10 lo := by
        unfold BkIs at ho ⊢
        rw [v3 _ dj.1, v3 _ dj.2.1, v3 _ dj.2.2]; exact ho
      have hle := bput_le l e.1 1
      obtain ⟨g', w1, w2, w3⟩ := ih (i + 1) n g1 _ hd (by omega) (by omega) ho' v2 (by omega)
      refine ⟨g', ?_, w2, v3.trans w3⟩
      rw [← w1]
      have v1' : p_X10_store (some ks) (I (e.1 : Int)) 1 (hI h g) = some ((), hI h g1) := v1
      simp only [p_X2_listSuggestable_c68, ite_ap, z_b, z_n, z_rt, z_vr, z_gI, z_gR, z_pI, z_pR, hI_K, hI_R, hI_I, hI_hI, hI_T, hI_N, hI_L, hI_D, sI_hI, wI_hI, if_true, lx.1, lx.2.2.2.2.1, lx.2.2.2.2.2.2, so.1, ss.1, bk_count so ho, e1, if_false, wo, v1', e2]
end
