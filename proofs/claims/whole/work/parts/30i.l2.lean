/-! ===== made words: the class ===== -/
/-- an event: a word with a kind and a form -/
abbrev Ev : Type := Wd × Nat × Nat
def EvOk (e : Ev) : Prop := isW e.1 ∧ e.1 ≠ [] ∧ e.1.length ≤ 10 ∧ e.2.1 ≤ 3 ∧ e.2.2 ≤ 1
/-- what a rule, of endings or not, makes of an event -/
def rev (b : Bool) (fl : Nat) (e : Ev) (r : Ru) : Option Ev := if among r fl b = true then (usd r e.1).map (fun u => (u, after r.kind e.2.1, after r.form e.2.2)) else none
theorem rev_ok {b : Bool} {fl : Nat} {e e' : Ev} {r : Ru} (he : EvOk e) (hr : RuOk r) (h : rev b fl e r = some e') : EvOk e' := by
  unfold rev at h
  split at h
  · obtain ⟨u, hu, rfl⟩ := Option.map_eq_some_iff.mp h
    obtain ⟨h1, h2, h3⟩ := usd_ok hr he.1 hu
    refine ⟨h1, h2, h3, ?_, ?_⟩
    · show after r.kind e.2.1 ≤ 3
      unfold after
      cases hk : r.kind with
      | none => exact he.2.2.2.1
      | some k => exact hr.2.2.2.2.2.1 k hk
    · show after r.form e.2.2 ≤ 1
      unfold after
      cases hk : r.form with
      | none => exact he.2.2.2.2
      | some k => exact hr.2.2.2.2.2.2.1 k hk
  · cases h
def begs (rs : List Ru) (fl : Nat) (e : Ev) : List Ev := e :: rs.filterMap (rev false fl e)
def secs (rs : List Ru) (fl more : Nat) (e : Ev) : List Ev := (rs.filterMap (rev true more e)).flatMap (begs rs fl)
def ends (rs : List Ru) (fl : Nat) (e : Ev) (r : Ru) : List Ev := match rev true fl e r with
  | none => []
  | some e1 => begs rs fl e1 ++ secs rs fl r.more e1
/-- all events of a stem, in order -/
def evs (rs : List Ru) (s : St) : List Ev := begs rs s.flags (s.w, s.kind, s.form) ++ rs.flatMap (ends rs s.flags (s.w, s.kind, s.form))
def addEv (is : Nat) (l : Bk) (e : Ev) : Bk := bput l (cN e.1) (bget l (cN e.1) ||| kAll is e.2.1 e.2.2)
theorem bput_le (l : Bk) (w v : Nat) : (bput l w v).length ≤ l.length + 1 := by
  induction l with
  | nil => exact Nat.le_refl _
  | cons x t ih =>
    obtain ⟨c, z⟩ := x
    simp only [bput]
    split
    · simp only [List.length_cons]; omega
    · split
      · simp only [List.length_cons]; omega
      · simp only [List.length_cons]; omega
theorem addEvs_le (is : Nat) (es : List Ev) (l : Bk) : (es.foldl (addEv is) l).length ≤ l.length + es.length := by
  induction es generalizing l with
  | nil => exact Nat.le_refl _
  | cons e t ih =>
    have := ih (addEv is l e)
    have h2 := bput_le l (cN e.1) (bget l (cN e.1) ||| kAll is e.2.1 e.2.2)
    simp only [List.foldl_cons, List.length_cons]
    unfold addEv at this ⊢
    omega
theorem kAll_lt {is k g : Nat} (h1 : is ≤ 7) (h2 : k ≤ 3) (h3 : g ≤ 1) : kAll is k g < 131072 := by
  have : ∀ x : Nat, x < 8 → ∀ k : Nat, k < 4 → ∀ g : Nat, g < 2 → kAll x k g < 131072 := by decide +kernel
  exact this is (by omega) k (by omega) g (by omega)
theorem bget_lt {l : Bk} {f : FI} {k a1 a2 m : Nat} (b : BkIs f k a1 a2 m l) (w : Nat) : bget l w < 2147483648 := by
  rw [bget_eq b.2.2.2.1]
  split
  · rename_i hc
    exact (b.2.2.2.2.2 _ hc.1).2
  · decide
/-- the lexicon's shape: its lists, its books -/
def LxAt (h : ZH) (x ls lr km ko kb ks : Nat) : Prop := zK h x = (9, 0) ∧ zR h x 0 = some ls ∧ zR h x 1 = some lr ∧ zR h x 2 = some km ∧ zR h x 3 = some ko ∧ zR h x 4 = some kb ∧ zR h x 5 = some ks
/-- the list of rules, off some cells -/
def RsIs (h : ZH) (f : FI) (lr : Nat) (rs : List Ru) (A : List Nat) : Prop := ∃ arr n os, LsAt h lr arr n os ∧ f lr 2 = I rs.length ∧ os.length = rs.length ∧ lr ∉ A ∧ ∀ i, i < rs.length → ∃ r, rs[i]? = some r ∧ RuIs h f (os.getD i 0) r ∧ RuOk r ∧ os.getD i 0 ∉ A
theorem RsIs.fr {h : ZH} {f g : FI} {lr : Nat} {rs : List Ru} {A : List Nat} (r : RsIs h f lr rs A) (fr : Fr f g A) : RsIs h g lr rs A := by
  obtain ⟨arr, n, os, h1, h2, h3, h4, h5⟩ := r
  refine ⟨arr, n, os, h1, by rw [fr _ h4]; exact h2, h3, h4, fun i hi => ?_⟩
  obtain ⟨r, q1, q2, q3, q4⟩ := h5 i hi
  refine ⟨r, q1, ?_, q3, q4⟩
  unfold RuIs at q2 ⊢
  rw [fr _ q4]
  exact q2
theorem StIs.fr {h : ZH} {f g : FI} {a : Nat} {s : St} {A : List Nat} (r : StIs h f a s) (fr : Fr f g A) (ha : a ∉ A) : StIs h g a s := by
  unfold StIs at r ⊢
  rw [fr _ ha]
  exact r
section
variable {h : ZH} {x ls lr km ko kb ks r1 a1 r2 a2 so : Nat} {rs : List Ru} {s : St}
/-- one event is stored -/
theorem store_ev (sh : BkAt h km r1 a1 r2 a2 1548) {g : FI} {l : Bk} (b : BkIs g km a1 a2 1548 l) {e : Ev} (he : EvOk e) {is : Nat} (his : is ≤ 7) (room : l.length < 1548) :
    p_X10_valueOf (some km) (I (cN e.1)) (hI h g) = some (I (bget l (cN e.1)), hI h g) ∧ ∃ g', p_X10_store (some km) (I (cN e.1)) (I (bget l (cN e.1)) ||| I (kAll is e.2.1 e.2.2)) (hI h g) = some ((), hI h g') ∧ BkIs g' km a1 a2 1548 (addEv is l e) ∧ Fr g g' [km, a1, a2] := by
  have hw := (cN_range he.1 he.2.2.1).2
  refine ⟨bk_valueOf sh b hw, ?_⟩
  rw [I_or]
  exact bk_store sh b hw (Nat.or_lt_two_pow (n := 31) (bget_lt b _) (Nat.lt_trans (kAll_lt his he.2.2.2.1 he.2.2.2.2) (by decide))) (Or.inr room)
theorem mwb_l (lx : LxAt h x ls lr km ko kb ks) (sh : BkAt h km r1 a1 r2 a2 1548) (ho : StOk s) (hso : so ∉ [km, a1, a2]) {e : Ev} (he : EvOk e) :
    ∀ (t : List Ru) (i n : Nat) (g : FI) (l : Bk), rs.drop i = t → i + t.length = rs.length → t.length < n → RsIs h g lr rs [km, a1, a2] → StIs h g so s → BkIs g km a1 a2 1548 l → l.length + (t.filterMap (rev false s.flags e)).length ≤ 1548 →
      ∃ g', p_X2_makeWithBeginnings_l27 n (some x) (some so) (I (cN e.1)) (I e.2.1) (I e.2.2) (I i) (hI h g) = some ((), hI h g') ∧ BkIs g' km a1 a2 1548 ((t.filterMap (rev false s.flags e)).foldl (addEv s.is) l) ∧ Fr g g' [km, a1, a2] := by
  intro t
  induction t with
  | nil =>
    intro i n g l h1 h2 h3 hr hs hb hroom
    obtain ⟨x0, x1, x2, x3, x4, x5, x6⟩ := lx
    obtain ⟨arr, nn, os, q1, q2, q3, q4, q5⟩ := id hr
    have hn := q1.2.2.1
    have hn2 := q1.2.2.2.1
    obtain ⟨n, rfl⟩ := Nat.exists_eq_add_of_lt h3
    refine ⟨g, ?_, hb, Fr.refl _ _⟩
    show p_X2_makeWithBeginnings_c27 _ _ _ _ _ _ _ _ = _
    have e1 : I (rs.length : Int) ≤ I (i : Int) := by
      simp at h2
      rw [I_le (by omega) (by omega)]; omega
    have lsz := ls_size (f := g) q1 (by rw [q2, q3])
    simp only [p_X2_makeWithBeginnings_c27, ite_ap, z_b, z_n, z_rt, z_vr, z_gI, z_gR, z_pI, z_pR, hI_K, hI_R, hI_I, hI_hI, hI_T, hI_N, hI_L, hI_D, sI_hI, wI_hI, if_true, x0, x2, q1.1, lsz, q3, e1]
  | cons r t ih =>
    intro i n g l h1 h2 h3 hr hs hb hroom
    obtain ⟨x0, x1, x2, x3, x4, x5, x6⟩ := id lx
    obtain ⟨arr, nn, os, q1, q2, q3, q4, q5⟩ := id hr
    have hn := q1.2.2.1
    have hn2 := q1.2.2.2.1
    have hi : i < rs.length := by simp only [List.length_cons] at h2; omega
    obtain ⟨r', w1, w2, w3, w4⟩ := q5 i hi
    have hrr : r' = r := by
      have : (rs.drop i)[0]? = some r := by rw [h1]; rfl
      rw [List.getElem?_drop] at this
      simpa [w1] using this
    subst hrr
    have hd : rs.drop (i + 1) = t := by rw [← List.tail_drop, h1]; rfl
    cases n with
    | zero => exact absurd h3 (Nat.not_lt_zero _)
    | succ n =>
      show ∃ g', p_X2_makeWithBeginnings_c27 (p_X2_makeWithBeginnings_l27 n) _ _ _ _ _ _ _ = _ ∧ _
      have e1 : ¬ (I (rs.length : Int) ≤ I (i : Int)) := by rw [I_le (by omega) (by omega)]; omega
      have e2 : I (i : Int) + 1 = I ((i + 1 : Nat) : Int) := I_add _ 1
      have lsz := ls_size (f := g) q1 (by rw [q2, q3])
      have lgt := ls_get (f := g) q1 (by rw [q2, q3]) (i := i) (by omega)
      have am := ru_among (h := h) (f := g) w2 w3 ho.2.2.2.1 false
      rw [if_neg (show ¬ (false = true) by decide)] at am
      have us := ru_used (h := h) (f := g) w2 w3 he.1 he.2.1 he.2.2.1
      obtain ⟨s0, s1, s2, s3, s4, s5⟩ := id hs
      have hlen : t.length < n := by simp only [List.length_cons] at h3; omega
      have hlen2 : i + 1 + t.length = rs.length := by simp only [List.length_cons] at h2; omega
      cases hev : rev false s.flags e r' with
      | none =>
        have hz : (if among r' s.flags false = true then cO (usd r' e.1) else 0) = 0 := by
          unfold rev at hev
          by_cases hc : among r' s.flags false = true
          · rw [if_pos hc] at hev ⊢
            rw [Option.map_eq_none_iff.mp hev]; rfl
          · rw [if_neg hc]
        rw [List.filterMap_cons_none hev] at hroom ⊢
        obtain ⟨g', p1, p2, p3⟩ := ih (i + 1) n g l hd hlen2 hlen hr hs hb hroom
        refine ⟨g', ?_, p2, p3⟩
        rw [← p1]
        simp only [p_X2_makeWithBeginnings_c27, p_X2_makeWithBeginnings_b80, p_X2_makeWithBeginnings_b127, ite_ap, z_b, z_n, z_rt, z_vr, z_gI, z_gR, z_pI, z_pR, hI_K, hI_R, hI_I, hI_hI, hI_T, hI_N, hI_L, hI_D, sI_hI, wI_hI, if_true, x0, x2, q1.1, lsz, q3, e1, e2, lgt, z_ct, w2.1, s0, s2, am, us, if_false]
        by_cases hc : among r' s.flags false = true
        · rw [if_pos hc] at hz
          simp only [hc, ite_ap, z_b, z_n, z_rt, z_vr, z_gI, z_gR, z_pI, z_pR, hI_K, hI_R, hI_I, hI_hI, hI_T, hI_N, hI_L, hI_D, sI_hI, wI_hI, if_true, us, hz]
          rw [if_neg (by decide)]
        · rw [if_neg hc, if_pos rfl]
      | some e' =>
        rw [List.filterMap_cons_some hev] at hroom ⊢
        simp only [List.length_cons] at hroom
        have he' := rev_ok he w3 hev
        obtain ⟨v1, g1, v2, v3, v4⟩ := store_ev sh hb he' (is := s.is) ho.2.2.2.2.2.2 (by omega)
        have hle := bput_le l (cN e'.1) (bget l (cN e'.1) ||| kAll s.is e'.2.1 e'.2.2)
        obtain ⟨g', p1, p2, p3⟩ := ih (i + 1) n g1 (addEv s.is l e') hd hlen2 hlen (hr.fr v4) (hs.fr v4 hso) v3 (by unfold addEv; omega)
        refine ⟨g', ?_, p2, v4.trans p3⟩
        rw [← p1]
        have hc : among r' s.flags false = true := by
          unfold rev at hev
          by_cases hc : among r' s.flags false = true
          · exact hc
          · rw [if_neg hc] at hev; cases hev
        obtain ⟨u, hu, rfl⟩ : ∃ u, usd r' e.1 = some u ∧ e' = (u, after r'.kind e.2.1, after r'.form e.2.2) := by
          unfold rev at hev
          rw [if_pos hc] at hev
          obtain ⟨u, hu, h'⟩ := Option.map_eq_some_iff.mp hev
          exact ⟨u, hu, h'.symm⟩
        rw [hu] at us
        have us' : p_X5_usedOn (some (os.getD i 0)) (I (cN e.1)) (hI h g) = some (I (cN u), hI h g) := us
        have nz : ¬ (I (cN u : Int) = 0) := by
          have hcr : 1 ≤ cN u ∧ cN u < 2147483648 := cN_range he'.1 he'.2.2.1
          rw [I_0, I_inj (by omega) (by omega)]; omega
        have kd := ru_kind (h := h) (f := g) w2 w3 e.2.1
        have fm := ru_form (h := h) (f := g) w2 w3 e.2.2
        have kn := st_known (h := h) (f := g) hs ho he'.2.2.2.1 he'.2.2.2.2
        simp only [p_X2_makeWithBeginnings_c27, p_X2_makeWithBeginnings_b80, p_X2_makeWithBeginnings_b127, ite_ap, z_b, z_n, z_rt, z_vr, z_gI, z_gR, z_pI, z_pR, hI_K, hI_R, hI_I, hI_hI, hI_T, hI_N, hI_L, hI_D, sI_hI, wI_hI, if_true, x0, x2, x3, q1.1, lsz, q3, e1, e2, lgt, z_ct, w2.1, s0, s2, am, hc, us', if_false]
        rw [if_neg (by decide)]
        simp only [ite_ap, z_b, z_n, z_rt, z_vr, z_gI, z_gR, z_pI, z_pR, hI_K, hI_R, hI_I, hI_hI, hI_T, hI_N, hI_L, hI_D, sI_hI, wI_hI, if_true, w2.1, us', nz, if_false, kd, fm, kn, s0, x0, x3, sh.1, v1, v2, e2]
/-- a word with its beginnings -/
theorem mwb_eq (lx : LxAt h x ls lr km ko kb ks) (sh : BkAt h km r1 a1 r2 a2 1548) (ho : StOk s) (hso : so ∉ [km, a1, a2]) {e : Ev} (he : EvOk e) {g : FI} {l : Bk} (hr : RsIs h g lr rs [km, a1, a2]) (hs : StIs h g so s) (hb : BkIs g km a1 a2 1548 l) (room : l.length + (begs rs s.flags e).length ≤ 1548) :
    ∃ g', p_X2_makeWithBeginnings (some x) (some so) (I (cN e.1)) (I e.2.1) (I e.2.2) (hI h g) = some ((), hI h g') ∧ BkIs g' km a1 a2 1548 ((begs rs s.flags e).foldl (addEv s.is) l) ∧ Fr g g' [km, a1, a2] := by
  unfold begs at room ⊢
  simp only [List.length_cons] at room
  obtain ⟨v1, g1, v2, v3, v4⟩ := store_ev sh hb he (is := s.is) ho.2.2.2.2.2.2 (by omega)
  have hle := bput_le l (cN e.1) (bget l (cN e.1) ||| kAll s.is e.2.1 e.2.2)
  have hrl : rs.length < 1000 := by
    obtain ⟨arr, nn, os, q1, q2, q3, q4, q5⟩ := hr
    have := q1.2.2.1
    have := q1.2.2.2.1
    omega
  obtain ⟨g', p1, p2, p3⟩ := mwb_l lx sh ho hso he rs 0 zFuel g1 (addEv s.is l e) rfl (by omega) (by unfold zFuel; omega) (hr.fr v4) (hs.fr v4 hso) v3 (by unfold addEv; omega)
  refine ⟨g', ?_, p2, v4.trans p3⟩
  have kn := st_known (h := h) (f := g) hs ho he.2.2.2.1 he.2.2.2.2
  have p1' : p_X2_makeWithBeginnings_l27 zFuel (some x) (some so) (I (cN e.1)) (I e.2.1) (I e.2.2) 0 (hI h g1) = some ((), hI h g') := p1
  simp only [p_X2_makeWithBeginnings, ite_ap, z_b, z_n, z_rt, z_vr, z_gI, z_gR, z_pI, z_pR, hI_K, hI_R, hI_I, hI_hI, hI_T, hI_N, hI_L, hI_D, sI_hI, wI_hI, if_true, lx.1, lx.2.2.2.1, sh.1, v1, kn, hs.1, v2, p1']
end
