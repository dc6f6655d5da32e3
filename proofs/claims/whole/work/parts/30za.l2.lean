/-! own words, barred words: the reference's rows, the class's books -/
abbrev Ow : Type := Wd × Nat
/-- where a word stands -/
def fnx (w : Wd) : List Ow → Nat → Option Nat
  | [], _ => none
  | p :: t, i => if p.1 = w then some i else fnx w t (i + 1)
theorem fnx_some {w : Wd} : ∀ {t : List Ow} {i k : Nat}, fnx w t i = some k → i ≤ k ∧ k < i + t.length ∧ ∃ r, t[k - i]? = some (w, r) := by
  intro t
  induction t with
  | nil => intro i k q; cases q
  | cons p t ih =>
    intro i k q
    simp only [fnx] at q
    split at q
    · rename_i hp
      cases q
      refine ⟨Nat.le_refl _, by simp, p.2, ?_⟩
      rw [Nat.sub_self, ← hp]; rfl
    · obtain ⟨a, b, r, c⟩ := ih q
      refine ⟨by omega, by simp only [List.length_cons]; omega, r, ?_⟩
      rw [show k - i = (k - (i + 1)) + 1 by omega]
      exact c
theorem fnx_none {w : Wd} : ∀ {t : List Ow} {i : Nat}, fnx w t i = none ↔ ∀ p ∈ t, p.1 ≠ w := by
  intro t
  induction t with
  | nil => intro i; simp [fnx]
  | cons p t ih =>
    intro i
    simp only [fnx, List.mem_cons, forall_eq_or_imp]
    by_cases hp : p.1 = w
    · rw [if_pos hp]
      exact Iff.intro (fun q => by cases q) (fun q => absurd hp q.1)
    · rw [if_neg hp, ih]
      exact Iff.intro (fun q => And.intro hp q) (fun q => q.2)
/-- the class's book of own words, or barred ones, and the reference's row -/
def OwR (lo : Bk) (os : List Ow) : Prop := (os.map Prod.fst).Nodup ∧ (∀ p ∈ os, WdOk p.1 ∧ p.2 ≤ 7) ∧ SB lo ∧ (∀ c v, (c, v) ∈ lo ↔ ∃ p ∈ os, c = cN p.1 ∧ v = 2 ^ p.2) ∧ lo.length = os.length
theorem ow_hk {lo : Bk} {os : List Ow} (R : OwR lo os) {w : Wd} (hw : WdOk w) : hk lo (cN w) ↔ ∃ p ∈ os, p.1 = w := by
  obtain ⟨r1, r2, r3, r4, r5⟩ := R
  constructor
  · rintro ⟨⟨c, v⟩, he, hc⟩
    obtain ⟨p, p1, p2, p3⟩ := (r4 c v).mp he
    have hc' : c = cN w := hc
    exact ⟨p, p1, (cN_inj (r2 p p1).1.1 hw.1).mp (p2.symm.trans hc')⟩
  · rintro ⟨p, p1, p2⟩
    exact ⟨(cN p.1, 2 ^ p.2), (r4 _ _).mpr ⟨p, p1, rfl, rfl⟩, by rw [p2]⟩
/-- what a book says of a word that stands in it -/
theorem bget_mem {l : Bk} (hs : SB l) {c v : Nat} (h : (c, v) ∈ l) : bget l c = v := by
  induction l with
  | nil => cases h
  | cons e t ih =>
    obtain ⟨a, b⟩ := e
    unfold SB at hs
    rw [List.pairwise_cons] at hs
    rcases List.mem_cons.mp h with q | q
    · cases q
      simp [bget]
    · have hlt := hs.1 _ q
      have : ¬ a = c := by simp at hlt; omega
      simp only [bget, this, if_false]
      exact ih hs.2 q
theorem ow_get {lo : Bk} {os : List Ow} (R : OwR lo os) {w : Wd} (hw : WdOk w) : bget lo (cN w) = match fnx w os 0 with | none => 0 | some k => 2 ^ (os.getD k ([], 0)).2 := by
  cases q : fnx w os 0 with
  | none =>
    refine bget_none (fun z => ?_)
    obtain ⟨p, p1, p2⟩ := (ow_hk R hw).mp z
    exact fnx_none.mp q p p1 p2
  | some k =>
    obtain ⟨a, b, r, c⟩ := fnx_some q
    have c' : os[k]? = some (w, r) := c
    refine bget_mem R.2.2.1 ((R.2.2.2.1 _ _).mpr ⟨(w, r), List.mem_of_getElem? c', rfl, ?_⟩)
    show 2 ^ (os.getD k ([], 0)).2 = _
    rw [List.getD_eq_getElem?_getD, c']; rfl
/-- the reference's rows: own words, barred ones -/
def OwM (f : FI) (g : FL) (ar : Nat → Nat) (M : Nat) (os : List Ow) : Prop := f M 17 = I os.length ∧ os.length ≤ 10 ∧ ∀ i p, os[i]? = some p → g (ar 18) i = J (mN p.1) ∧ f (ar 19) i = I p.2
def BaM (f : FI) (g : FL) (ar : Nat → Nat) (M : Nat) (bs : List Ow) : Prop := f M 20 = I bs.length ∧ bs.length ≤ 10 ∧ ∀ i p, bs[i]? = some p → g (ar 21) i = J (mN p.1)
section
variable {h : ZH} {M : Nat} {ar : Nat → Nat} {f : FI} {g : FL} {l lo lb : Bk} {os bs : List Ow}
theorem J_mn {u v : Wd} (hu : WdOk u) (hv : WdOk v) : (J (mN u : Int) = J (mN v)) ↔ u = v := by
  have a : mN u < 281474976710656 := mN_range hu.1 (by have : u.length ≤ 10 := hu.2.2; omega)
  have b : mN v < 281474976710656 := mN_range hv.1 (by have : v.length ≤ 10 := hv.2.2; omega)
  rw [J_inj (by omega) (by omega), ← mN_inj hu.1 hv.1]; omega
theorem ownOf_l (m : MAt h M ar) (R : ∀ p ∈ os, WdOk p.1) (hO : OwM f g ar M os) {w : Wd} (hw : WdOk w) :
    ∀ (t : List Ow) (i n : Nat), os.drop i = t → i + t.length = os.length → t.length < n → p_X12_ownOf_l2 n (some M) (J (mN w)) (I i) (hM h f g) = some (I (oz (fnx w t i)), hM h f g) := by
  intro t
  induction t with
  | nil =>
    intro i n h1 h2 h3
    obtain ⟨n, rfl⟩ := Nat.exists_eq_add_of_lt h3
    have e1 : I (os.length : Int) ≤ I (i : Int) := by
      have := hO.2.1
      simp at h2
      rw [I_le (by omega) (by omega)]; omega
    show p_X12_ownOf_c2 _ _ _ _ _ = _
    simp only [p_X12_ownOf_c2, z_b, z_rt, ite_ap, m_gI m, hO.1, e1, if_true]
    rfl
  | cons p t ih =>
    intro i n h1 h2 h3
    obtain ⟨hat, hd⟩ := drop_at h1
    cases n with
    | zero => exact absurd h3 (Nat.not_lt_zero _)
    | succ n =>
      have := hO.2.1
      simp only [List.length_cons] at h2 h3
      have e1 : ¬ (I (os.length : Int) ≤ I (i : Int)) := by rw [I_le (by omega) (by omega)]; omega
      have e2 : I (i : Int) + 1 = I ((i + 1 : Nat) : Int) := I_add _ 1
      show p_X12_ownOf_c2 (p_X12_ownOf_l2 n) _ _ _ _ = _
      obtain ⟨a1, a2⟩ := hO.2.2 i p hat
      simp only [p_X12_ownOf_c2, z_b, z_rt, z_n, ite_ap, m_gI m, hO.1, e1, if_false, m_gR m 18 (by decide), m_aL m 18 10 (by decide) (show i < 10 by omega) (by decide), a1, lgc_eq0, J_mn (R p (List.mem_of_getElem? hat)) hw, e2]
      simp only [fnx]
      by_cases q : p.1 = w
      · rw [if_neg (fun z => z q), if_pos q]; rfl
      · rw [if_pos q, if_neg q]
        exact ih (i + 1) n hd (by omega) (by omega)
theorem ownOf_eq (m : MAt h M ar) (R : ∀ p ∈ os, WdOk p.1) (hO : OwM f g ar M os) {w : Wd} (hw : WdOk w) : p_X12_ownOf (some M) (J (mN w)) (hM h f g) = some (I (oz (fnx w os 0)), hM h f g) :=
  ownOf_l m R hO hw os 0 zFuel rfl (by omega) (by have := hO.2.1; unfold zFuel; omega)
theorem barOf_l (m : MAt h M ar) (R : ∀ p ∈ bs, WdOk p.1) (hO : BaM f g ar M bs) {w : Wd} (hw : WdOk w) :
    ∀ (t : List Ow) (i n : Nat), bs.drop i = t → i + t.length = bs.length → t.length < n → p_X12_barOf_l2 n (some M) (J (mN w)) (I i) (hM h f g) = some (I (oz (fnx w t i)), hM h f g) := by
  intro t
  induction t with
  | nil =>
    intro i n h1 h2 h3
    obtain ⟨n, rfl⟩ := Nat.exists_eq_add_of_lt h3
    have e1 : I (bs.length : Int) ≤ I (i : Int) := by
      have := hO.2.1
      simp at h2
      rw [I_le (by omega) (by omega)]; omega
    show p_X12_barOf_c2 _ _ _ _ _ = _
    simp only [p_X12_barOf_c2, z_b, z_rt, ite_ap, m_gI m, hO.1, e1, if_true]
    rfl
  | cons p t ih =>
    intro i n h1 h2 h3
    obtain ⟨hat, hd⟩ := drop_at h1
    cases n with
    | zero => exact absurd h3 (Nat.not_lt_zero _)
    | succ n =>
      have := hO.2.1
      simp only [List.length_cons] at h2 h3
      have e1 : ¬ (I (bs.length : Int) ≤ I (i : Int)) := by rw [I_le (by omega) (by omega)]; omega
      have e2 : I (i : Int) + 1 = I ((i + 1 : Nat) : Int) := I_add _ 1
      show p_X12_barOf_c2 (p_X12_barOf_l2 n) _ _ _ _ = _
      have a1 := hO.2.2 i p hat
      simp only [p_X12_barOf_c2, z_b, z_rt, z_n, ite_ap, m_gI m, hO.1, e1, if_false, m_gR m 21 (by decide), m_aL m 21 10 (by decide) (show i < 10 by omega) (by decide), a1, lgc_eq0, J_mn (R p (List.mem_of_getElem? hat)) hw, e2]
      simp only [fnx]
      by_cases q : p.1 = w
      · rw [if_neg (fun z => z q), if_pos q]; rfl
      · rw [if_pos q, if_neg q]
        exact ih (i + 1) n hd (by omega) (by omega)
theorem barOf_eq (m : MAt h M ar) (R : ∀ p ∈ bs, WdOk p.1) (hO : BaM f g ar M bs) {w : Wd} (hw : WdOk w) : p_X12_barOf (some M) (J (mN w)) (hM h f g) = some (I (oz (fnx w bs 0)), hM h f g) :=
  barOf_l m R hO hw bs 0 zFuel rfl (by omega) (by have := hO.2.1; unfold zFuel; omega)
theorem oz_m1 {k : Option Nat} (hk : ∀ i, k = some i → i < 1000000) : (I (oz k) = -1) ↔ k = none := by
  cases k with
  | none => exact ⟨fun _ => rfl, fun _ => rfl⟩
  | some i =>
    have := hk i rfl
    refine ⟨fun q => ?_, fun q => by cases q⟩
    have q' : I (i : Int) = I (-1) := q
    rw [I_inj (by omega) (by omega)] at q'
    omega
theorem fnx_bd {w : Wd} {t : List Ow} (ht : t.length ≤ 10) : ∀ i, fnx w t 0 = some i → i < 1000000 := fun i q => by
  have := (fnx_some q).2.1; omega
/-- what a word reads: the reference -/
theorem mread_eq (m : MAt h M ar) (T : TC f g ar M l) (hl : l.length < 16384) (Ro : OwR lo os) (Rb : OwR lb bs) (ho : OwM f g ar M os) (hb : BaM f g ar M bs) {w : Wd} (hw : WdOk w) : p_X12_readingsOf (some M) (J (mN w)) (hM h f g) = some (I (readF l lo lb w), hM h f g) := by
  have hm2 : mN w < 281474976710656 := mN_range hw.1 (by have : w.length ≤ 10 := hw.2.2; omega)
  have hm1 : 1 ≤ mN w := mN_pos hw.2.1
  have nz : ¬ (J (mN w : Int) = 0) := by rw [litJ, J_inj (by omega) (by omega)]; omega
  obtain ⟨s, s1, s2, s3, s4⟩ := tc_slot (f := f) m T hl hw
  have jn := joins_eq (f := f) m T hl hw.1 hw.2.2
  have bo := barOf_eq (f := f) m (fun p hp => (Rb.2.1 p hp).1) hb hw
  have oo := ownOf_eq (f := f) m (fun p hp => (Ro.2.1 p hp).1) ho hw
  have gb := ow_get Rb hw
  have go := ow_get Ro hw
  unfold readF
  simp only [p_X12_readingsOf, ite_ap, lgc_eq0, nz, if_false, z_b, z_rt, m_vr m, bo, oo, oz_m1 (fnx_bd hb.2.1), oz_m1 (fnx_bd ho.2.1)]
  have tail : ∀ a : Nat, p_X12_readingsOf_b40 (some M) (J (mN w)) (I a) (hM h f g) = some (I ((a ||| (bget l (cN w) % 256) ||| joinsF (jOf l w) (bd w) w.length : Nat) : Int), hM h f g) := by
    intro a
    simp only [p_X12_readingsOf_b40, z_b, z_rt, m_gR m 37 (by decide), m_vr m, s2, m_aI m 37 16384 (by decide) s1 (by decide), s3, jn, I_or]
  cases qb : fnx w bs 0 with
  | none =>
    rw [qb] at gb
    rw [if_pos rfl, if_pos gb]
    cases qo : fnx w os 0 with
    | none =>
      rw [qo] at go
      rw [if_neg (fun z => z rfl), go]
      exact tail 0
    | some k =>
      rw [qo] at go
      obtain ⟨-, b, r, c⟩ := fnx_some qo
      have c' : os[k]? = some (w, r) := c
      have hr := (Ro.2.1 _ (List.mem_of_getElem? c')).2
      have e : os.getD k ([], 0) = (w, r) := by rw [List.getD_eq_getElem?_getD, c']; rfl
      have go : bget lo (cN w) = 2 ^ (os.getD k ([], 0)).2 := go
      rw [e] at go
      have k10 : k < 10 := by have := ho.2.1; omega
      obtain ⟨-, a2⟩ := ho.2.2 k _ c'
      have a2' : f (ar 19) k = I r := a2
      have sh : (1 : Int32) <<< (I (r : Int) &&& 31) = I ((2 ^ r : Nat) : Int) := by
        have hr' : r ≤ 7 := hr
        rw [I_msk r (by omega), show (1 : Int32) = I ((1 : Nat) : Int) from rfl, I_shl (by omega), Nat.one_mul]
      rw [if_pos (by simp)]
      have k1 : oz (some k) = (k : Int) := rfl
      simp only [k1, m_gR m 19 (by decide), m_aI m 19 10 (by decide) k10 (by decide), a2', sh, tail, go]
  | some k =>
    rw [qb] at gb
    have gb : bget lb (cN w) = 2 ^ (bs.getD k ([], 0)).2 := gb
    have : ¬ bget lb (cN w) = 0 := by rw [gb]; exact fun z => absurd (Nat.pow_pos (n := (bs.getD k ([], 0)).2) (show 0 < 2 by decide)) (by simp at z)
    rw [if_neg (by simp), if_neg this]
    rfl
theorem mread_0 (h : ZH) (M : Option Nat) : p_X12_readingsOf M 0 h = some (0, h) := by
  simp only [p_X12_readingsOf, ite_ap, lgc_eq0, if_true, z_rt]
end
