/-! ===== styles ===== -/
abbrev It : Type := Nat ⊕ Wd
/-- items, the place of the change, the word it becomes -/
abbrev Sty : Type := List It × Nat × Wd
def ItOk : It → Prop
  | .inl k => k ≤ 3
  | .inr w => WdOk w
def SyOk (s : Sty) : Prop := 1 ≤ s.1.length ∧ s.1.length ≤ 3 ∧ s.2.1 < s.1.length ∧ WdOk s.2.2 ∧ ∀ it ∈ s.1, ItOk it
def fitI (w : Wd) (e : Nat) : It → Bool
  | .inl k => if e = 0 then false else if (e - 1) / 2 = k then true else false
  | .inr u => if w = u then true else false
def fitL (W : Nat → Wd) (E : Nat → Nat) : List It → Nat → Bool
  | [], _ => true
  | it :: t, i => if fitI (W i) (E i) it = true then fitL W E t (i + 1) else false
def fitS (W : Nat → Wd) (E : Nat → Nat) (s : Sty) (i b : Nat) : Bool := if i + s.1.length ≤ b then fitL W E s.1 i else false
def lowF (W : Nat → Wd) (E : Nat → Nat) (i b : Nat) : List Sty → Nat → Option Nat
  | [], _ => none
  | s :: t, k => if fitS W E s i b = true then some k else lowF W E i b t (k + 1)
def itC : It → Nat
  | .inl k => k
  | .inr w => cN w
theorem lowF_some {W : Nat → Wd} {E : Nat → Nat} {i b : Nat} : ∀ {t : List Sty} {k r : Nat}, lowF W E i b t k = some r → k ≤ r ∧ r < k + t.length ∧ ∃ s, t[r - k]? = some s ∧ fitS W E s i b = true := by
  intro t
  induction t with
  | nil => intro k r q; cases q
  | cons s t ih =>
    intro k r q
    simp only [lowF] at q
    split at q
    · rename_i hf
      cases q
      exact ⟨Nat.le_refl _, by simp, s, by rw [Nat.sub_self]; rfl, hf⟩
    · obtain ⟨a, b, s', c, d⟩ := ih q
      refine ⟨by omega, by simp only [List.length_cons]; omega, s', ?_, d⟩
      rw [show r - k = (r - (k + 1)) + 1 by omega]
      exact c
theorem cN_ge8 {w : Wd} (hw : WdOk w) : 8 ≤ cN w := by
  have := cN_lo w
  have h1 : 1 ≤ w.length := List.length_pos_iff.mpr hw.2.1
  have : 8 ^ 1 ≤ 8 ^ w.length := Nat.pow_le_pow_right (by decide) h1
  omega
theorem cC_lt {w : Wd} (hw : isW w) : cC w < 2147483648 := by
  unfold cC
  split
  · rename_i hl; exact (cN_range hw hl).2
  · decide
theorem cC_eq {w u : Wd} (hw : isW w) (hu : WdOk u) : (I (cN u : Int) = I (cC w)) ↔ w = u := by
  have a := cN_range hu.1 hu.2.2
  have b := cC_lt hw
  have h8 := cN_ge8 hu
  rw [I_inj (by omega) (by omega)]
  unfold cC
  by_cases hl : w.length ≤ 10
  · rw [if_pos hl, ← cN_inj hw hu.1]; omega
  · rw [if_neg hl]
    have h10 := hu.2.2
    exact Iff.intro (fun q => by omega) (fun q => absurd (q ▸ h10) hl)
theorem fitsItem_eq (h : ZH) {w : Wd} (hw : isW w) {e : Nat} (he : e ≤ 8) {it : It} (ho : ItOk it) : p_X7_fitsItem (I (itC it)) (I (cC w)) (I (pr e)) h = some (bI (fitI w e it), h) := by
  cases it with
  | inl k =>
    have hk : k ≤ 3 := ho
    have e1 : I (k : Int) ≤ 3 := by rw [lit, I_le (by omega) (by decide)]; omega
    show p_X7_fitsItem (I k) _ _ _ = _
    simp only [p_X7_fitsItem, ite_ap, e1, if_true, pr_m1 (show e ≤ 1000 by omega), fitI]
    by_cases z : e = 0
    · rw [if_pos z, if_pos z]; rfl
    · rw [if_neg z, if_neg z, pr_succ e z, I_half (by omega)]
      have q : (I (k : Int) = I (((e - 1) / 2 : Nat) : Int)) ↔ (e - 1) / 2 = k := by rw [I_eqN (by omega) (by omega)]; exact eq_comm
      by_cases y : (e - 1) / 2 = k
      · rw [if_neg (fun x => x (q.mpr y)), if_pos y]; rfl
      · rw [if_pos (fun x => y (q.mp x)), if_neg y]; rfl
  | inr u =>
    have hu : WdOk u := ho
    have h8 := cN_ge8 hu
    have a := cN_range hu.1 hu.2.2
    have e1 : ¬ I (cN u : Int) ≤ 3 := by rw [lit, I_le (by omega) (by decide)]; omega
    show p_X7_fitsItem (I (cN u)) _ _ _ = _
    simp only [p_X7_fitsItem, ite_ap, e1, if_false, cC_eq hw hu, fitI]
    by_cases y : w = u
    · rw [if_neg (fun x => x y), if_pos y]; rfl
    · rw [if_pos y, if_neg y]; rfl
def sSz (j : Nat) : Nat := [3].getD j 0
/-- a style object -/
def StyIs (h : ZH) (f : FI) (sx : Nat) (s : Sty) (A : List Nat) : Prop := ∃ rw ar, Ob h 8 sx rw ar sSz ∧ f sx 1 = I s.1.length ∧ f sx 2 = I s.2.1 ∧ f sx 3 = I (cN s.2.2) ∧ (∀ (j : Nat) (it : It), s.1[j]? = some it → f (ar 0) j = I (itC it)) ∧ sx ∉ A ∧ ar 0 ∉ A
/-- the list of styles -/
def SyIs (h : ZH) (f : FI) (ls : Nat) (sl : List Sty) (A : List Nat) : Prop := ∃ arr n os, LsAt h ls arr n os ∧ f ls 2 = I sl.length ∧ os.length = sl.length ∧ ls ∉ A ∧ ∀ i, i < sl.length → ∃ s, sl[i]? = some s ∧ StyIs h f (os.getD i 0) s A ∧ SyOk s
theorem StyIs.fr {h : ZH} {f g : FI} {sx : Nat} {s : Sty} {A : List Nat} (S : StyIs h f sx s A) (F : Fr f g A) : StyIs h g sx s A := by
  obtain ⟨rw_, ar, o, s1, s2, s3, s4, s5, s6⟩ := S
  refine ⟨rw_, ar, o, ?_, ?_, ?_, ?_, s5, s6⟩
  · rw [F _ s5]; exact s1
  · rw [F _ s5]; exact s2
  · rw [F _ s5]; exact s3
  · rw [F _ s6]; exact s4
theorem SyIs.fr {h : ZH} {f g : FI} {ls : Nat} {sl : List Sty} {A : List Nat} (S : SyIs h f ls sl A) (F : Fr f g A) : SyIs h g ls sl A := by
  obtain ⟨arr, n, os, h1, h2, h3, h4, h5⟩ := S
  refine ⟨arr, n, os, h1, by rw [F _ h4]; exact h2, h3, h4, fun i hi => ?_⟩
  obtain ⟨s, q1, q2, q3⟩ := h5 i hi
  exact ⟨s, q1, q2.fr F, q3⟩
section
variable {h : ZH} {tx px : Nat} {rwt art rwp arp : Nat → Nat} {f : FI} {W : Nat → Wd} {E : Nat → Nat}
/-- the words and their readings, as a style asks for them -/
def WdC (f : FI) (a3 a1 : Nat) (W : Nat → Wd) (E : Nat → Nat) (from_ to_ : Nat) : Prop := ∀ i, from_ ≤ i → i < to_ → f a3 i = I (cC (W i)) ∧ isW (W i) ∧ f a1 i = I (pr (E i)) ∧ E i ≤ 8
theorem fits_l (ot : Ob h 10 tx rwt art tSz) (op : Ob h 4 px rwp arp pSz) {sx : Nat} {rws ars : Nat → Nat} (os : Ob h 8 sx rws ars sSz) {its : List It} (s1 : f sx 1 = I its.length) (s4 : ∀ (j : Nat) (it : It), its[j]? = some it → f (ars 0) j = I (itC it)) (hok : ∀ it ∈ its, ItOk it) (hl : its.length ≤ 3) {i to_ : Nat} (hto : i + its.length ≤ to_) (ht50 : to_ ≤ 50) (D : WdC f (art 3) (arp 1) W E i to_) :
    ∀ (t : List It) (j n : Nat), its.drop j = t → j + t.length = its.length → t.length < n → p_X7_fits_l16 n (some sx) (some tx) (some (rwp 1)) (I i) (I j) (hI h f) = some (bI (fitL W E t (i + j)), hI h f) := by
  intro t
  induction t with
  | nil =>
    intro j n h1 h2 h3
    obtain ⟨n, rfl⟩ := Nat.exists_eq_add_of_lt h3
    have e1 : I (its.length : Int) ≤ I (j : Int) := by
      simp at h2
      rw [I_le (by omega) (by omega)]; omega
    show p_X7_fits_c16 _ _ _ _ _ _ _ = _
    simp only [p_X7_fits_c16, z_b, ite_ap, o_gI os, s1, e1, if_true]
    rfl
  | cons it t ih =>
    intro j n h1 h2 h3
    obtain ⟨hat, hd⟩ := drop_at h1
    cases n with
    | zero => exact absurd h3 (Nat.not_lt_zero _)
    | succ n =>
      simp only [List.length_cons] at h2 h3
      have e1 : ¬ I (its.length : Int) ≤ I (j : Int) := by rw [I_le (by omega) (by omega)]; omega
      have e2 : I (j : Int) + 1 = I ((j + 1 : Nat) : Int) := I_add _ 1
      obtain ⟨d1, d2, d3, d4⟩ := D (i + j) (by omega) (by omega)
      have fi := fitsItem_eq (hI h f) d2 d4 (hok it (List.mem_of_getElem? hat))
      show p_X7_fits_c16 (p_X7_fits_l16 n) _ _ _ _ _ _ = some (bI (if _ then _ else _), _)
      simp only [p_X7_fits_c16, p_X9_wordNumbered, z_b, z_n, z_rt, ite_ap, o_gI os, s1, e1, if_false, o_gR os 0 (by decide), o_rv os 0 (by decide), o_get os 0 3 rfl (show j < 3 by omega), s4 j it hat, o_vr ot, o_gR ot 3 (by decide), o_rv ot 3 (by decide), I_an, o_get ot 3 50 rfl (show i + j < 50 by omega), d1, o_rv op 1 (by decide), o_get op 1 50 rfl (show i + j < 50 by omega), d3, fi, e2]
      cases q : fitI (W (i + j)) (E (i + j)) it with
      | true =>
        rw [if_pos (show ¬ bI true = 0 by decide), if_pos rfl]
        exact ih (j + 1) n hd (by omega) (by omega)
      | false =>
        rw [if_neg (show ¬ ¬ bI false = 0 by decide), if_neg (fun z => by cases z)]
        rfl
theorem fits_eq (ot : Ob h 10 tx rwt art tSz) (op : Ob h 4 px rwp arp pSz) {sx : Nat} {s : Sty} {A : List Nat} (S : StyIs h f sx s A) (ho : SyOk s) {i to_ : Nat} (hi : i ≤ to_) (ht50 : to_ ≤ 50) (D : WdC f (art 3) (arp 1) W E i to_) : p_X7_fits (some sx) (some tx) (some (rwp 1)) (I i) (I to_) (hI h f) = some (bI (fitS W E s i to_), hI h f) ∧ z_ct 8 (some sx) (hI h f) = some ((), hI h f) ∧ ∀ (α : Type) (k : ZM α), z_vr 8 (some sx) k (hI h f) = k (hI h f) := by
  obtain ⟨rws, ars, os, s1, s2, s3, s4, s5, s6⟩ := S
  obtain ⟨k1, k2, k3, k4, k5⟩ := ho
  have e1 : (I ((i + s.1.length : Nat) : Int) ≤ I (to_ : Int)) ↔ i + s.1.length ≤ to_ := by rw [I_le (by omega) (by omega)]; omega
  refine ⟨?_, if_pos os.1, fun α k => o_vr os k⟩
  unfold fitS
  simp only [p_X7_fits, z_b, ite_ap, o_gI os, s1, I_an, e1]
  by_cases q : i + s.1.length ≤ to_
  · rw [if_pos q, if_pos q]
    exact fits_l ot op os s1 s4 k5 k2 q ht50 D s.1 0 zFuel rfl (by omega) (by unfold zFuel; omega)
  · rw [if_neg q, if_neg q]; rfl
theorem low_l (ot : Ob h 10 tx rwt art tSz) (op : Ob h 4 px rwp arp pSz) {ls : Nat} {sl : List Sty} {A : List Nat} (S : SyIs h f ls sl A) (hs8 : sl.length ≤ 8) {i to_ : Nat} (hi : i ≤ to_) (ht50 : to_ ≤ 50) (D : WdC f (art 3) (arp 1) W E i to_) :
    ∀ (t : List Sty) (k n : Nat), sl.drop k = t → k + t.length = sl.length → t.length < n → p_X3_lowestFit_l3 n (some px) (some tx) (some ls) (I i) (I to_) (I k) (hI h f) = some (I (oz (lowF W E i to_ t k)), hI h f) := by
  obtain ⟨arr, nn, os, y1, y2, y3, y4, y5⟩ := S
  have lsz := ls_size (f := f) y1 (by rw [y2, y3])
  have lvr : ∀ (α : Type) (k : ZM α), z_vr 0 (some ls) k (hI h f) = k (hI h f) := fun α k => if_pos y1.1
  intro t
  induction t with
  | nil =>
    intro k n h1 h2 h3
    obtain ⟨n, rfl⟩ := Nat.exists_eq_add_of_lt h3
    have e1 : I (sl.length : Int) ≤ I (k : Int) := by
      simp at h2
      rw [I_le (by omega) (by omega)]; omega
    show p_X3_lowestFit_c3 _ _ _ _ _ _ _ _ = _
    simp only [p_X3_lowestFit_c3, z_b, z_rt, ite_ap, lvr, lsz, y3, e1, if_true]
    rfl
  | cons s t ih =>
    intro k n h1 h2 h3
    obtain ⟨hat, hd⟩ := drop_at h1
    cases n with
    | zero => exact absurd h3 (Nat.not_lt_zero _)
    | succ n =>
      simp only [List.length_cons] at h2 h3
      have e1 : ¬ I (sl.length : Int) ≤ I (k : Int) := by rw [I_le (by omega) (by omega)]; omega
      have e2 : I (k : Int) + 1 = I ((k + 1 : Nat) : Int) := I_add _ 1
      have lgt := ls_get (f := f) y1 (by rw [y2, y3]) (i := k) (by omega)
      obtain ⟨s', q1, q2, q3⟩ := y5 k (by omega)
      rw [hat] at q1
      cases q1
      obtain ⟨v1, v2, v3⟩ := fits_eq ot op q2 q3 hi ht50 D
      show p_X3_lowestFit_c3 (p_X3_lowestFit_l3 n) _ _ _ _ _ _ _ = some (I (oz (if _ then _ else _)), _)
      simp only [p_X3_lowestFit_c3, z_b, z_n, z_rt, ite_ap, lvr, lsz, y3, e1, if_false, lgt, v2, o_gR op 1 (by decide), v3, v1, e2]
      cases q : fitS W E s i to_ with
      | true =>
        rw [if_neg (show ¬ bI true = 0 by decide), if_pos rfl]
        rfl
      | false =>
        rw [if_pos (show bI false = 0 from rfl), if_neg (fun z => by cases z)]
        exact ih (k + 1) n hd (by omega) (by omega)
theorem low_eq (ot : Ob h 10 tx rwt art tSz) (op : Ob h 4 px rwp arp pSz) {ls : Nat} {sl : List Sty} {A : List Nat} (S : SyIs h f ls sl A) (hs8 : sl.length ≤ 8) {i to_ : Nat} (hi : i ≤ to_) (ht50 : to_ ≤ 50) (D : WdC f (art 3) (arp 1) W E i to_) : p_X3_lowestFit (some px) (some tx) (some ls) (I i) (I to_) (hI h f) = some (I (oz (lowF W E i to_ sl 0)), hI h f) :=
  low_l ot op S hs8 hi ht50 D sl 0 zFuel rfl (by omega) (by unfold zFuel; omega)
/-- the style of a number, none for -1 -/
theorem styleNumbered_eq {ls : Nat} {sl : List Sty} {A : List Nat} (S : SyIs h f ls sl A) (hs8 : sl.length ≤ 8) {k : Option Nat} (hk : ∀ r, k = some r → r < sl.length) :
    (k = none → p_X11_styleNumbered (some ls) (I (oz k)) (hI h f) = some (none, hI h f)) ∧ (∀ r, k = some r → ∃ sx s, sl[r]? = some s ∧ StyIs h f sx s A ∧ SyOk s ∧ p_X11_styleNumbered (some ls) (I (oz k)) (hI h f) = some (some sx, hI h f)) := by
  obtain ⟨arr, nn, os, y1, y2, y3, y4, y5⟩ := S
  have lsz := ls_size (f := f) y1 (by rw [y2, y3])
  have lvr : ∀ (α : Type) (k : ZM α), z_vr 0 (some ls) k (hI h f) = k (hI h f) := fun α k => if_pos y1.1
  have e1 : I (sl.length : Int) - 1 = I ((sl.length : Int) - 1) := by rw [show (1 : Int32) = I 1 from rfl, I_sub]
  constructor
  · intro q
    subst q
    have c1 : ¬ ((0 : Int32) ≤ I (oz none) ∧ I (oz none) ≤ I ((sl.length : Int) - 1)) := fun z => absurd z.1 (by decide)
    simp only [p_X11_styleNumbered, z_b, z_rt, ite_ap, lvr, lsz, y3, e1, isIn_eq]
    rw [if_neg c1, if_pos rfl]
  · intro r q
    subst q
    have hr := hk r rfl
    obtain ⟨s', q1, q2, q3⟩ := y5 r hr
    have q2' := q2
    obtain ⟨rws, ars, o8, -⟩ := q2'
    refine ⟨os.getD r 0, s', q1, q2, q3, ?_⟩
    have c1 : ((0 : Int32) ≤ I (oz (some r)) ∧ I (oz (some r)) ≤ I ((sl.length : Int) - 1)) := by
      show (0 : Int32) ≤ I (r : Int) ∧ I (r : Int) ≤ _
      rw [lit, I_le (by decide) (by omega), I_le (by omega) (by omega)]; omega
    have lgt : p_Jx4a65c_get_915e3 (some ls) (I (oz (some r))) (hI h f) = _ := ls_get (f := f) y1 (by rw [y2, y3]) (i := r) (by omega)
    have ct : z_ct 8 (some (os.getD r 0)) (hI h f) = some ((), hI h f) := if_pos o8.1
    simp only [p_X11_styleNumbered, z_b, z_rt, ite_ap, lvr, lsz, y3, e1, isIn_eq]
    rw [if_pos c1, if_neg (by decide)]
    simp only [lvr, lgt, ct]
end
