/-! ===== rows and books of the class, on the whole numbers of a heap ===== -/
abbrev FI : Type := Nat → Nat → Int32
theorem sI_hI (h : ZH) (f : FI) (a k : Nat) (v : Int32) : zsI (hI h f) a k v = hI h (zu f a k v) := rfl
theorem wI_hI (h : ZH) (f : FI) (a : Nat) (g : Nat → Int32) : zwI (hI h f) a g = hI h (zw f a g) := rfl
/-- only these cells' whole numbers may differ -/
def Fr (f g : FI) (A : List Nat) : Prop := ∀ b, b ∉ A → g b = f b
theorem Fr.refl (f : FI) (A : List Nat) : Fr f f A := fun _ _ => rfl
theorem Fr.trans {f g k : FI} {A : List Nat} (h1 : Fr f g A) (h2 : Fr g k A) : Fr f k A := fun b hb => (h2 b hb).trans (h1 b hb)
theorem Fr.mono {f g : FI} {A A' : List Nat} (h : Fr f g A) (hs : ∀ b ∈ A, b ∈ A') : Fr f g A' := fun b hb => h b (fun q => hb (hs b q))
theorem Fr.zu {f : FI} {A : List Nat} {a k : Nat} {v : Int32} (ha : a ∈ A) : Fr f (zu f a k v) A := fun b hb => by
  funext j
  show (if b = a ∧ j = k then v else f b j) = f b j
  rw [if_neg (fun (q : b = a ∧ j = k) => hb (q.1 ▸ ha))]
theorem Fr.zw {f : FI} {A : List Nat} {a : Nat} {g : Nat → Int32} (ha : a ∈ A) : Fr f (zw f a g) A := fun b hb => by
  show (if b = a then g else f b) = f b
  rw [if_neg (fun (q : b = a) => hb (q ▸ ha))]
theorem zu_same {α : Type} (f : Nat → Nat → α) (a k : Nat) (v : α) : zu f a k v a k = v := by simp [zu]
theorem zu_cell {α : Type} (f : Nat → Nat → α) (a k j : Nat) (v : α) : zu f a k v a j = if j = k then v else f a j := by simp [zu]
theorem zu_ne {α : Type} {f : Nat → Nat → α} {a b : Nat} (h : b ≠ a) (k : Nat) (v : α) : zu f a k v b = f b := by
  funext j; simp [zu, h]
theorem zw_same {α : Type} (f : Nat → α) (a : Nat) (g : α) : zw f a g a = g := by simp [zw]
theorem zw_ne {α : Type} {f : Nat → α} {a b : Nat} (h : b ≠ a) (g : α) : zw f a g b = f b := by simp [zw, h]
theorem row_getN {h : ZH} {f : FI} {a arr n : Nat} (r : RowAt h a arr n) {i : Nat} (hi : i < n) : p_X4_get (some a) (I i) (hI h f) = some (f arr i, hI h f) := by
  have := row_get (h := hI h f) r (i := i) (by have := r.2.2.2; omega)
  rw [this, if_pos (by omega)]
  rfl
theorem row_setN {h : ZH} {f : FI} {a arr n : Nat} (r : RowAt h a arr n) {i : Nat} (hi : i < n) (v : Int32) : p_X4_set (some a) (I i) v (hI h f) = some ((), hI h (zu f arr i v)) := by
  have := row_set (h := hI h f) r (i := i) (by have := r.2.2.2; omega) v
  rw [this, if_pos (by omega)]
  rfl
/-- a row with one more entry -/
def insF (g : Nat → Int32) (i u : Nat) (v : Int32) : Nat → Int32 := fun k => if k < i then g k else if k = i then v else if k ≤ u then g (k - 1) else g k
theorem row_insertN {h : ZH} {f : FI} {a arr n : Nat} (r : RowAt h a arr n) {i u : Nat} (hi : i ≤ u) (hu : u < n) (v : Int32) : p_X4_insert (some a) (I i) v (I u) (hI h f) = some ((), hI h (zw f arr (insF (f arr) i u v))) := by
  have := row_insert (h := hI h f) r (i := i) (u := u) (by have := r.2.2.2; omega) (by have := r.2.2.2; omega) v
  rw [this, if_pos (by omega)]
  rfl
/-- a row with one entry less -/
def remF (g : Nat → Int32) (i u : Nat) : Nat → Int32 := fun k => if i ≤ k ∧ k + 1 < u then g (k + 1) else g k
theorem row_removeN {h : ZH} {f : FI} {a arr n : Nat} (r : RowAt h a arr n) {i u : Nat} (hi : i < u) (hu : u ≤ n) : p_X4_remove (some a) (I i) (I u) (hI h f) = some ((), hI h (zw f arr (remF (f arr) i u))) := by
  obtain ⟨r1, r2, r3, r4⟩ := r
  have e0 : ¬ (I (i : Int) < 0) := by rw [I_0, I_lt (by omega) (by omega)]; omega
  have e1 : ¬ (Int32.ofNat n < I (u : Int)) := by rw [I_ofNat, I_lt (by omega) (by omega)]; omega
  have e2 : (I (i : Int)).toNatClampNeg = i := by rw [I_nat (by omega)]; omega
  have e3 : ¬ (I (u : Int) ≤ I (i : Int)) := by rw [I_le (by omega) (by omega)]; omega
  have e4 : I (i : Int) + 1 = I ((i + 1 : Nat) : Int) := I_add i 1
  have e5 : I (u : Int) - I (i : Int) - 1 = I ((u - i - 1 : Nat) : Int) := by
    rw [show (1 : Int32) = I ((1 : Nat) : Int) from rfl, I_sn _ _ (by omega), I_sn _ _ (by omega)]
  have e6 : (I ((i + 1 : Nat) : Int)).toNatClampNeg = i + 1 := by rw [I_nat (by omega)]; omega
  have e7 : (I ((u - i - 1 : Nat) : Int)).toNatClampNeg = u - i - 1 := by rw [I_nat (by omega)]; omega
  have e8 : ¬ (I ((i + 1 : Nat) : Int) < 0) := by rw [I_0, I_lt (by omega) (by omega)]; omega
  have e9 : ¬ (I ((u - i - 1 : Nat) : Int) < 0) := by rw [I_0, I_lt (by omega) (by omega)]; omega
  have n3 : i + (u - i - 1) ≤ n := by omega
  have n4 : i + 1 + (u - i - 1) ≤ n := by omega
  simp only [p_X4_remove, ite_ap, z_b, z_n, z_rt, z_vr, z_gI, z_gR, z_pI, z_pR, hI_K, hI_R, hI_I, hI_hI, hI_T, hI_N, hI_L, hI_D, sI_hI, wI_hI, if_true, z_aN, z_same, z_cp, r1, r2, r3, e0, e1, e2, e3, e4, e5, e6, e7, e8, e9, n3, n4, if_false, true_or, not_false_eq_true, and_self]
  congr 4
  funext k
  simp only [va_cpy, remF]
  by_cases hc : i ≤ k ∧ k + 1 < u
  · rw [if_pos hc, if_pos (by omega)]
    congr 1
    omega
  · rw [if_neg hc, if_neg (by omega)]
/-! books: entries of word and value, in order -/
abbrev Bk : Type := List (Nat × Nat)
def bget : Bk → Nat → Nat
  | [], _ => 0
  | (c, v) :: t, w => if c = w then v else bget t w
def bput : Bk → Nat → Nat → Bk
  | [], w, v => [(w, v)]
  | (c, x) :: t, w, v => if c < w then (c, x) :: bput t w v else if c = w then (w, v) :: t else (w, v) :: (c, x) :: t
def bdel : Bk → Nat → Bk
  | [], _ => []
  | (c, x) :: t, w => if c = w then t else (c, x) :: bdel t w
/-- how many entries are ahead of a word -/
def brank : Bk → Nat → Nat
  | [], _ => 0
  | (c, _) :: t, w => if c < w then brank t w + 1 else 0
def SB (l : Bk) : Prop := l.Pairwise (fun a b => a.1 < b.1)
def cd (l : Bk) (i : Nat) : Nat := (l.getD i (0, 0)).1
def vl (l : Bk) (i : Nat) : Nat := (l.getD i (0, 0)).2
theorem brank_le (l : Bk) (w : Nat) : brank l w ≤ l.length := by
  induction l with
  | nil => exact Nat.le_refl _
  | cons x t ih => obtain ⟨c, v⟩ := x; simp only [brank]; split <;> simp <;> omega
theorem brank_lt {l : Bk} {w i : Nat} (h : i < brank l w) : cd l i < w := by
  induction l generalizing i with
  | nil => exact absurd h (Nat.not_lt_zero _)
  | cons x t ih =>
    obtain ⟨c, v⟩ := x
    simp only [brank] at h
    split at h
    · rename_i hc
      cases i with
      | zero => exact hc
      | succ i => exact ih (Nat.lt_of_succ_lt_succ h)
    · omega
theorem brank_ge {l : Bk} (hs : SB l) {w i : Nat} (h : brank l w ≤ i) (hi : i < l.length) : w ≤ cd l i := by
  induction l generalizing i with
  | nil => exact absurd hi (Nat.not_lt_zero _)
  | cons x t ih =>
    obtain ⟨c, v⟩ := x
    simp only [brank] at h
    obtain ⟨h1, h2⟩ := List.pairwise_cons.mp hs
    split at h
    · cases i with
      | zero => omega
      | succ i => exact ih h2 (by omega) (by simpa using hi)
    · cases i with
      | zero => show w ≤ c; omega
      | succ i =>
        have h3 : i < t.length := by simpa using hi
        have h4 := h1 _ (List.getElem_mem h3)
        show w ≤ (t.getD i (0, 0)).1
        rw [List.getD_eq_getElem?_getD, List.getElem?_eq_getElem h3]
        show w ≤ t[i].1
        have : c < t[i].1 := h4
        omega
theorem bget_eq {l : Bk} (hs : SB l) (w : Nat) : bget l w = if brank l w < l.length ∧ cd l (brank l w) = w then vl l (brank l w) else 0 := by
  induction l with
  | nil => rfl
  | cons x t ih =>
    obtain ⟨c, v⟩ := x
    obtain ⟨h1, h2⟩ := List.pairwise_cons.mp hs
    have g : bget ((c, v) :: t) w = if c = w then v else bget t w := rfl
    rw [g]
    by_cases hc : c < w
    · have e : brank ((c, v) :: t) w = brank t w + 1 := by simp only [brank, if_pos hc]
      rw [e, if_neg (by omega), ih h2]
      simp only [List.length_cons, Nat.add_lt_add_iff_right]
      rfl
    · have e : brank ((c, v) :: t) w = 0 := by simp only [brank, if_neg hc]
      rw [e]
      by_cases he : c = w
      · rw [if_pos he, if_pos ⟨by simp, he⟩]; rfl
      · rw [if_neg he, if_neg (fun q => he q.2)]
        clear g e
        clear ih
        induction t with
        | nil => rfl
        | cons y t ih2 =>
          obtain ⟨c2, v2⟩ := y
          have h3 : c < c2 := h1 (c2, v2) List.mem_cons_self
          show (if c2 = w then v2 else bget t w) = 0
          rw [if_neg (by omega)]
          exact ih2 (List.pairwise_cons.mpr ⟨fun z hz => h1 z (List.mem_cons_of_mem _ hz), (List.pairwise_cons.mp h2).2⟩) (fun z hz => h1 z (List.mem_cons_of_mem _ hz)) (List.pairwise_cons.mp h2).2
/-- a book's cells: itself, its two rows with their arrays, its room -/
def BkAt (h : ZH) (k r1 a1 r2 a2 m : Nat) : Prop := zK h k = (17, 0) ∧ zR h k 0 = some r1 ∧ zR h k 1 = some r2 ∧ RowAt h r1 a1 m ∧ RowAt h r2 a2 m ∧ k ≠ a1 ∧ k ≠ a2 ∧ a1 ≠ a2 ∧ m < 30000
/-- what stands in a book -/
def BkIs (f : FI) (k a1 a2 m : Nat) (l : Bk) : Prop := f k 2 = I m ∧ f k 3 = I l.length ∧ l.length ≤ m ∧ SB l ∧ (∀ i, i < l.length → f a1 i = I (cd l i) ∧ f a2 i = I (vl l i)) ∧ (∀ i, i < l.length → cd l i < 2147483648 ∧ vl l i < 2147483648)
theorem place_l {h : ZH} {f : FI} {k r1 a1 r2 a2 m : Nat} (sh : BkAt h k r1 a1 r2 a2 m) {l : Bk} (b : BkIs f k a1 a2 m l) {w : Nat} (hw : w < 2147483648) : ∀ (n low high step : Nat), low ≤ brank l w → brank l w ≤ high → high ≤ l.length → step ≤ 16 → high - low < 2 ^ (16 - step) → 16 - step < n → p_X10_placeOf_l10 n (some k) (I w) (I low) (I high) (I step) (hI h f) = some (I (brank l w), hI h f) := by
  intro n
  induction n with
  | zero => intro _ _ _ _ _ _ _ _ q; exact absurd q (Nat.not_lt_zero _)
  | succ n ih =>
    intro low high step h1 h2 h3 h4 h5 h6
    obtain ⟨s1, s2, s3, s4, s5, s6, s7, s8, s9⟩ := sh
    obtain ⟨b1, b2, b3, b4, b5, b6⟩ := b
    have sh : BkAt h k r1 a1 r2 a2 m := ⟨s1, s2, s3, s4, s5, s6, s7, s8, s9⟩
    have b : BkIs f k a1 a2 m l := ⟨b1, b2, b3, b4, b5, b6⟩
    show p_X10_placeOf_c10 (p_X10_placeOf_l10 n) (some k) (I w) (I low) (I high) (I step) (hI h f) = _
    have e1 : (16 ≤ I (step : Int)) ↔ 16 ≤ step := by rw [lit, I_le (by omega) (by omega)]; omega
    have e2 : (I (high : Int) ≤ I (low : Int)) ↔ high ≤ low := by rw [I_le (by omega) (by omega)]; omega
    have e3 : (I (low : Int) + I (high : Int)) / 2 = I (((low + high) / 2 : Nat) : Int) := by
      rw [I_an, lit, I_div (by omega) (by omega)]; rfl
    have e4 : I (step : Int) + 1 = I ((step + 1 : Nat) : Int) := I_add step 1
    have e5 : I (((low + high) / 2 : Nat) : Int) + 1 = I (((low + high) / 2 + 1 : Nat) : Int) := I_add _ 1
    by_cases c1 : step = 16
    · subst c1
      simp only [p_X10_placeOf_c10, ite_ap, e1, Nat.le_refl, if_true, z_rt]
      rw [show low = brank l w by simp at h5; omega]
    · by_cases c2 : high ≤ low
      · simp only [p_X10_placeOf_c10, ite_ap, e1, e2, c2, if_true, z_rt]
        rw [if_neg (by omega), show low = brank l w by omega]
      · have hm : (low + high) / 2 < l.length := by omega
        have g := row_getN (f := f) s4 (i := (low + high) / 2) (by omega)
        have hp : 2 ^ (16 - step) = 2 * 2 ^ (16 - (step + 1)) := by
          rw [show 16 - step = (16 - (step + 1)) + 1 by omega, Nat.pow_succ, Nat.mul_comm]
        simp only [p_X10_placeOf_c10, p_X10_placeOf_b53, ite_ap, z_b, z_n, z_rt, z_vr, z_gI, z_gR, z_pI, z_pR, hI_K, hI_R, hI_I, hI_hI, hI_T, hI_N, hI_L, hI_D, sI_hI, wI_hI, if_true, e1, e2, e3, c2, s1, s2, s4.1, g, if_false]
        rw [if_neg (by omega), (b5 _ hm).1]
        have e6 : (I (w : Int) ≤ I (cd l ((low + high) / 2) : Int)) ↔ w ≤ cd l ((low + high) / 2) := by
          have := (b6 _ hm).1
          rw [I_le (by omega) (by omega)]; omega
        simp only [e6, e4, e5]
        by_cases c3 : w ≤ cd l ((low + high) / 2)
        · rw [if_pos c3]
          refine ih low ((low + high) / 2) (step + 1) h1 (Nat.le_of_not_lt fun q => ?_) (by omega) (by omega) (by omega) (by omega)
          have := brank_lt q
          omega
        · rw [if_neg c3]
          refine ih ((low + high) / 2 + 1) high (step + 1) (Nat.le_of_not_lt fun q => ?_) h2 h3 (by omega) (by omega) (by omega)
          have := brank_ge b4 (w := w) (i := (low + high) / 2) (by omega) hm
          omega
theorem place_eq {h : ZH} {f : FI} {k r1 a1 r2 a2 m : Nat} (sh : BkAt h k r1 a1 r2 a2 m) {l : Bk} (b : BkIs f k a1 a2 m l) {w : Nat} (hw : w < 2147483648) : p_X10_placeOf (some k) (I w) (hI h f) = some (I (brank l w), hI h f) := by
  have hl := b.2.2.1
  have := place_l sh b hw zFuel 0 l.length 0 (Nat.zero_le _) (brank_le _ _) (Nat.le_refl _) (by omega) (by have := sh.2.2.2.2.2.2.2.2; omega) (by unfold zFuel; omega)
  simp only [p_X10_placeOf, ite_ap, z_b, z_n, z_rt, z_vr, z_gI, z_gR, z_pI, z_pR, hI_K, hI_R, hI_I, hI_hI, hI_T, hI_N, hI_L, hI_D, sI_hI, wI_hI, if_true, sh.1, b.2.1]
  exact this
