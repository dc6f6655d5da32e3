/-! ===== where all lies ===== -/
def hSz (j : Nat) : Nat := [2100, 21].getD j 0
/-- rows of an object: row j, its array -/
def rwL (a j : Nat) : Nat := a + 1 + 2 * j
def arL (a j : Nat) : Nat := a + 2 + 2 * j
/-- the fields of the reference that hold arrays -/
def mFl : List Nat := [2, 3, 4, 5, 6, 8, 9, 10, 11, 12, 13, 14, 15, 16, 18, 19, 21, 23, 24, 25, 27, 28, 29, 30, 31, 33, 36, 37, 38, 39, 41, 42, 43, 44, 45, 46, 47, 48, 49, 50, 51, 53, 54, 55, 57]
def mIx (j : Nat) : Nat := ([0, 0, 0, 1, 2, 3, 4, 0, 5, 6, 7, 8, 9, 10, 11, 12, 13, 0, 14, 15, 0, 16, 0, 17, 18, 19, 0, 20, 21, 22, 23, 24, 0, 25, 0, 0, 26, 27, 28, 29, 0, 30, 31, 32, 33, 34, 35, 36, 37, 38, 39, 40, 0, 41, 42, 43, 0, 44] : List Nat).getD j 0
def arM (B j : Nat) : Nat := B + 96 + mIx j
theorem mIx_ok : ∀ k : Nat, k < 45 → mIx (mFl.getD k 0) = k ∧ (mSz (mFl.getD k 0)).1 ≠ 0 := by decide +kernel
theorem mSz_fl : ∀ j : Nat, j < 60 → (mSz j).1 ≠ 0 → mIx j < 45 ∧ mFl.getD (mIx j) 0 = j := by decide +kernel
theorem mSz_lt {j : Nat} (h : (mSz j).1 ≠ 0) : j < 60 := by
  by_cases q : j < 60
  · exact q
  · exfalso
    apply h
    have e : mSz j = (0, 0) := by
      unfold mSz
      rw [List.find?_eq_none.mpr (by
        intro x hx
        have h60 : x.1 < 60 := by
          revert hx
          revert x
          decide
        simp
        omega)]
      rfl
    rw [e]
theorem uSz_lt {j : Nat} (h : uSz j ≠ 0) : j < 6 := by
  by_cases q : j < 6
  · exact q
  · exfalso; apply h; unfold uSz
    rw [List.getD_eq_getElem?_getD, List.getElem?_eq_none (by simp; omega)]; rfl
theorem gSz_lt {j : Nat} (h : gSz j ≠ 0) : j < 2 := by
  by_cases q : j < 2
  · exact q
  · exfalso; apply h; unfold gSz
    rw [List.getD_eq_getElem?_getD, List.getElem?_eq_none (by simp; omega)]; rfl
theorem tSz_lt {j : Nat} (h : tSz j ≠ 0) : j < 6 := by
  by_cases q : j < 6
  · exact q
  · exfalso; apply h; unfold tSz
    rw [List.getD_eq_getElem?_getD, List.getElem?_eq_none (by simp; omega)]; rfl
theorem hSz_lt {j : Nat} (h : hSz j ≠ 0) : j < 2 := by
  by_cases q : j < 2
  · exact q
  · exfalso; apply h; unfold hSz
    rw [List.getD_eq_getElem?_getD, List.getElem?_eq_none (by simp; omega)]; rfl
theorem pSz_lt {j : Nat} (h : pSz j ≠ 0) : j < 6 := by
  by_cases q : j < 6
  · exact q
  · exfalso; apply h; unfold pSz
    rw [List.getD_eq_getElem?_getD, List.getElem?_eq_none (by simp; omega)]; rfl
theorem sSz_lt {j : Nat} (h : sSz j ≠ 0) : j = 0 := by
  by_cases q : j < 1
  · omega
  · exfalso; apply h; unfold sSz
    rw [List.getD_eq_getElem?_getD, List.getElem?_eq_none (by simp; omega)]; rfl
def cRf (j : Nat) : Nat := [1, 24, 37, 42, 43, 48, 61, 74, 79].getD j 0
/-- the class's objects that stay -/
def CSh (H : ZH) (B : Nat) : Prop :=
  (zK H B = (18, 0) ∧ (∀ j, j < 9 → zR H B j = some (B + cRf j)) ∧ zK H (B + 2) = (6, 0) ∧ zK H (B + 3) = (6, 0) ∧ zK H (B + 42) = (6, 0)) ∧
  LxAt H (B + 1) (B + 2) (B + 3) (B + 4) (B + 9) (B + 14) (B + 19) ∧
  (BkAt H (B + 4) (B + 5) (B + 6) (B + 7) (B + 8) 1548 ∧ BkAt H (B + 9) (B + 10) (B + 11) (B + 12) (B + 13) 10 ∧ BkAt H (B + 14) (B + 15) (B + 16) (B + 17) (B + 18) 10 ∧ BkAt H (B + 19) (B + 20) (B + 21) (B + 22) (B + 23) 1558 ∧ BkAt H (B + 43) (B + 44) (B + 45) (B + 46) (B + 47) 512) ∧
  Ob H 9 (B + 24) (rwL (B + 24)) (arL (B + 24)) uSz ∧ Ob H 1 (B + 37) (rwL (B + 37)) (arL (B + 37)) gSz ∧ Ob H 10 (B + 48) (rwL (B + 48)) (arL (B + 48)) tSz ∧ Ob H 10 (B + 61) (rwL (B + 61)) (arL (B + 61)) tSz ∧ Ob H 2 (B + 74) (rwL (B + 74)) (arL (B + 74)) hSz ∧ Ob H 4 (B + 79) (rwL (B + 79)) (arL (B + 79)) pSz
/-- the reference and the cell of answers -/
def MSh (H : ZH) (B : Nat) : Prop := MAt H (B + 95) (arM B) ∧ zK H (B + 141) = (2, 1)
theorem RowAt.mv {H H' : ZH} {a arr n : Nat} (r : RowAt H a arr n) (h1 : zK H' a = zK H a) (h2 : zR H' a 0 = zR H a 0) (h3 : zK H' arr = zK H arr) : RowAt H' a arr n := by
  unfold RowAt at *
  rw [h1, h2, h3]; exact r
theorem Ob.mv {H H' : ZH} {c x : Nat} {rw_ ar sz : Nat → Nat} (o : Ob H c x rw_ ar sz) (h1 : zK H' x = zK H x) (h2 : ∀ j, sz j ≠ 0 → zR H' x j = zR H x j ∧ zK H' (rw_ j) = zK H (rw_ j) ∧ zR H' (rw_ j) 0 = zR H (rw_ j) 0 ∧ zK H' (ar j) = zK H (ar j)) : Ob H' c x rw_ ar sz := by
  obtain ⟨a, b, c'⟩ := o
  refine ⟨by rw [h1]; exact a, fun j hj => ?_, c'⟩
  obtain ⟨x1, x2, x3, x4⟩ := h2 j hj
  obtain ⟨y1, y2, y3⟩ := b j hj
  exact ⟨by rw [x1]; exact y1, y2.mv x2 x3 x4, y3⟩
theorem BkAt.mv {H H' : ZH} {k r1 a1 r2 a2 m : Nat} (b : BkAt H k r1 a1 r2 a2 m) (hk : ∀ q ∈ [k, r1, a1, r2, a2], zK H' q = zK H q) (hr : ∀ q ∈ [k, r1, r2], ∀ j, zR H' q j = zR H q j) : BkAt H' k r1 a1 r2 a2 m := by
  unfold BkAt RowAt at *
  rw [hk k (by simp), hk r1 (by simp), hk a1 (by simp), hk r2 (by simp), hk a2 (by simp), hr k (by simp), hr k (by simp), hr r1 (by simp), hr r2 (by simp)]
  exact b
theorem CSh.mv {H H' : ZH} {B : Nat} (C : CSh H B) (hk : ∀ b, B ≤ b → b < B + 142 → zK H' b = zK H b) (hr : ∀ b j, B ≤ b → b < B + 142 → b ≠ B + 2 → b ≠ B + 3 → b ≠ B + 42 → (b = B → j ≠ 9) → zR H' b j = zR H b j) : CSh H' B := by
  obtain ⟨⟨a1, a2, a3, a4, a5⟩, lx, ⟨b1, b2, b3, b4, b5⟩, o1, o2, o3, o4, o5, o6⟩ := C
  have obm : ∀ {c o n : Nat} {sz : Nat → Nat}, (∀ j, sz j ≠ 0 → j < n) → 3 ≤ o → o + 2 + 2 * n ≤ 142 → (∀ d, d ≤ 2 * n → o + d ≠ 42) → Ob H c (B + o) (rwL (B + o)) (arL (B + o)) sz → o ≠ 3 → Ob H' c (B + o) (rwL (B + o)) (arL (B + o)) sz := by
    intro c o n sz hl h3 hb h42 ob h3'
    refine ob.mv (hk _ (by omega) (by omega)) (fun j hj => ?_)
    have := hl j hj
    have h420 := h42 0 (by omega)
    have h421 := h42 (1 + 2 * j) (by omega)
    refine ⟨hr _ _ (by omega) (by omega) (by omega) (by omega) (by omega) (by omega), hk _ (by unfold rwL; omega) (by unfold rwL; omega), hr _ _ (by unfold rwL; omega) (by unfold rwL; omega) (by unfold rwL; omega) (by unfold rwL; omega) (by unfold rwL; omega) (by unfold rwL; omega), hk _ (by unfold arL; omega) (by unfold arL; omega)⟩
  have bkm : ∀ {o m : Nat}, 4 ≤ o → o + 5 ≤ 142 → (o + 5 ≤ 42 ∨ 43 ≤ o) → BkAt H (B + o) (B + (o + 1)) (B + (o + 2)) (B + (o + 3)) (B + (o + 4)) m → BkAt H' (B + o) (B + (o + 1)) (B + (o + 2)) (B + (o + 3)) (B + (o + 4)) m := by
    intro o m h4 h5 h42 b
    refine b.mv (fun q hq => ?_) (fun q hq j => ?_)
    · simp only [List.mem_cons, List.not_mem_nil, or_false] at hq
      exact hk _ (by omega) (by omega)
    · simp only [List.mem_cons, List.not_mem_nil, or_false] at hq
      exact hr _ _ (by omega) (by omega) (by omega) (by omega) (by omega) (by omega)
  refine ⟨⟨by rw [hk B (Nat.le_refl _) (by omega)]; exact a1, fun j hj => by rw [hr B j (Nat.le_refl _) (by omega) (by omega) (by omega) (by omega) (by omega)]; exact a2 j hj, by rw [hk _ (by omega) (by omega)]; exact a3, by rw [hk _ (by omega) (by omega)]; exact a4, by rw [hk _ (by omega) (by omega)]; exact a5⟩, ?_, ⟨bkm (o := 4) (by omega) (by omega) (by omega) b1, bkm (o := 9) (by omega) (by omega) (by omega) b2, bkm (o := 14) (by omega) (by omega) (by omega) b3, bkm (o := 19) (by omega) (by omega) (by omega) b4, bkm (o := 43) (by omega) (by omega) (by omega) b5⟩,
    obm (n := 6) (fun j => uSz_lt) (by omega) (by omega) (by intro d hd; omega) o1 (by omega), obm (n := 2) (fun j => gSz_lt) (by omega) (by omega) (by intro d hd; omega) o2 (by omega), obm (n := 6) (fun j => tSz_lt) (by omega) (by omega) (by intro d hd; omega) o3 (by omega), obm (n := 6) (fun j => tSz_lt) (by omega) (by omega) (by intro d hd; omega) o4 (by omega), obm (n := 2) (fun j => hSz_lt) (by omega) (by omega) (by intro d hd; omega) o5 (by omega), obm (n := 6) (fun j => pSz_lt) (by omega) (by omega) (by intro d hd; omega) o6 (by omega)⟩
  unfold LxAt at *
  rw [hk _ (by omega) (by omega), hr _ 0 (by omega) (by omega) (by omega) (by omega) (by omega) (by omega), hr _ 1 (by omega) (by omega) (by omega) (by omega) (by omega) (by omega), hr _ 2 (by omega) (by omega) (by omega) (by omega) (by omega) (by omega), hr _ 3 (by omega) (by omega) (by omega) (by omega) (by omega) (by omega), hr _ 4 (by omega) (by omega) (by omega) (by omega) (by omega) (by omega), hr _ 5 (by omega) (by omega) (by omega) (by omega) (by omega) (by omega)]
  exact lx
theorem MSh.mv {H H' : ZH} {B : Nat} (C : MSh H B) (hk : ∀ b, B + 95 ≤ b → b < B + 142 → zK H' b = zK H b) (hr : ∀ j, zR H' (B + 95) j = zR H (B + 95) j) : MSh H' B := by
  obtain ⟨⟨a, b, c⟩, d⟩ := C
  refine ⟨⟨by rw [hk _ (by omega) (by omega)]; exact a, fun j hj => ?_, c⟩, by rw [hk _ (by omega) (by omega)]; exact d⟩
  obtain ⟨x, y, z⟩ := b j hj
  have := (mSz_fl j (mSz_lt hj) hj).1
  exact ⟨by rw [hr]; exact x, by rw [hk _ (by unfold arM; omega) (by unfold arM; omega)]; exact y, z⟩
/-- the static cells whose whole numbers calls may change: all but the lists and the first drafted style -/
def AA (B : Nat) : List Nat := ((List.range 142).filter (fun i => i != 2 && i != 3 && i != 42 && i != 92 && i != 93 && i != 94)).map (fun i => B + i)
theorem AA_mem {B a : Nat} : a ∈ AA B ↔ B ≤ a ∧ a < B + 142 ∧ a ≠ B + 2 ∧ a ≠ B + 3 ∧ a ≠ B + 42 ∧ a ≠ B + 92 ∧ a ≠ B + 93 ∧ a ≠ B + 94 := by
  unfold AA
  simp only [List.mem_map, List.mem_filter, List.mem_range, Bool.and_eq_true, bne_iff_ne]
  constructor
  · rintro ⟨i, h1, h2⟩; omega
  · intro h; exact ⟨a - B, by omega, by omega⟩
