/-! which words an edit has checked anew: what is counted, and the class -/
def eqR (t b : List Nat) (s u : Nat) : Nat → Nat → Bool
  | 0, _ => true
  | c + 1, j => if t.getD (s + j) 0 = b.getD (u + j) 0 then eqR t b s u c (j + 1) else false
/-- sentence i of t is like sentence j of b -/
def lk (t : List Nat) (i : Nat) (b : List Nat) (j : Nat) : Bool :=
  sSt (esOf t) (i + 1) - sSt (esOf t) i == sSt (esOf b) (j + 1) - sSt (esOf b) j && eqR t b (sSt (esOf t) i) (sSt (esOf b) j) (sSt (esOf t) (i + 1) - sSt (esOf t) i) 0
def cntR (P : Nat → Bool) : Nat → Nat → Nat → Nat
  | 0, _, acc => acc
  | c + 1, j, acc => cntR P c (j + 1) (if P j = true then acc + 1 else acc)
def nw (t : List Nat) (i : Nat) : Nat := sFw (esOf t) (i + 1) - sFw (esOf t) i
def chkA (t b : List Nat) : Nat → Nat → Nat → Nat
  | 0, _, acc => acc
  | c + 1, i, acc => chkA t b c (i + 1) (if 0 < nw t i ∧ cntR (lk t i b) (esOf b).length 0 0 < cntR (lk t i t) (i + 1) 0 0 then acc + nw t i else acc)
def chkF (t b : List Nat) : Nat := chkA t b (esOf t).length 0 0
theorem cntR_le (P : Nat → Bool) : ∀ c j acc, cntR P c j acc ≤ acc + c := by
  intro c
  induction c with
  | zero => intro j acc; exact Nat.le_refl _
  | succ c ih =>
    intro j acc
    have := ih (j + 1) (if P j = true then acc + 1 else acc)
    show cntR P c (j + 1) _ ≤ _
    split at this <;> rename_i q
    · rw [if_pos q]; omega
    · rw [if_neg q]; omega
section
variable {h : ZH} {tx ty : Nat} {rw ar rw' ar' : Nat → Nat} {f : FI} {t b : List Nat}
theorem foc_get (F : FoC f tx ar t) {i : Nat} (hi : i < t.length) : f (ar 0) i = I (t.getD i 0) := by
  obtain ⟨⟨t1, t2, t3⟩, -⟩ := F
  refine t3 i _ ?_
  rw [List.getD_eq_getElem?_getD, List.getElem?_eq_getElem hi]; rfl
theorem foc_sg (F : FoC f tx ar t) {i : Nat} (hi : i < t.length) : t.getD i 0 < 1000 := by
  rw [List.getD_eq_getElem?_getD, List.getElem?_eq_getElem hi]
  exact sg_lt (F.2.1 _ (List.getElem_mem hi))
theorem foc_st (F : FoC f tx ar t) {i : Nat} (hi : i ≤ (esOf t).length) : f (ar 4) i = I (sSt (esOf t) i) ∧ f (ar 5) i = I (sFw (esOf t) i) := by
  obtain ⟨-, -, -, e1, e2, e3, e4⟩ := F
  cases i with
  | zero => exact ⟨e2, e3⟩
  | succ i =>
    have := e4 i ((esOf t).getD i (0, 0)) (by rw [List.getD_eq_getElem?_getD, List.getElem?_eq_getElem (by omega)]; rfl)
    exact this
theorem foc_len (F : FoC f tx ar t) : t.length ≤ 100 ∧ (esOf t).length ≤ 101 := by
  have := F.1.2.1
  have h2 := es_len t
  exact ⟨this, by omega⟩
theorem il_l (o : Ob h 10 tx rw ar tSz) (o' : Ob h 10 ty rw' ar' tSz) (F : FoC f tx ar t) (F' : FoC f ty ar' b) {s u len : Nat} (h1 : s + len ≤ t.length) (h2 : u + len ≤ b.length) :
    ∀ (c j n : Nat), j + c = len → c < n → p_X9_isLike_l58 n (some tx) (some ty) (I s) (I u) (I len) (I j) (hI h f) = some (bI (eqR t b s u c j), hI h f) := by
  intro c
  induction c with
  | zero =>
    intro j n hj hn
    obtain ⟨n, rfl⟩ := Nat.exists_eq_add_of_lt hn
    have a1 := (foc_len F).1
    have e1 : I (len : Int) ≤ I (j : Int) := by rw [I_le (by omega) (by omega)]; omega
    show p_X9_isLike_c58 _ _ _ _ _ _ _ _ = _
    simp only [p_X9_isLike_c58, ite_ap, e1, if_true]
    rfl
  | succ c ih =>
    intro j n hj hn
    cases n with
    | zero => exact absurd hn (Nat.not_lt_zero _)
    | succ n =>
      have a1 := (foc_len F).1
      have a2 := (foc_len F').1
      have e1 : ¬ I (len : Int) ≤ I (j : Int) := by rw [I_le (by omega) (by omega)]; omega
      have e2 : I (j : Int) + 1 = I ((j + 1 : Nat) : Int) := I_add _ 1
      have g1 := foc_get F (i := s + j) (by omega)
      have g2 := foc_get F' (i := u + j) (by omega)
      have l1 := foc_sg F (i := s + j) (by omega)
      have l2 := foc_sg F' (i := u + j) (by omega)
      have q : (I (t.getD (s + j) 0 : Int) = I (b.getD (u + j) 0)) ↔ t.getD (s + j) 0 = b.getD (u + j) 0 := I_eqN (by omega) (by omega)
      show p_X9_isLike_c58 (p_X9_isLike_l58 n) _ _ _ _ _ _ _ = some (bI (if _ then _ else _), _)
      simp only [p_X9_isLike_c58, ite_ap, e1, if_false, z_b, z_n, o_gR o 0 (by decide), o_rv o 0 (by decide), I_an, o_get o 0 100 rfl (show s + j < 100 by omega), g1, o_gR o' 0 (by decide), o_rv o' 0 (by decide), o_get o' 0 100 rfl (show u + j < 100 by omega), g2, q, e2]
      by_cases z : t.getD (s + j) 0 = b.getD (u + j) 0
      · rw [if_pos z, if_pos z]
        exact ih (j + 1) n (by omega) (by omega)
      · rw [if_neg z, if_neg z]
        rfl
theorem il_eq (o : Ob h 10 tx rw ar tSz) (o' : Ob h 10 ty rw' ar' tSz) (F : FoC f tx ar t) (F' : FoC f ty ar' b) {i j : Nat} (hi : i < (esOf t).length) (hj : j < (esOf b).length) :
    p_X9_isLike (some tx) (I i) (some ty) (I j) (hI h f) = some (bI (lk t i b j), hI h f) := by
  have a1 := foc_len F
  have a2 := foc_len F'
  have b1 := (st_le t hi).1
  have b2 := (st_le b hj).1
  have c1 := (st_max t (show i + 1 ≤ (esOf t).length by omega)).1
  have c2 := (st_max b (show j + 1 ≤ (esOf b).length by omega)).1
  have e1 : I (i : Int) + 1 = I ((i + 1 : Nat) : Int) := I_add _ 1
  have e2 : I (j : Int) + 1 = I ((j + 1 : Nat) : Int) := I_add _ 1
  have q : (I ((sSt (esOf t) (i + 1) - sSt (esOf t) i : Nat) : Int) = I ((sSt (esOf b) (j + 1) - sSt (esOf b) j : Nat) : Int)) ↔ sSt (esOf t) (i + 1) - sSt (esOf t) i = sSt (esOf b) (j + 1) - sSt (esOf b) j := I_eqN (by omega) (by omega)
  simp only [p_X9_isLike, z_b, z_n, ite_ap, o_gR o 4 (by decide), o_rv o 4 (by decide), o_get o 4 102 rfl (show i < 102 by omega), (foc_st F (show i ≤ (esOf t).length by omega)).1, o_gR o' 4 (by decide), o_rv o' 4 (by decide), o_get o' 4 102 rfl (show j < 102 by omega), (foc_st F' (show j ≤ (esOf b).length by omega)).1, e1, e2, o_get o 4 102 rfl (show i + 1 < 102 by omega), (foc_st F (show i + 1 ≤ (esOf t).length by omega)).1, o_get o' 4 102 rfl (show j + 1 < 102 by omega), (foc_st F' (show j + 1 ≤ (esOf b).length by omega)).1, I_sn _ _ b1, I_sn _ _ b2, q]
  unfold lk
  by_cases z : sSt (esOf t) (i + 1) - sSt (esOf t) i = sSt (esOf b) (j + 1) - sSt (esOf b) j
  · rw [if_pos z]
    have := il_l o o' F F' (s := sSt (esOf t) i) (u := sSt (esOf b) j) (len := sSt (esOf t) (i + 1) - sSt (esOf t) i) (by omega) (by omega) (sSt (esOf t) (i + 1) - sSt (esOf t) i) 0 zFuel (by omega) (by unfold zFuel; omega)
    have z' : (sSt (esOf t) (i + 1) - sSt (esOf t) i == sSt (esOf b) (j + 1) - sSt (esOf b) j) = true := beq_iff_eq.mpr z
    rw [z', Bool.true_and]
    exact this
  · rw [if_neg z]
    have z' : (sSt (esOf t) (i + 1) - sSt (esOf t) i == sSt (esOf b) (j + 1) - sSt (esOf b) j) = false := beq_eq_false_iff_ne.mpr z
    rw [z', Bool.false_and]
    rfl
theorem cl_l (o : Ob h 10 tx rw ar tSz) (o' : Ob h 10 ty rw' ar' tSz) (F : FoC f tx ar t) (F' : FoC f ty ar' b) {i : Nat} (hi : i < (esOf t).length) {m : Nat} (hm : m ≤ (esOf b).length) :
    ∀ (c j acc n : Nat), j + c = m → c < n → acc ≤ j → p_X9_countLike_l6 n (some tx) (I i) (some ty) (I m) (I acc) (I j) (hI h f) = some (I (cntR (lk t i b) c j acc), hI h f) := by
  intro c
  induction c with
  | zero =>
    intro j acc n hj hn ha
    obtain ⟨n, rfl⟩ := Nat.exists_eq_add_of_lt hn
    have a1 := (foc_len F').2
    have e1 : I (m : Int) ≤ I (j : Int) := by rw [I_le (by omega) (by omega)]; omega
    show p_X9_countLike_c6 _ _ _ _ _ _ _ _ = _
    simp only [p_X9_countLike_c6, ite_ap, e1, if_true, z_rt]
    rfl
  | succ c ih =>
    intro j acc n hj hn ha
    cases n with
    | zero => exact absurd hn (Nat.not_lt_zero _)
    | succ n =>
      have a1 := (foc_len F').2
      have e1 : ¬ I (m : Int) ≤ I (j : Int) := by rw [I_le (by omega) (by omega)]; omega
      have e2 : I (j : Int) + 1 = I ((j + 1 : Nat) : Int) := I_add _ 1
      have e3 : I (acc : Int) + 1 = I ((acc + 1 : Nat) : Int) := I_add _ 1
      have il := il_eq o o' F F' hi (j := j) (by omega)
      show p_X9_countLike_c6 (p_X9_countLike_l6 n) _ _ _ _ _ _ _ = some (I (cntR _ c (j + 1) _), _)
      simp only [p_X9_countLike_c6, p_X9_countLike_b26, ite_ap, e1, if_false, z_b, z_n, o_vr o, il, e2, e3]
      cases q : lk t i b j with
      | true =>
        rw [if_neg (show ¬ bI true = 0 by decide), if_pos rfl]
        exact ih (j + 1) (acc + 1) n (by omega) (by omega) (by omega)
      | false =>
        rw [if_pos (show bI false = 0 by decide), if_neg (by decide)]
        exact ih (j + 1) acc n (by omega) (by omega) (by omega)
theorem cl_eq (o : Ob h 10 tx rw ar tSz) (o' : Ob h 10 ty rw' ar' tSz) (F : FoC f tx ar t) (F' : FoC f ty ar' b) {i : Nat} (hi : i < (esOf t).length) {m : Nat} (hm : m ≤ (esOf b).length) :
    p_X9_countLike (some tx) (I i) (some ty) (I m) (hI h f) = some (I (cntR (lk t i b) m 0 0), hI h f) :=
  cl_l o o' F F' hi hm m 0 0 zFuel (by omega) (by have := (foc_len F').2; unfold zFuel; omega) (Nat.le_refl _)
theorem wc_l (o : Ob h 10 tx rw ar tSz) (o' : Ob h 10 ty rw' ar' tSz) (FS : FoS f tx ar t) (FS' : FoS f ty ar' b) :
    ∀ (c i acc n : Nat), i + c = (esOf t).length → c < n → acc ≤ sFw (esOf t) i → p_X9_wordsCheckedSince_l4 n (some tx) (some ty) (I acc) (I i) (hI h f) = some (I (chkA t b c i acc), hI h f) := by
  have F := FS.toC
  have F' := FS'.toC
  intro c
  induction c with
  | zero =>
    intro i acc n hi hn ha
    obtain ⟨n, rfl⟩ := Nat.exists_eq_add_of_lt hn
    have a1 := (foc_len F).2
    have e0 : f tx 8 = I (esOf t).length := FS.2.2.2.1
    have e1 : I ((esOf t).length : Int) ≤ I (i : Int) := by rw [I_le (by omega) (by omega)]; omega
    show p_X9_wordsCheckedSince_c4 _ _ _ _ _ _ = _
    simp only [p_X9_wordsCheckedSince_c4, z_b, ite_ap, o_gI o, e0, e1, if_true, z_rt]
    rfl
  | succ c ih =>
    intro i acc n hi hn ha
    cases n with
    | zero => exact absurd hn (Nat.not_lt_zero _)
    | succ n =>
      have a1 := (foc_len F).2
      have a2 := (foc_len F').2
      have w50 : (wsOf t).length ≤ 100 := by
        have h1 := (scan_ok t).1
        have h2 := (foc_len F).1
        have h3 : 2 * (wsOf t).length ≤ t.length + if (scan t).2.1 = true then 1 else 0 := h1
        have : (if (scan t).2.1 = true then 1 else 0) ≤ 1 := by split <;> decide
        omega
      have b1 := (st_le t (show i < (esOf t).length by omega)).2
      have c1 := (st_max t (show i + 1 ≤ (esOf t).length by omega)).2
      have e0 : f tx 8 = I (esOf t).length := FS.2.2.2.1
      have e0' : f ty 8 = I (esOf b).length := FS'.2.2.2.1
      have e1 : ¬ I ((esOf t).length : Int) ≤ I (i : Int) := by rw [I_le (by omega) (by omega)]; omega
      have e2 : I (i : Int) + 1 = I ((i + 1 : Nat) : Int) := I_add _ 1
      have k1 := cl_eq o o F F (i := i) (by omega) (m := i + 1) (by omega)
      have k2 := cl_eq o o' F F' (i := i) (by omega) (m := (esOf b).length) (Nat.le_refl _)
      have r1 := cntR_le (lk t i t) (i + 1) 0 0
      have r2 := cntR_le (lk t i b) (esOf b).length 0 0
      have q1 : I ((sFw (esOf t) (i + 1) - sFw (esOf t) i : Nat) : Int) ≤ 0 ↔ ¬ 0 < nw t i := by
        unfold nw
        rw [lit, I_le (by omega) (by decide)]; omega
      have q2 : I (cntR (lk t i t) (i + 1) 0 0 : Int) ≤ I (cntR (lk t i b) (esOf b).length 0 0) ↔ ¬ cntR (lk t i b) (esOf b).length 0 0 < cntR (lk t i t) (i + 1) 0 0 := by
        rw [I_le (by omega) (by omega)]; omega
      show p_X9_wordsCheckedSince_c4 (p_X9_wordsCheckedSince_l4 n) _ _ _ _ _ = some (I (chkA t b c (i + 1) _), _)
      simp only [p_X9_wordsCheckedSince_c4, p_X9_wordsCheckedSince_b65, z_b, z_n, ite_ap, o_gI o, o_gI o', e0, e0', e1, if_false, o_gR o 5 (by decide), o_rv o 5 (by decide), e2, o_get o 5 102 rfl (show i + 1 < 102 by omega), (foc_st F (show i + 1 ≤ (esOf t).length by omega)).2, o_get o 5 102 rfl (show i < 102 by omega), (foc_st F (show i ≤ (esOf t).length by omega)).2, I_sn _ _ b1, q1, o_vr o, k1, k2, q2, I_an]
      by_cases z1 : 0 < nw t i
      · rw [if_neg (fun z => z z1)]
        by_cases z2 : cntR (lk t i b) (esOf b).length 0 0 < cntR (lk t i t) (i + 1) 0 0
        · rw [if_neg (fun z => z z2), if_pos ⟨z1, z2⟩]
          exact ih (i + 1) (acc + nw t i) n (by omega) (by omega) (by unfold nw; omega)
        · rw [if_pos z2, if_neg (fun z => z2 z.2)]
          exact ih (i + 1) acc n (by omega) (by omega) (by omega)
      · rw [if_pos z1, if_neg (fun z => z1 z.1)]
        exact ih (i + 1) acc n (by omega) (by omega) (by omega)
theorem wc_eq (o : Ob h 10 tx rw ar tSz) (o' : Ob h 10 ty rw' ar' tSz) (FS : FoS f tx ar t) (FS' : FoS f ty ar' b) : p_X9_wordsCheckedSince (some tx) (some ty) (hI h f) = some (I (chkF t b), hI h f) :=
  wc_l o o' FS FS' (esOf t).length 0 0 zFuel (by omega) (by have := (foc_len FS.toC).2; unfold zFuel; omega) (Nat.le_refl _)
end
