/-! which words an edit has checked anew: the reference -/
theorem scStep_mk (s : Sc) (k c : Nat) : (scStep s k c).1 = if s.1 = true then !(c == 62) else c == 60 := by
  obtain ⟨mk, inw, ws, es⟩ := s
  unfold scStep
  by_cases q : mk = false ∧ 97 ≤ c ∧ c ≤ 104
  · rw [if_pos q]
    obtain ⟨q1, q2, q3⟩ := q
    subst q1
    rw [if_neg (show ¬ ((false, inw, ws, es) : Sc).1 = true from fun z => by cases z)]
    have : ¬ c = 60 := by omega
    exact (beq_eq_false_iff_ne.mpr this).symm
  · rw [if_neg q]
    by_cases q2 : c = 46 ∧ mk = false
    · rw [if_pos q2]
      obtain ⟨z1, z2⟩ := q2
      subst z1
      subst z2
      rfl
    · rw [if_neg q2]
      by_cases z60 : c = 60
      · rw [if_pos z60]; subst z60
        cases mk <;> rfl
      · rw [if_neg z60]
        by_cases z62 : c = 62
        · rw [if_pos z62]; subst z62
          cases mk <;> rfl
        · rw [if_neg z62]
          cases mk with
          | true =>
            have : (c == 62) = false := beq_eq_false_iff_ne.mpr z62
            show true = if true = true then !(c == 62) else _
            rw [this]; rfl
          | false =>
            have : (c == 60) = false := beq_eq_false_iff_ne.mpr z60
            show false = if false = true then _ else c == 60
            rw [this]; rfl
/-- a row of signs of the reference -/
def TxA (f : FI) (a : Nat) (t : List Nat) : Prop := ∀ (i : Nat) (c : Nat), t[i]? = some c → f a i = I c
section
variable {h : ZH} {M : Nat} {ar : Nat → Nat} {f : FI} {g : FL} {t b : List Nat}
theorem getD_some {α : Type} {t : List α} {i : Nat} {d : α} (hi : i < t.length) : t[i]? = some (t.getD i d) := by
  rw [List.getD_eq_getElem?_getD, List.getElem?_eq_getElem hi]; rfl
theorem endOf_l (m : MAt h M ar) {j : Nat} (hj : mSz j = (1, 100)) (A : TxA f (ar j) t) (hs : ∀ c ∈ t, isSg c) (ht : t.length ≤ 100) :
    ∀ (r : List Nat) (k n : Nat), t.drop k = r → k + r.length = t.length → r.length < n →
      p_X12_endOf_l5 n (some (ar j)) (I t.length) (bI (scP t k).1) (I k) (hM h f g) = some (I (sSt (esOf t) ((scP t k).2.2.2.length + 1)), hM h f g) := by
  intro r
  induction r with
  | nil =>
    intro k n h1 h2 h3
    obtain ⟨n, rfl⟩ := Nat.exists_eq_add_of_lt h3
    have hk : k = t.length := by simpa using h2
    subst hk
    have e1 : I (t.length : Int) ≤ I (t.length : Int) := by rw [I_le (by omega) (by omega)]; omega
    show p_X12_endOf_c5 _ _ _ _ _ _ = _
    simp only [p_X12_endOf_c5, ite_ap, e1, if_true, z_rt]
    rw [scP_full, ← (es_len t).1, (st_end t).1]
  | cons c r ih =>
    intro k n h1 h2 h3
    obtain ⟨hat, hd⟩ := drop_at h1
    cases n with
    | zero => exact absurd h3 (Nat.not_lt_zero _)
    | succ n =>
      simp only [List.length_cons] at h2 h3
      have hcs := hs c (List.mem_of_getElem? hat)
      have hc := sg_lt hcs
      have e1 : ¬ I (t.length : Int) ≤ I (k : Int) := by rw [I_le (by omega) (by omega)]; omega
      have e2 : I (k : Int) + 1 = I ((k + 1 : Nat) : Int) := I_add _ 1
      have lt : k < 100 := by omega
      have q46 : (I (c : Int) = 46) ↔ c = 46 := I_eqN (k := 46) (by omega) (by decide)
      have q60 : (I (c : Int) = 60) ↔ c = 60 := I_eqN (k := 60) (by omega) (by decide)
      have q62 : (I (c : Int) = 62) ↔ c = 62 := I_eqN (k := 62) (by omega) (by decide)
      have hsu := scP_succ hat
      have hmk := scStep_mk (scP t k) k c
      rw [← hsu] at hmk
      have IH := ih (k + 1) n hd (by omega) (by omega)
      have b1 : ¬ (bI true = 0) := by decide
      have b0 : bI false = 0 := rfl
      have n1 : ¬ ((1 : Int32) = 0) := by decide
      have ga : z_aI (some (ar j)) (I k) (hM h f g) = some (I c, hM h f g) := by
        have := m_aI (f := f) (g := g) m j 100 hj lt (by decide)
        rw [A k c hat] at this
        exact this
      show p_X12_endOf_c5 (p_X12_endOf_l5 n) _ _ _ _ _ = _
      rcases scStep_cases (scP t k) k c with ⟨z1, -, z2⟩ | ⟨⟨z1, z2⟩, z3⟩
      · rw [← hsu] at z1
        rw [z1] at IH
        rw [← IH, hmk]
        cases hm : (scP t k).1 with
        | true =>
          rw [if_pos rfl]
          simp only [p_X12_endOf_c5, ite_ap, e1, if_false]
          rw [if_pos b1]
          simp only [p_X12_endOf_b27, p_X12_endOf_b32, ite_ap, n1, not_false_eq_true, if_true, p_X12_endOf_b51, if_false]
          rw [if_neg b1]
          simp only [z_b, ga, q62, p_X12_endOf_b73, p_X12_endOf_b69, p_X12_endOf_b74, z_n, e2]
          by_cases z62 : c = 62
          · rw [if_pos z62, z62]; rfl
          · rw [if_neg z62, beq_eq_false_iff_ne.mpr z62]; rfl
        | false =>
          rw [if_neg (fun z => by cases z)]
          have n46 : ¬ c = 46 := fun z => z2 ⟨z, hm⟩
          simp only [p_X12_endOf_c5, ite_ap, e1, if_false]
          rw [if_neg (fun z => z b0)]
          simp only [z_b, ga, q60]
          by_cases z60 : c = 60
          · rw [if_neg (fun z => z z60), z60]
            simp only [p_X12_endOf_b27, p_X12_endOf_b32, ite_ap, n1, not_false_eq_true, if_true, p_X12_endOf_b51, if_false]
            rw [if_pos b0]
            simp only [p_X12_endOf_b69, p_X12_endOf_b74, z_n, e2]
            rfl
          · rw [if_pos z60, beq_eq_false_iff_ne.mpr z60]
            simp only [p_X12_endOf_b32, ite_ap, not_true_eq_false, if_false, z_b, ga, q46, n46, not_false_eq_true, if_true, p_X12_endOf_b51, p_X12_endOf_b73, p_X12_endOf_b74, z_n, e2]
            rfl
      · rw [z2]
        subst z1
        simp only [p_X12_endOf_c5, ite_ap, e1, if_false]
        rw [if_neg (fun z => z b0)]
        have x60 : (I ((46 : Nat) : Int) = 60) = False := eq_false (by decide)
        have x46 : (I ((46 : Nat) : Int) = 46) = True := eq_true rfl
        simp only [z_b, ga, x60, not_false_eq_true, if_true, p_X12_endOf_b32, ite_ap, not_true_eq_false, if_false, x46, p_X12_endOf_b46, z_rt, e2]
        obtain ⟨u, hu⟩ := es_at (t := t) (k := k + 1) (by omega)
        rw [hsu, z3] at hu
        have : sSt (esOf t) ((scP t k).2.2.2.length + 1) = k + 1 := by
          rw [hu]
          show (((scP t k).2.2.2 ++ [(k + 1, (scP t k).2.2.1.length)] ++ u).getD (scP t k).2.2.2.length (0, 0)).1 = k + 1
          rw [List.getD_eq_getElem?_getD, List.getElem?_append_left (by simp), List.getElem?_append_right (Nat.le_refl _), Nat.sub_self]
          rfl
        rw [this]
theorem endOf_eq (m : MAt h M ar) {j : Nat} (hj : mSz j = (1, 100)) (A : TxA f (ar j) t) (hs : ∀ c ∈ t, isSg c) (ht : t.length ≤ 100) {i : Nat} (hi : i < (esOf t).length) :
    p_X12_endOf (some (ar j)) (I t.length) (I (sSt (esOf t) i)) (hM h f g) = some (I (sSt (esOf t) (i + 1)), hM h f g) := by
  obtain ⟨s1, s2⟩ := st_state t hi
  have hm := (st_max t (show i ≤ (esOf t).length by omega)).1
  have := endOf_l (f := f) (g := g) m hj A hs ht (t.drop (sSt (esOf t) i)) (sSt (esOf t) i) zFuel rfl (by rw [List.length_drop]; omega) (by rw [List.length_drop]; unfold zFuel; omega)
  rw [s1, s2] at this
  exact this
/-- are these signs alike -/
theorem lk50 (m : MAt h M ar) (r6 : Option Nat → Option Nat → Int32 → Int32 → Int32 → Int32 → Int32 → Int32 → ZM Int32) {j : Nat} (hj : mSz j = (1, 100)) (A : TxA f (ar 33) t) (A' : TxA f (ar j) b) (hs : ∀ c ∈ t, isSg c) (hs' : ∀ c ∈ b, isSg c) (ht : t.length ≤ 100) (hb : b.length ≤ 100) (v2 v3 : Int32) {s e u acc : Nat} (v8 : Int32) (h1 : s ≤ e) (h2 : e ≤ t.length) (h3 : u + (e - s) ≤ b.length) :
    ∀ (c k n : Nat), k + c = e - s → c < n → p_X12_like_l50 r6 n (some M) (some (ar j)) v2 v3 (I s) (I e) (I acc) (I u) v8 1 (I k) (hM h f g) = r6 (some M) (some (ar j)) v2 v3 (I s) (I e) (I ((if eqR t b s u c k = true then acc + 1 else acc : Nat) : Int)) v8 (hM h f g) := by
  have z0 : I (acc : Int) + 0 = I (acc : Int) := I_add _ 0
  have z1 : I (acc : Int) + 1 = I ((acc + 1 : Nat) : Int) := I_add _ 1
  have n1 : ¬ ((1 : Int32) = 0) := by decide
  intro c
  induction c with
  | zero =>
    intro k n hk hn
    obtain ⟨n, rfl⟩ := Nat.exists_eq_add_of_lt hn
    have e1 : I ((e - s : Nat) : Int) ≤ I (k : Int) := by rw [I_le (by omega) (by omega)]; omega
    show p_X12_like_c50 _ _ _ _ _ _ _ _ _ _ _ _ _ _ = _
    simp only [p_X12_like_c50, p_X12_like_b98, p_X12_like_b110, ite_ap, I_sn _ _ h1, e1, if_true, n1, if_false, z_n, z1]
    rfl
  | succ c ih =>
    intro k n hk hn
    cases n with
    | zero => exact absurd hn (Nat.not_lt_zero _)
    | succ n =>
      have e1 : ¬ I ((e - s : Nat) : Int) ≤ I (k : Int) := by rw [I_le (by omega) (by omega)]; omega
      have e2 : I (k : Int) + 1 = I ((k + 1 : Nat) : Int) := I_add _ 1
      have ga := m_aI (f := f) (g := g) m 33 100 (by decide) (show s + k < 100 by omega) (by decide)
      rw [A (s + k) _ (getD_some (d := 0) (by omega))] at ga
      have gb := m_aI (f := f) (g := g) m j 100 hj (show u + k < 100 by omega) (by decide)
      rw [A' (u + k) _ (getD_some (d := 0) (by omega))] at gb
      have l1 : t.getD (s + k) 0 < 1000 := sg_lt (hs _ (List.mem_of_getElem? (getD_some (d := 0) (show s + k < t.length by omega))))
      have l2 : b.getD (u + k) 0 < 1000 := sg_lt (hs' _ (List.mem_of_getElem? (getD_some (d := 0) (show u + k < b.length by omega))))
      have q : (I (b.getD (u + k) 0 : Int) = I (t.getD (s + k) 0)) ↔ t.getD (s + k) 0 = b.getD (u + k) 0 := by
        rw [I_eqN (by omega) (by omega)]; exact eq_comm
      show p_X12_like_c50 _ (p_X12_like_l50 r6 n) _ _ _ _ _ _ _ _ _ _ _ _ = r6 _ _ _ _ _ _ (I ((if (if _ then _ else _) = true then _ else _ : Nat) : Int)) _ _
      simp only [p_X12_like_c50, p_X12_like_b90, ite_ap, I_sn _ _ h1, e1, if_false, n1, z_b, z_n, I_an, gb, m_gR m 33 (by decide), ga, q, e2]
      by_cases z : t.getD (s + k) 0 = b.getD (u + k) 0
      · rw [if_neg (fun y => y z), if_pos z]
        exact ih (k + 1) n (by omega) (by omega)
      · rw [if_pos z, if_neg z, if_neg (fun y => by cases y)]
        cases n with
        | zero => omega
        | succ n =>
          show p_X12_like_c50 _ _ _ _ _ _ _ _ _ _ _ _ _ _ = _
          simp only [p_X12_like_c50, p_X12_like_b98, p_X12_like_b110, ite_ap, if_true, z_n, z0, ite_self]
/-- how many sentences of a row are like one of the text -/
theorem like_l (m : MAt h M ar) {j : Nat} (hj : mSz j = (1, 100)) (A : TxA f (ar 33) t) (A' : TxA f (ar j) b) (hs : ∀ c ∈ t, isSg c) (hs' : ∀ c ∈ b, isSg c) (ht : t.length ≤ 100) (hb : b.length ≤ 100) {i : Nat} (hi : i < (esOf t).length) {up mm : Nat} (hup : up ≤ 100) (hmm : mm ≤ (esOf b).length) (hin : ∀ x, x < mm → sSt (esOf b) x < b.length ∧ sSt (esOf b) x < up) (hout : ¬ (sSt (esOf b) mm < b.length ∧ sSt (esOf b) mm < up)) :
    ∀ (c x acc n : Nat), x + c = mm → c < n →
      p_X12_like_l6 n (some M) (some (ar j)) (I b.length) (I up) (I (sSt (esOf t) i)) (I (sSt (esOf t) (i + 1))) (I acc) (I (sSt (esOf b) x)) (hM h f g) = some (I (cntR (lk t i b) c x acc), hM h f g) := by
  have t1 := (st_le t hi).1
  have t2 := (st_max t (show i + 1 ≤ (esOf t).length by omega)).1
  intro c
  induction c with
  | zero =>
    intro x acc n hx hn
    obtain ⟨n, rfl⟩ := Nat.exists_eq_add_of_lt hn
    have hx' : x = mm := by omega
    subst hx'
    have b1 := (st_max b hmm).1
    show p_X12_like_c6 _ _ _ _ _ _ _ _ _ _ = _
    have q1 : I (b.length : Int) ≤ I (sSt (esOf b) x : Int) ↔ ¬ sSt (esOf b) x < b.length := by rw [I_le (by omega) (by omega)]; omega
    have q2 : I (up : Int) ≤ I (sSt (esOf b) x : Int) ↔ ¬ sSt (esOf b) x < up := by rw [I_le (by omega) (by omega)]; omega
    simp only [p_X12_like_c6, ite_ap, q1, q2, z_rt]
    by_cases z1 : sSt (esOf b) x < b.length
    · rw [if_neg (fun z => z z1), if_pos (fun z => hout ⟨z1, z⟩)]; rfl
    · rw [if_pos z1]; rfl
  | succ c ih =>
    intro x acc n hx hn
    cases n with
    | zero => exact absurd hn (Nat.not_lt_zero _)
    | succ n =>
      obtain ⟨i1, i2⟩ := hin x (by omega)
      have q1 : ¬ I (b.length : Int) ≤ I (sSt (esOf b) x : Int) := by rw [I_le (by omega) (by omega)]; omega
      have q2 : ¬ I (up : Int) ≤ I (sSt (esOf b) x : Int) := by rw [I_le (by omega) (by omega)]; omega
      have b1 := (st_le b (show x < (esOf b).length by omega)).1
      have b2 := (st_max b (show x + 1 ≤ (esOf b).length by omega)).1
      have eo := endOf_eq (f := f) (g := g) m hj A' hs' hb (i := x) (by omega)
      have q3 : (I ((sSt (esOf b) (x + 1) - sSt (esOf b) x : Nat) : Int) = I ((sSt (esOf t) (i + 1) - sSt (esOf t) i : Nat) : Int)) ↔ sSt (esOf t) (i + 1) - sSt (esOf t) i = sSt (esOf b) (x + 1) - sSt (esOf b) x := by
        rw [I_eqN (by omega) (by omega)]; exact eq_comm
      have ih' := ih (x + 1) (if lk t i b x = true then acc + 1 else acc) n (by omega) (by omega)
      show p_X12_like_c6 (p_X12_like_l6 n) _ _ _ _ _ _ _ _ _ = some (I (cntR _ c (x + 1) _), _)
      rw [← ih']
      simp only [p_X12_like_c6, p_X12_like_b45, ite_ap, q1, q2, if_false, z_b, eo, I_sn _ _ b1, I_sn _ _ t1, q3]
      unfold lk
      by_cases z : sSt (esOf t) (i + 1) - sSt (esOf t) i = sSt (esOf b) (x + 1) - sSt (esOf b) x
      · rw [if_neg (fun y => y z), beq_iff_eq.mpr z, Bool.true_and]
        exact lk50 (f := f) (g := g) (u := sSt (esOf b) x) (s := sSt (esOf t) i) (e := sSt (esOf t) (i + 1)) (acc := acc) m (p_X12_like_l6 n) hj A A' hs hs' ht hb _ _ _ t1 t2 (by omega) (sSt (esOf t) (i + 1) - sSt (esOf t) i) 0 zFuel (by omega) (by unfold zFuel; omega)
      · rw [if_pos z, beq_eq_false_iff_ne.mpr z, Bool.false_and, if_neg (fun y => by cases y)]
        have z0 : I (acc : Int) + 0 = I (acc : Int) := I_add _ 0
        show p_X12_like_c50 _ _ _ _ _ _ _ _ _ _ _ _ _ _ = _
        simp only [p_X12_like_c50, p_X12_like_b98, p_X12_like_b110, ite_ap, if_true, z_n, z0, ite_self]
end
