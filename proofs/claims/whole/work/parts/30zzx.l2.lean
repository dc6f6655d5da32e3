theorem cut_succ (u : Wd) {a k : Nat} (h1 : a ≤ k) (h2 : k < u.length) : (u.take (k + 1)).drop a = (u.take k).drop a ++ [u.getD k 0] := by
  rw [List.take_add_one, List.drop_append_of_le_length (by rw [List.length_take]; omega), List.getElem?_eq_getElem h2, List.getD_eq_getElem?_getD, List.getElem?_eq_getElem h2]
  rfl
theorem td_len (u : Wd) {a b : Nat} (hb : b ≤ u.length) : ((u.take b).drop a).length = b - a := by
  rw [List.length_drop, List.length_take, Nat.min_eq_left hb]
section
variable {h : ZH} {tx : Nat} {rwt art : Nat → Nat} {f : FI} {g : FL} {M : Nat} {ar : Nat → Nat}
/-- the class's part of a word -/
theorem pow_l (o : Ob h 10 tx rwt art tSz) {t : List Nat} (T : FoC f tx art t) {j : Nat} {w : Wr} (hw : (wsOf t)[j]? = some w) {a b : Nat} (hb : b ≤ w.2.1.length) (hb2 : b ≤ 1000) : ∀ c k n : Nat, k + c = b → a ≤ k → c < n →
    p_X9_partOfWord_l16 n (some tx) (I j) (I b) (I (cN ((w.2.1.take k).drop a))) (I k) (hI h f) = some (I (cN ((w.2.1.take b).drop a)), hI h f) := by
  intro c
  induction c with
  | zero =>
    intro k n hk ha hn
    obtain ⟨n, rfl⟩ := Nat.exists_eq_add_of_lt hn
    have hkb : k = b := by omega
    subst hkb
    have e1 : I (k : Int) ≤ I (k : Int) := by rw [I_le (by omega) (by omega)]; omega
    show p_X9_partOfWord_c16 _ _ _ _ _ _ _ = _
    simp only [p_X9_partOfWord_c16, z_b, z_rt, ite_ap, e1, if_true]
  | succ c ih =>
    intro k n hk ha hn
    cases n with
    | zero => exact absurd hn (Nat.not_lt_zero _)
    | succ n =>
      have hkl : k < w.2.1.length := by omega
      have e1 : ¬ I (b : Int) ≤ I (k : Int) := by rw [I_le (by omega) (by omega)]; omega
      have e2 : I (k : Int) + 1 = I ((k + 1 : Nat) : Int) := I_add _ 1
      obtain ⟨a1, a2, a3, a4, a5⟩ := (scan_ok t).2.2.2.1 j w hw
      have l8 : w.2.1.getD k 0 < 8 := a1 _ (List.mem_of_getElem? (getD_some hkl))
      have wl := withLetter_eq (hI h f) (u := (w.2.1.take k).drop a) l8
      rw [← cut_succ w.2.1 ha hkl] at wl
      have lw := lOW_eq (f := f) o T hw hkl
      show p_X9_partOfWord_c16 (p_X9_partOfWord_l16 n) _ _ _ _ _ _ = _
      simp only [p_X9_partOfWord_c16, z_b, z_n, ite_ap, e1, if_false, o_vr o, lw, wl, e2]
      exact ih (k + 1) n (by omega) (by omega) (by omega)
theorem pow_eq (o : Ob h 10 tx rwt art tSz) {t : List Nat} (T : FoC f tx art t) {j : Nat} {w : Wr} (hw : (wsOf t)[j]? = some w) {a b : Nat} (hab : a ≤ b) (hb : b ≤ w.2.1.length) (hb2 : b ≤ 1000) : p_X9_partOfWord (some tx) (I j) (I a) (I b) (hI h f) = some (I (cC ((w.2.1.take b).drop a)), hI h f) := by
  have e1 : I (b : Int) - I (a : Int) = I ((b - a : Nat) : Int) := I_sn _ _ hab
  have e2 : I ((b - a : Nat) : Int) ≤ 10 ↔ b - a ≤ 10 := by rw [lit, I_le (by omega) (by decide)]; omega
  have e3 : (w.2.1.take a).drop a = [] := by
    apply List.eq_nil_of_length_eq_zero
    rw [td_len _ (by omega)]; omega
  have L := pow_l (f := f) o T hw (a := a) hb hb2 (b - a) a zFuel (by omega) (Nat.le_refl _) (by unfold zFuel; omega)
  rw [e3] at L
  have L' : p_X9_partOfWord_l16 zFuel (some tx) (I j) (I b) 1 (I a) (hI h f) = some (I (cN ((w.2.1.take b).drop a)), hI h f) := L
  unfold cC
  rw [td_len _ hb]
  simp only [p_X9_partOfWord, z_rt, ite_ap, e1, e2, L']
  by_cases q : b - a ≤ 10
  · rw [if_pos q, if_pos q]
  · rw [if_neg q, if_neg q]; rfl
/-- the reference's number of a part -/
theorem mno_l (m : MAt h M ar) {t : List Nat} (T : TxM f ar M t) {j : Nat} {w : Wr} (hw : (wsOf t)[j]? = some w) {a b : Nat} (hb : b ≤ w.2.1.length) (hba : b - a ≤ 10) : ∀ c k n : Nat, k + c = b → a ≤ k → c < n →
    p_X12_numberOf_l5 n (some M) (I (w.1 + a : Nat)) (I (w.1 + b : Nat)) (J (mN ((w.2.1.take k).drop a))) (I (w.1 + k : Nat)) (hM h f g) = some (J (mN ((w.2.1.take b).drop a)), hM h f g) := by
  obtain ⟨a1, a2, a3, a4, a5⟩ := (scan_ok t).2.2.2.1 j w hw
  have ht := T.2.1
  intro c
  induction c with
  | zero =>
    intro k n hk ha hn
    obtain ⟨n, rfl⟩ := Nat.exists_eq_add_of_lt hn
    have hkb : k = b := by omega
    subst hkb
    have e1 : I ((w.1 + k : Nat) : Int) ≤ I ((w.1 + k : Nat) : Int) := by rw [I_le (by omega) (by omega)]; omega
    show p_X12_numberOf_c5 _ _ _ _ _ _ _ = _
    simp only [p_X12_numberOf_c5, z_rt, ite_ap, e1, if_true]
  | succ c ih =>
    intro k n hk ha hn
    cases n with
    | zero => exact absurd hn (Nat.not_lt_zero _)
    | succ n =>
      have hkl : k < w.2.1.length := by omega
      have e1 : ¬ I ((w.1 + b : Nat) : Int) ≤ I ((w.1 + k : Nat) : Int) := by rw [I_le (by omega) (by omega)]; omega
      have e0 : I ((w.1 + b : Nat) : Int) - I ((w.1 + a : Nat) : Int) = I ((b - a : Nat) : Int) := by
        rw [I_sn _ _ (by omega), show w.1 + b - (w.1 + a) = b - a by omega]
      have e3 : ¬ 10 < I ((b - a : Nat) : Int) := by rw [lit, I_lt (by decide) (by omega)]; omega
      have e2 : I ((w.1 + k : Nat) : Int) + 1 = I ((w.1 + (k + 1) : Nat) : Int) := I_add _ 1
      have l8 : w.2.1.getD k 0 < 8 := a1 _ (List.mem_of_getElem? (getD_some hkl))
      have c1 := T.2.2 _ _ (a5 k hkl)
      have e4 : I ((97 + w.2.1.getD k 0 : Nat) : Int) - 97 + 1 = I ((w.2.1.getD k 0 + 1 : Nat) : Int) := by
        rw [show (97 : Int32) = I ((97 : Nat) : Int) from rfl, I_sn _ _ (by omega), show 97 + w.2.1.getD k 0 - 97 = w.2.1.getD k 0 by omega]
        exact I_add _ 1
      have e5 := J_or4 (u := (w.2.1.take k).drop a) l8
      rw [← cut_succ w.2.1 ha hkl] at e5
      show p_X12_numberOf_c5 (p_X12_numberOf_l5 n) _ _ _ _ _ _ = _
      simp only [p_X12_numberOf_c5, z_b, z_n, ite_ap, e1, if_false, e0, e3, m_gR m 33 (by decide), m_aI m 33 100 (by decide) (show w.1 + k < 100 by omega) (by decide), c1, e4, e5, e2]
      exact ih (k + 1) n (by omega) (by omega) (by omega)
theorem mno_eq (m : MAt h M ar) {t : List Nat} (T : TxM f ar M t) {j : Nat} {w : Wr} (hw : (wsOf t)[j]? = some w) {a b : Nat} (hab : a ≤ b) (hb : b ≤ w.2.1.length) : p_X12_numberOf (some M) (I (w.1 + a : Nat)) (I (w.1 + b : Nat)) (hM h f g) = some (J (mC ((w.2.1.take b).drop a)), hM h f g) := by
  obtain ⟨a1, a2, a3, a4, a5⟩ := (scan_ok t).2.2.2.1 j w hw
  have ht := T.2.1
  have e3 : (w.2.1.take a).drop a = [] := by
    apply List.eq_nil_of_length_eq_zero
    rw [td_len _ (by omega)]; omega
  unfold mC
  rw [td_len _ hb]
  by_cases q : b - a ≤ 10
  · have L := mno_l (f := f) (g := g) m T hw (a := a) hb q (b - a) a zFuel (by omega) (Nat.le_refl _) (by unfold zFuel; omega)
    rw [e3] at L
    rw [if_pos q]
    exact L
  · rw [if_neg q]
    have e1 : ¬ I ((w.1 + b : Nat) : Int) ≤ I ((w.1 + a : Nat) : Int) := by rw [I_le (by omega) (by omega)]; omega
    have e0 : I ((w.1 + b : Nat) : Int) - I ((w.1 + a : Nat) : Int) = I ((b - a : Nat) : Int) := by
      rw [I_sn _ _ (by omega), show w.1 + b - (w.1 + a) = b - a by omega]
    have e3 : 10 < I ((b - a : Nat) : Int) := by rw [lit, I_lt (by decide) (by omega)]; omega
    have : zFuel = (zFuel - 1) + 1 := by unfold zFuel; rfl
    show p_X12_numberOf_l5 zFuel _ _ _ _ _ _ = _
    rw [this]
    show p_X12_numberOf_c5 _ _ _ _ _ _ _ = _
    simp only [p_X12_numberOf_c5, z_rt, ite_ap, e1, if_false, e0, e3, if_true]
    rfl
theorem mrd_eq {os bs : List Ow} {lm lo lb : Bk} (m : MAt h M ar) (T : TC f g ar M lm) (hl : lm.length < 16384) (Ro : OwR lo os) (Rb : OwR lb bs) (ho : OwM f g ar M os) (hb : BaM f g ar M bs) {u : Wd} (hu : isW u) (hn : u ≠ []) : p_X12_readingsOf (some M) (J (mC u)) (hM h f g) = some (I (rdW lm lo lb u), hM h f g) := by
  unfold mC rdW
  by_cases q : u.length ≤ 10
  · rw [if_pos q, if_pos q]
    exact mread_eq m T hl Ro Rb ho hb ⟨hu, hn, q⟩
  · rw [if_neg q, if_neg q]
    have e : lg_cmp (J ((0 : Nat) : Int)) 0 = 0 := by decide
    simp only [p_X12_readingsOf, ite_ap, z_rt, e, if_true]
    rfl
end
