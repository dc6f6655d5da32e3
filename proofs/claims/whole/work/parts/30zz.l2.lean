section
variable {h : ZH} {gx : Nat} {rw ar : Nat → Nat} {u v : Nat → Nat} {al : Nat → Nat → Bool}
/-- what stands in the suggester ahead of a table -/
def SgC (f : FI) (gx : Nat) (ar : Nat → Nat) (u : Nat → Nat) (al : Nat → Nat → Bool) (n : Nat) : Prop := f gx 6 = I n ∧ AlC f (ar 0) al ∧ LtC f (ar 1) u n
theorem SgC.fr {f f' : FI} {ss as : List Nat} {n : Nat} (S : SgC f gx ar u al n) (F : OFr f f' gx ar ss as) (o : Ob h 9 gx rw ar uSz) (h6 : 6 ∉ ss) (h0 : 0 ∉ as) (h1 : 1 ∉ as) (h3 : ∀ i ∈ as, uSz i ≠ 0) : SgC f' gx ar u al n := by
  refine ⟨by rw [F.1 6 h6]; exact S.1, ?_, ?_⟩
  · intro i j hi hj
    rw [F.at_ o (j := 0) (by decide) h0 h3]; exact S.2.1 i j hi hj
  · intro k hk
    rw [F.at_ o (j := 1) (by decide) h1 h3]; exact S.2.2 k hk
/-- the columns of a line -/
theorem ct83 (o : Ob h 9 gx rw ar uSz) {n m r i : Nat} (hn : n ≤ 100) (hm : m ≤ 10) (hr : 2 ≤ r ∧ r ≤ 100) (hi : i ≤ n) (r54 : Option Nat → Int32 → Int32 → Int32 → ZM Int32) {last : Nat} (hl : last ≤ m) (hlast : ∀ j, j ≤ m → Bd r i j → j ≤ last) :
    ∀ (c j k : Nat) (f : FI), j + c = last + 1 → c < k → SgC f gx ar u al n → LtC f (ar 2) v m → (∀ i' j', j' ≤ m → (i' < i ∨ i' = i ∧ j' < j) → Bd r i' j' → CeC f (ar 3) u v al i' j') →
      ∃ f', p_X8_costTo_l83 r54 k (some gx) (I r) (I m) (I i) (I last) (I j) (hI h f) = r54 (some gx) (I r) (I m) (I ((i + 1 : Nat) : Int)) (hI h f') ∧ (∀ i' j', j' ≤ m → i' < i + 1 → Bd r i' j' → CeC f' (ar 3) u v al i' j') ∧ OFr f f' gx ar [] [3] := by
  intro c
  induction c with
  | zero =>
    intro j k f hj hk S V C
    obtain ⟨k, rfl⟩ := Nat.exists_eq_add_of_lt hk
    have e1 : I (last : Int) < I (j : Int) := by rw [I_lt (by omega) (by omega)]; omega
    have e2 : I (i : Int) + 1 = I ((i + 1 : Nat) : Int) := I_add _ 1
    refine ⟨f, ?_, fun i' j' h1 h2 h3 => ?_, OFr.refl _ _ _ _ _⟩
    · show p_X8_costTo_c83 _ _ _ _ _ _ _ _ _ = _
      simp only [p_X8_costTo_c83, p_X8_costTo_b120, z_n, ite_ap, e1, if_true, e2]
    · by_cases q : i' < i
      · exact C i' j' h1 (Or.inl q) h3
      · have hii : i' = i := by omega
        subst hii
        have := hlast j' h1 h3
        exact C i' j' h1 (Or.inr ⟨rfl, by omega⟩) h3
  | succ c ih =>
    intro j k f hj hk S V C
    cases k with
    | zero => exact absurd hk (Nat.not_lt_zero _)
    | succ k =>
      have e1 : ¬ I (last : Int) < I (j : Int) := by rw [I_lt (by omega) (by omega)]; omega
      have e2 : I (j : Int) + 1 = I ((j + 1 : Nat) : Int) := I_add _ 1
      have e3 : I (i : Int) * 11 + I (j : Int) = I ((i * 11 + j : Nat) : Int) := by
        rw [show (11 : Int32) = I ((11 : Nat) : Int) from rfl, I_mn, I_an]
      obtain ⟨t, t1, t2⟩ := least_eq (f := f) (u := u) (v := v) (al := al) o (n := n) (m := m) (i := i) (j := j) (r := r) S.2.1 S.2.2 V hi (by omega) hn hm hr C
      have F1 : OFr f (zu f (ar 3) (i * 11 + j) (I t)) gx ar [] [3] := OFr.sI o 3 _ _ (by decide) (by simp)
      obtain ⟨f', p1, p2, p3⟩ := ih (j + 1) k (zu f (ar 3) (i * 11 + j) (I t)) (by omega) (by omega) (S.fr F1 o (by simp) (by simp) (by simp) (by decide))
        (fun x hx => by rw [F1.at_ o (j := 2) (by decide) (by simp) (by decide)]; exact V x hx)
        (fun i' j' h1 h2 h3 => by
          by_cases q : i' = i ∧ j' = j
          · exact ⟨t, by rw [zu_cell, if_pos (by rw [q.1, q.2])], by rw [q.1, q.2]; exact t2⟩
          · obtain ⟨t', a1, a2⟩ := C i' j' h1 (by omega) h3
            refine ⟨t', ?_, a2⟩
            rw [zu_cell, if_neg (by omega)]; exact a1)
      refine ⟨f', ?_, p2, F1.trans p3⟩
      rw [← p1]
      show p_X8_costTo_c83 _ (p_X8_costTo_l83 r54 k) _ _ _ _ _ _ _ = _
      simp only [p_X8_costTo_c83, z_b, z_n, ite_ap, e1, if_false, o_gR o 3 (by decide), o_vr o, t1, o_rv o 3 (by decide), e3, o_set o 3 1111 rfl (show i * 11 + j < 1111 by omega), e2]
theorem ct54 (o : Ob h 9 gx rw ar uSz) {n m r : Nat} (hn : n ≤ 100) (hm : m ≤ 10) (hr : 2 ≤ r ∧ r ≤ 100) (hnm : Bd r n m) :
    ∀ (c i k : Nat) (f : FI), i + c = n + 1 → c < k → SgC f gx ar u al n → LtC f (ar 2) v m → (∀ i' j', j' ≤ m → i' < i → Bd r i' j' → CeC f (ar 3) u v al i' j') →
      ∃ (f' : FI) (t : Nat), p_X8_costTo_l54 k (some gx) (I r) (I m) (I i) (hI h f) = some (I t, hI h f') ∧ CP u v al n m t ∧ OFr f f' gx ar [] [3] := by
  intro c
  induction c with
  | zero =>
    intro i k f hi hk S V C
    obtain ⟨k, rfl⟩ := Nat.exists_eq_add_of_lt hk
    have e1 : I (n : Int) < I (i : Int) := by rw [I_lt (by omega) (by omega)]; omega
    have e3 : I (n : Int) * 11 + I (m : Int) = I ((n * 11 + m : Nat) : Int) := by
      rw [show (11 : Int32) = I ((11 : Nat) : Int) from rfl, I_mn, I_an]
    obtain ⟨t, a1, a2⟩ := C n m (Nat.le_refl _) (by omega) hnm
    refine ⟨f, t, ?_, a2, OFr.refl _ _ _ _ _⟩
    show p_X8_costTo_c54 _ _ _ _ _ _ = _
    simp only [p_X8_costTo_c54, p_X8_costTo_b126, z_b, z_rt, ite_ap, o_gI o, S.1, e1, if_true, o_gR o 3 (by decide), o_rv o 3 (by decide), e3, o_get o 3 1111 rfl (show n * 11 + m < 1111 by omega), a1]
  | succ c ih =>
    intro i k f hi hk S V C
    cases k with
    | zero => exact absurd hk (Nat.not_lt_zero _)
    | succ k =>
      have e1 : ¬ I (n : Int) < I (i : Int) := by rw [I_lt (by omega) (by omega)]; omega
      have e2 : (I ((i + r : Nat) : Int) < I (m : Int)) ↔ i + r < m := by rw [I_lt (by omega) (by omega)]; omega
      have e4 : ((0 : Int32) < I ((i : Int) - (r : Int))) ↔ r < i := by rw [lit, I_lt (by decide) (by omega)]; omega
      have e5 : (if r < i then I ((i : Int) - (r : Int)) else 0) = I (((if r < i then i - r else 0 : Nat)) : Int) := by
        by_cases z : r < i
        · rw [if_pos z, if_pos z, show (i : Int) - (r : Int) = ((i - r : Nat) : Int) by omega]
        · rw [if_neg z, if_neg z]; rfl
      have hlast : (if i + r < m then i + r else m) ≤ m := by split <;> omega
      have hcol : (if r < i then i - r else 0) ≤ (if i + r < m then i + r else m) + 1 := by
        unfold Bd at hnm
        split <;> split <;> omega
      obtain ⟨f1, v1, v2, v3⟩ := ct83 (u := u) (v := v) (al := al) o hn hm hr (i := i) (by omega) (p_X8_costTo_l54 k) (last := if i + r < m then i + r else m) hlast (fun j hj hb => by unfold Bd at hb; split <;> omega) ((if i + r < m then i + r else m) + 1 - (if r < i then i - r else 0)) (if r < i then i - r else 0) zFuel f (by omega) (by unfold zFuel; split <;> omega) S V
        (fun i' j' h1 h2 h3 => by
          rcases h2 with q | ⟨q1, q2⟩
          · exact C i' j' h1 q h3
          · subst q1
            unfold Bd at h3
            split at q2 <;> omega)
      obtain ⟨f', t, p1, p2, p3⟩ := ih (i + 1) k f1 (by omega) (by omega) (S.fr v3 o (by simp) (by simp) (by simp) (by decide)) (fun x hx => by rw [v3.at_ o (j := 2) (by decide) (by simp) (by decide)]; exact V x hx) v2
      refine ⟨f', t, ?_, p2, v3.trans p3⟩
      rw [← p1, ← v1]
      show p_X8_costTo_c54 (p_X8_costTo_l54 k) _ _ _ _ _ = _
      simp only [p_X8_costTo_c54, z_b, z_n, ite_ap, o_gI o, S.1, e1, if_false, I_an, e2, I_sgn, e4, e5, I_ite]
theorem ct24 (o : Ob h 9 gx rw ar uSz) {n r : Nat} {w : Wd} (hw : isW w) (hw10 : w.length ≤ 10) (hn : n ≤ 100) (hr : 2 ≤ r ∧ r ≤ 100) (hnm : Bd r n w.length) :
    ∀ (c i k : Nat) (f : FI), i + c = w.length → c < k → SgC f gx ar u al n → LtC f (ar 2) (fun x => w.getD x 0) i →
      ∃ (f' : FI) (t : Nat), p_X8_costTo_l24 k (some gx) (I (cN w)) (I r) (I w.length) (I i) (hI h f) = some (I t, hI h f') ∧ CP u (fun x => w.getD x 0) al n w.length t ∧ OFr f f' gx ar [] [2, 3] := by
  intro c
  induction c with
  | zero =>
    intro i k f hi hk S V
    obtain ⟨k, rfl⟩ := Nat.exists_eq_add_of_lt hk
    have e1 : I (w.length : Int) ≤ I (i : Int) := by rw [I_le (by omega) (by omega)]; omega
    have hi' : i = w.length := by omega
    rw [hi'] at V
    obtain ⟨f', t, p1, p2, p3⟩ := ct54 (u := u) (v := fun x => w.getD x 0) (al := al) o hn hw10 hr hnm (n + 1) 0 zFuel f (by omega) (by unfold zFuel; omega) S V (fun i' j' _ h2 => absurd h2 (Nat.not_lt_zero _))
    refine ⟨f', t, ?_, p2, p3.mono (by simp) (by simp)⟩
    have p1' : p_X8_costTo_l54 zFuel (some gx) (I r) (I w.length) 0 (hI h f) = some (I t, hI h f') := p1
    show p_X8_costTo_c24 _ _ _ _ _ _ _ = _
    simp only [p_X8_costTo_c24, p_X8_costTo_b51, ite_ap, e1, if_true, p1']
  | succ c ih =>
    intro i k f hi hk S V
    cases k with
    | zero => exact absurd hk (Nat.not_lt_zero _)
    | succ k =>
      have e1 : ¬ I (w.length : Int) ≤ I (i : Int) := by rw [I_le (by omega) (by omega)]; omega
      have e2 : I (i : Int) + 1 = I ((i + 1 : Nat) : Int) := I_add _ 1
      have lo := letterOf_eq (hI h f) hw hw10 (show i < w.length by omega)
      have F1 : OFr f (zu f (ar 2) i (I (w.getD i 0))) gx ar [] [2, 3] := OFr.sI o 2 _ _ (by decide) (by simp)
      obtain ⟨f', t, p1, p2, p3⟩ := ih (i + 1) k (zu f (ar 2) i (I (w.getD i 0))) (by omega) (by omega) (S.fr F1 o (by simp) (by simp) (by simp) (by decide))
        (fun x hx => by
          rw [zu_cell]
          by_cases q : x = i
          · rw [if_pos q, q]; exact ⟨rfl, getD_lt8 hw i⟩
          · rw [if_neg q]; exact V x (by omega))
      refine ⟨f', t, ?_, p2, F1.trans p3⟩
      rw [← p1]
      show p_X8_costTo_c24 (p_X8_costTo_l24 k) _ _ _ _ _ _ = _
      simp only [p_X8_costTo_c24, z_b, z_n, ite_ap, e1, if_false, o_gR o 2 (by decide), lo, o_rv o 2 (by decide), o_set o 2 10 rfl (show i < 10 by omega), e2]
/-- what a word costs, as far as it counts -/
def cst (u : Nat → Nat) (al : Nat → Nat → Bool) (n : Nat) (w : Wd) : Nat := CF u (fun x => w.getD x 0) al n w.length
theorem ct_eq (o : Ob h 9 gx rw ar uSz) {n r : Nat} {w : Wd} (hw : isW w) (hw10 : w.length ≤ 10) (hn : n ≤ 100) (hr : 2 ≤ r ∧ r ≤ 100) {f : FI} (S : SgC f gx ar u al n) :
    ∃ (f' : FI) (t : Nat), p_X8_costTo (some gx) (I (cN w)) (I r) (hI h f) = some (I t, hI h f') ∧ min t 5 = min (cst u al n w) 5 ∧ t < 200000 ∧ OFr f f' gx ar [] [2, 3] := by
  have e3 : (if (0 : Int32) ≤ I ((n : Int) - (w.length : Int)) then I ((n : Int) - (w.length : Int)) else 0 - I ((n : Int) - (w.length : Int))) = I (((if w.length ≤ n then n - w.length else w.length - n : Nat)) : Int) := by
    have q : ((0 : Int32) ≤ I ((n : Int) - (w.length : Int))) ↔ w.length ≤ n := by rw [lit, I_le (by decide) (by omega)]; omega
    by_cases z : w.length ≤ n
    · rw [if_pos (q.mpr z), if_pos z, show (n : Int) - (w.length : Int) = ((n - w.length : Nat) : Int) by omega]
    · rw [if_neg (fun y => z (q.mp y)), if_neg z, show (0 : Int32) = I 0 from rfl, I_sub, show (0 : Int) - ((n : Int) - (w.length : Int)) = ((w.length - n : Nat) : Int) by omega]
  have e4 : (I (((if w.length ≤ n then n - w.length else w.length - n : Nat)) : Int) ≤ I (r : Int)) ↔ (n ≤ w.length + r ∧ w.length ≤ n + r) := by
    have : (if w.length ≤ n then n - w.length else w.length - n) ≤ 1000 := by split <;> omega
    rw [I_le (by omega) (by omega)]
    split <;> omega
  simp only [p_X8_costTo, z_b, z_rt, ite_ap, sizeOf_eq _ hw hw10, o_gI o, S.1, I_sgn, e3, e4]
  by_cases z : n ≤ w.length + r ∧ w.length ≤ n + r
  · rw [if_pos z]
    obtain ⟨f', t, p1, p2, p3⟩ := ct24 (u := u) (al := al) o hw hw10 hn hr z w.length 0 zFuel f (by omega) (by unfold zFuel; omega) S (fun x hx => absurd hx (Nat.not_lt_zero _))
    exact ⟨f', t, p1, p2.1, CP_lt p2 (by omega) (by omega), p3⟩
  · rw [if_neg z]
    have far : 4 < cst u al n w := CF_far (by omega)
    exact ⟨f, 100000, rfl, by omega, by decide, OFr.refl _ _ _ _ _⟩
end
