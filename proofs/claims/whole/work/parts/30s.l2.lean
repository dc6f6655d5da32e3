def wb (b : Option Nat) : Nat := match b with | none => 0 | some b => b + 1
def mO (u : Option Wd) : Int64 := match u with | none => 0 | some u => J (mN u)
/-- a rule in the reference's arrays -/
def RuM (f : FI) (g : FL) (ar : Nat → Nat) (i : Nat) (r : Ru) : Prop := f (ar 8) i = I r.flag ∧ f (ar 9) i = (if r.isEnd = true then 1 else 0) ∧ f (ar 10) i = I r.strip ∧ g (ar 11) i = J (mN r.added) ∧ f (ar 12) i = I (wb r.border) ∧ f (ar 13) i = I (oz r.kind) ∧ f (ar 14) i = I (oz r.form) ∧ f (ar 15) i = I r.more
section
variable {h : ZH} {M : Nat} {ar : Nat → Nat} {f : FI} {g : FL}
theorem uses_eq (m : MAt h M ar) {i : Nat} (hi : i < 8) {r : Ru} (R : RuM f g ar i r) (hr : RuOk r) {w : Wd} (hw : WdOk w) : p_X12_uses (some M) (J (mN w)) (I i) (hM h f g) = some (mO (usd r w), hM h f g) := by
  obtain ⟨r1, r2, r3, r4, r5, r6, r7, r8⟩ := R
  obtain ⟨o1, o2, o3, o4, o5, o6, o7, o8⟩ := hr
  obtain ⟨w1, w2, w3⟩ := hw
  have hp := List.length_pos_iff.mpr w2
  have hmr := mN_range w1 (show w.length ≤ 12 by omega)
  have e1 : I (w.length : Int) - I (r.strip : Int) = I ((w.length : Int) - (r.strip : Int)) := I_sub _ _
  have e2 : (I ((w.length : Int) - (r.strip : Int)) ≤ 0) ↔ w.length ≤ r.strip := by rw [I_0, I_le (by omega) (by omega)]; omega
  have lw := lengthOf_eq (hM h f g) w1 (show w.length ≤ 12 by omega)
  have la := lengthOf_eq (hM h f g) o4 (show r.added.length ≤ 12 by omega)
  have e3 : (I ((w.length : Int) - (r.strip : Int)) + I (r.added.length : Int) ≤ 10) ↔ ((w.length : Int) - (r.strip : Int)) + (r.added.length : Int) ≤ 10 := by
    rw [I_add, lit, I_le (by omega) (by omega)]
  have one : ¬ ((0 : Int32) = 1) := by decide
  -- what is made at the end
  have b65 : ¬ w.length ≤ r.strip → p_X12_uses_b65 (some M) (J (mN w)) (I i) (I w.length) (I ((w.length : Int) - (r.strip : Int))) (hM h f g) = some (if 10 < w.length - r.strip + r.added.length then 0 else J (mN (if r.isEnd = true then w.take (w.length - r.strip) ++ r.added else r.added ++ w.drop r.strip)), hM h f g) := by
    intro c1
    simp only [p_X12_uses_b65, z_b, ite_ap, z_rt, m_gR m 11 (by decide), m_aL m 11 8 (by decide) hi (by decide), r4, la, e3, m_gR m 9 (by decide), m_aI m 9 8 (by decide) hi (by decide), r2, m_gR m 10 (by decide), m_aI m 10 8 (by decide) hi (by decide), r3]
    by_cases c2 : 10 < w.length - r.strip + r.added.length
    · rw [if_neg (by omega), if_pos c2]
    · rw [if_pos (by omega), if_neg c2]
      by_cases he : r.isEnd = true
      · rw [if_pos he, if_pos he]
        have e4 : 4 * I (r.strip : Int) = I ((4 * r.strip : Nat) : Int) := by
          rw [show (4 : Int32) = I ((4 : Nat) : Int) from rfl, I_mn]
        have e5 : J (mN w : Int) >>> (Int32.toInt64 (I ((4 * r.strip : Nat) : Int)) &&& 63) = J (mN (w.take (w.length - r.strip)) : Int) := by
          rw [J_msk' _ (by omega), J_shr (by omega) (by omega), ← mN_take w1 (w.length - r.strip), show w.length - (w.length - r.strip) = r.strip by omega]
        rw [if_neg (fun q => q rfl)]
        simp only [e4, e5, both_eq (hM h f g) o4 (show r.added.length ≤ 12 by omega)]
      · rw [if_neg he, if_neg he]
        have p := part_eq (hM h f g) w1 (show w.length ≤ 12 by omega) (i := r.strip) (j := w.length) (by omega) (Nat.le_refl _)
        rw [List.take_length] at p
        have hd : isW (w.drop r.strip) := isW_drop w1 _
        rw [if_pos one]
        simp only [p, both_eq (hM h f g) hd (show (w.drop r.strip).length ≤ 12 by rw [List.length_drop]; omega)]
  have b38 : p_X12_uses_b38 (some M) (J (mN w)) (I i) (I w.length) (I ((w.length : Int) - (r.strip : Int))) (I ((edge r w + 1 : Nat) : Int)) (hM h f g) = some (mO (usd r w), hM h f g) := by
    by_cases c1 : w.length ≤ r.strip
    · have : usd r w = none := if_pos (Or.inl c1)
      rw [this]
      simp only [p_X12_uses_b38, ite_ap, z_rt, e2, c1, if_true]
      rfl
    · have hE : edge r w < 8 := by
        unfold edge
        have hh : ∀ j, w.getD j 0 < 8 := fun j => by
          rw [List.getD_eq_getElem?_getD]
          cases e : w[j]? with
          | none => decide
          | some x => exact w1 _ (List.mem_of_getElem? e)
        split
        · exact hh _
        · exact hh _
      simp only [p_X12_uses_b38, z_b, ite_ap, z_rt, e2, if_neg c1, m_gR m 12 (by decide), m_aI m 12 8 (by decide) hi (by decide), r5, b65 c1]
      cases hb : r.border with
      | none =>
        rw [if_pos (show I ((wb none : Nat) : Int) ≤ 0 by decide)]
        by_cases c2 : 10 < w.length - r.strip + r.added.length
        · have : usd r w = none := if_pos (Or.inr (Or.inl c2))
          rw [this, if_pos c2]; rfl
        · have : usd r w = some _ := if_neg (by
            rintro (q | q | ⟨b, q, -⟩)
            · exact c1 q
            · exact c2 q
            · rw [hb] at q; cases q)
          rw [this, if_neg c2]; rfl
      | some b =>
        have hb8 := o3 b hb
        have e6 : ¬ (I ((wb (some b) : Nat) : Int) ≤ 0) := by
          show ¬ (I ((b + 1 : Nat) : Int) ≤ 0)
          rw [I_0, I_le (by omega) (by omega)]; omega
        have e7 : (I ((wb (some b) : Nat) : Int) = I ((edge r w + 1 : Nat) : Int)) ↔ b = edge r w := by
          show (I ((b + 1 : Nat) : Int) = _) ↔ _
          rw [I_inj (by omega) (by omega)]; omega
        rw [if_neg e6]
        simp only [e7]
        by_cases c3 : b = edge r w
        · rw [if_neg (fun q => q c3)]
          by_cases c2 : 10 < w.length - r.strip + r.added.length
          · have : usd r w = none := if_pos (Or.inr (Or.inl c2))
            rw [this, if_pos c2]; rfl
          · have : usd r w = some _ := if_neg (by
              rintro (q | q | ⟨b', q, q2⟩)
              · exact c1 q
              · exact c2 q
              · rw [hb] at q; cases q; exact q2 c3)
            rw [this, if_neg c2]; rfl
        · have : usd r w = none := if_pos (Or.inr (Or.inr ⟨b, hb, c3⟩))
          rw [this, if_pos c3]; rfl
  simp only [p_X12_uses, z_b, z_n, ite_ap, lw, m_gR m 10 (by decide), m_aI m 10 8 (by decide) hi (by decide), r3, e1, m_gR m 9 (by decide), m_aI m 9 8 (by decide) hi (by decide), r2, firstOf_eq (hM h f g) w1 w2 (show w.length ≤ 12 by omega), lastOf_eq (hM h f g) w1 w2]
  by_cases he : r.isEnd = true
  · rw [if_pos he, if_neg (fun q => q rfl)]
    have : edge r w = w.getD (w.length - 1) 0 := if_pos he
    rw [this] at b38
    exact b38
  · rw [if_neg he, if_pos one]
    have : edge r w = w.getD 0 0 := if_neg he
    rw [this] at b38
    exact b38
end
