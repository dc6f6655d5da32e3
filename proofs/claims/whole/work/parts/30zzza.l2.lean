section
variable {H H' H1 : ZH} {B nc : Nat} {f f' : FI} {g g' : FL} {dw dw' : Wd} {sl sl' : List St} {rs rs' : List Ru} {al al' : Nat → Nat → Bool} {os bs ig os' bs' ig' : List Ow} {tl tl' : Nat → Nat} {sy sy' : List Sty} {dr dr' : List It} {t t' : List Nat} {lo lb li lo' lb' li' : Bk} {wl wl' : List Wd}
/-- two letters sound alike from now on -/
def alk (al : Nat → Nat → Bool) (a b : Nat) : Nat → Nat → Bool := fun i j => if (i = a ∧ j = b) ∨ (i = b ∧ j = a) then true else al i j
theorem call_sound (S : ST H B nc (dw, sl, rs, al, os, bs, ig, tl, sy, dr, t)) (hnc : nc < 512) {x y : Nat} (hx : x < 65536) (hy : y < 65536) : Call H B nc (p_L_sound (some B) (I x) (I y) (some (B + 141))) (p_X12_sound (some (B + 95)) (I x) (I y)) := by
  obtain ⟨⟨lo, lb, li, wl, C⟩, M, ok, hT, hN⟩ := S
  have cc := C.2.2.2.1
  have n1 : ¬ ((1 : Int32) = 0) := by decide
  have ne : (I (x : Int) = I (y : Int)) ↔ x = y := I_eqN (by omega) (by omega)
  have c1 : ∀ h, p_X11_isLetter (I x) h = some (if 97 ≤ x ∧ x ≤ 104 then 1 else 0, h) := fun h => isLt_eq' h (by omega)
  have c2 : ∀ h, p_X11_isLetter (I y) h = some (if 97 ≤ y ∧ y ≤ 104 then 1 else 0, h) := fun h => isLt_eq' h (by omega)
  have d1 : ∀ h, p_X12_in (I x) 97 104 h = some (if 97 ≤ x ∧ x ≤ 104 then 1 else 0, h) := fun h => mIn_lt h (by omega)
  have d2 : ∀ h, p_X12_in (I y) 97 104 h = some (if 97 ≤ y ∧ y ≤ 104 then 1 else 0, h) := fun h => mIn_lt h (by omega)
  have refuse : ¬ ((97 ≤ x ∧ x ≤ 104) ∧ (97 ≤ y ∧ y ≤ 104) ∧ x ≠ y) → p_X11_sound (some B) (I x) (I y) = p_X11_sound_b19 ∧ p_X12_sound (some (B + 95)) (I x) (I y) = p_X12_sound_b28 (some (B + 95)) (I x) (I y) (some (B + 95)) := fun q => by
    constructor <;> funext h
    · simp only [p_X11_sound, z_b, ite_ap, c1, c2, ne]
      by_cases u1 : 97 ≤ x ∧ x ≤ 104
      · rw [if_pos u1, if_neg n1]
        by_cases u2 : 97 ≤ y ∧ y ≤ 104
        · rw [if_pos u2, if_neg n1, if_neg (fun u3 => q ⟨u1, u2, u3⟩)]
        · rw [if_neg u2, if_pos rfl]
      · rw [if_neg u1, if_pos rfl]
    · simp only [p_X12_sound, z_b, ite_ap, d1, d2, ne]
      by_cases u1 : 97 ≤ x ∧ x ≤ 104
      · rw [if_pos u1, if_neg n1]
        by_cases u2 : 97 ≤ y ∧ y ≤ 104
        · rw [if_pos u2, if_neg n1, if_neg (fun u3 => q ⟨u1, u2, u3⟩)]
        · rw [if_neg u2, if_pos rfl]
      · rw [if_neg u1, if_pos rfl]
  have hans : ∀ v : Int32, v = 0 ∨ v = 1 → (fun x1 : Int32 => if x1 = 0 then (p_L_sound_b16 (some (B + 141)) 0 0) else (p_L_sound_b16 (some (B + 141)) 0 1)) v = z_b (z_sL (some (B + 141)) 0 (Int32.toInt64 v)) fun _ => z_rt 0 := fun v hv => by
    rcases hv with rfl | rfl <;> rfl
  by_cases q : (97 ≤ x ∧ x ≤ 104) ∧ (97 ≤ y ∧ y ≤ 104) ∧ x ≠ y
  · obtain ⟨q1, q2, q3⟩ := q
    obtain ⟨a, rfl⟩ : ∃ i : Nat, x = 97 + i := ⟨x - 97, by omega⟩
    obtain ⟨b, rfl⟩ : ∃ i : Nat, y = 97 + i := ⟨y - 97, by omega⟩
    have ha : a < 8 := by omega
    have hb : b < 8 := by omega
    have s1 : I ((97 + a : Nat) : Int) - 97 = I (a : Int) := by rw [show (97 : Int32) = I ((97 : Nat) : Int) from rfl, I_sn _ _ (by omega), Nat.add_sub_cancel_left]
    have s2 : I ((97 + b : Nat) : Int) - 97 = I (b : Int) := by rw [show (97 : Int32) = I ((97 : Nat) : Int) from rfl, I_sn _ _ (by omega), Nat.add_sub_cancel_left]
    have e1 : I (a : Int) * 8 + I (b : Int) = I ((a * 8 + b : Nat) : Int) := by rw [show (8 : Int32) = I ((8 : Nat) : Int) from rfl, I_mn, I_an]
    have e2 : I (b : Int) * 8 + I (a : Int) = I ((b * 8 + a : Nat) : Int) := by rw [show (8 : Int32) = I ((8 : Nat) : Int) from rfl, I_mn, I_an]
    have alC : ∀ (f : FI) (A : Nat), AlC f A al → AlC (zu (zu f A (a * 8 + b) 1) A (b * 8 + a) 1) A (alk al a b) := fun f A T i j hi hj => by
      have b1 : I (bN true : Nat) = 1 := rfl
      unfold alk
      by_cases u : (i = a ∧ j = b) ∨ (i = b ∧ j = a)
      · rw [if_pos u, b1, zu_cell]
        by_cases v : i * 8 + j = b * 8 + a
        · rw [if_pos v]
        · rw [if_neg v, zu_cell, if_pos (by omega)]
      · rw [if_neg u, zu_cell, if_neg (by omega), zu_cell, if_neg (by omega)]; exact T i j hi hj
    have bv : (I (bN (al a b) : Nat) = 0) ↔ al a b = false := by cases al a b <;> decide
    have fr : ∀ b', b' ≠ B → b' ≠ B + 26 → fgt (zu (zu (zI H) (B + 26) (a * 8 + b) 1) (B + 26) (b * 8 + a) 1) B b' = zI H b' := fun b' h1 h2 => (fgt_ne h1).trans ((zu_ne h2 _ _).trans (zu_ne h2 _ _))
    have hB : ∀ j, zu (zu (zI H) (B + 26) (a * 8 + b) 1) (B + 26) (b * 8 + a) 1 B j = zI H B j := fun j => by rw [zu_ne (by omega), zu_ne (by omega)]
    have c' : CC (fgt (zu (zu (zI H) (B + 26) (a * 8 + b) 1) (B + 26) (b * 8 + a) 1) B) B dw sl rs (alk al a b) os bs ig tl sy t lo lb li wl := by
      refine cc.re ?_ fgt_11 fgt_12 ?_ ?_ (fun b' h1 h2 h3 h4 => fr b' (by omega) h3)
      · rw [fgt_j (by decide) (by decide), hB]; exact cc.1
      · have := alC (zI H) (B + 26) cc.2.2.2.2.1
        unfold AlC at *; rw [fgt_ne (by omega)]; exact this
      · have := cc.2.2.2.2.2.1
        unfold ToldC at *; rw [fr _ (by omega) (by omega)]; exact this
    have vv : (if al a b = false then (1 : Int32) else 0) = 0 ∨ (if al a b = false then (1 : Int32) else 0) = 1 := by split <;> simp
    refine call_ok (H1 := hI H (fgt (zu (zu (zI H) (B + 26) (a * 8 + b) 1) (B + 26) (b * 8 + a) 1) B)) (v := if al a b = false then 1 else 0) (hans _ vv) hnc C M hT hN ?_ (KC.ints (fun b' h1 h2 => fr b' (by omega) (by omega))) (C.ints c' (fun b' hb => fr b' (fun q => hb (AA_mem.mpr (by omega))) (fun q => hb (AA_mem.mpr (by omega))))) (ok.up hnc) (fun Hm Mm => ?_)
    · have vr1 : ∀ (α : Type) (k : ZM α), z_vr 9 (some (B + cRf 1)) k (hI H (zI H)) = k (hI H (zI H)) := fun α k => o_vr C.1.os k
      have hv : zI H (arL (B + 24) 0) (a * 8 + b) = I (bN (al a b) : Nat) := cc.2.2.2.2.1 a b ha hb
      have as : p_X8_addSound (some (B + cRf 1)) (I a) (I b) (hI H (zI H)) = some (if al a b = false then 1 else 0, hI H (zu (zu (zI H) (B + 26) (a * 8 + b) 1) (B + 26) (b * 8 + a) 1)) := by
        show p_X8_addSound (some (B + 24)) (I a) (I b) (hI H (zI H)) = _
        simp only [p_X8_addSound, p_X8_addSound_b21, z_b, z_rz, ite_ap, e1, e2, o_gR C.1.os 0 (by decide), o_rv C.1.os 0 (by decide), o_get C.1.os 0 64 rfl (show a * 8 + b < 64 by omega), o_set C.1.os 0 64 rfl (show a * 8 + b < 64 by omega), o_set C.1.os 0 64 rfl (show b * 8 + a < 64 by omega), hv, bv, true_or, or_true, if_true]
        cases al a b
        · rfl
        · rfl
      show p_X11_sound (some B) (I ((97 + a : Nat) : Int)) (I ((97 + b : Nat) : Int)) (hI H (zI H)) = some (Sum.inl _, _)
      simp only [p_X11_sound, z_b, ite_ap, c1, c2, ne]
      rw [if_pos q1, if_neg n1, if_pos q2, if_neg n1, if_pos q3]
      simp only [x_gR C.1 1 (by decide), vr1, s1, s2, as, x_vr C.1, forget_eq C.1, z_xrz]
      rw [if_pos vv]
    · have m := Mm.1.1
      have M0 : MS (hM Hm (zu (zI Hm) (B + 95) 58 0) (zL Hm)) B dw sl rs al os bs ig tl sy dr t := Mm.pI (Or.inl rfl)
      have n16 := (m.2.1 16 (by decide)).2.2
      have F1 : MFr (zu (zI Hm) (B + 95) 58 0) (zu (zu (zu (zI Hm) (B + 95) 58 0) (arM B 16) (9 * (a + 1) + (b + 1)) 1) (arM B 16) (9 * (b + 1) + (a + 1)) 1) (zL Hm) (zL Hm) (arM B) (B + 95) [] [16] := ⟨fun j _ => ⟨by rw [zu_ne (Ne.symm n16), zu_ne (Ne.symm n16)], rfl⟩, fun b' h1 h2 => ⟨(zu_ne (fun q => h2 (by simp [q])) _ _).trans (zu_ne (fun q => h2 (by simp [q])) _ _), rfl⟩⟩
      obtain ⟨k1, k2, k3, k4, k5, k6, k7, k8, k9, k10, k11, k12⟩ := MC.comps Mm.1 M0.2 F1 (by decide)
      have al0 : AlM (zu (zI Hm) (B + 95) 58 0) (arM B) al := M0.2.2.2.2.1
      have al1 : AlM (zu (zu (zu (zI Hm) (B + 95) 58 0) (arM B 16) (9 * (a + 1) + (b + 1)) 1) (arM B 16) (9 * (b + 1) + (a + 1)) 1) (arM B) (alk al a b) := fun i j hi hj => by
        have b1 : I (bN true : Nat) = 1 := rfl
        unfold alk
        by_cases u : (i = a ∧ j = b) ∨ (i = b ∧ j = a)
        · rw [if_pos u, b1, zu_cell]
          by_cases v : 9 * (i + 1) + (j + 1) = 9 * (b + 1) + (a + 1)
          · rw [if_pos v]
          · rw [if_neg v, zu_cell, if_pos (by omega)]
        · rw [if_neg u, zu_cell, if_neg (by omega), zu_cell, if_neg (by omega)]; exact al0 i j hi hj
      have t1 : I (a : Int) + 1 = I ((a + 1 : Nat) : Int) := I_add _ 1
      have t2 : I (b : Int) + 1 = I ((b + 1 : Nat) : Int) := I_add _ 1
      have f1 : 9 * I ((a + 1 : Nat) : Int) + I ((b + 1 : Nat) : Int) = I ((9 * (a + 1) + (b + 1) : Nat) : Int) := by rw [show (9 : Int32) = I ((9 : Nat) : Int) from rfl, I_mn, I_an]
      have f2 : 9 * I ((b + 1 : Nat) : Int) + I ((a + 1 : Nat) : Int) = I ((9 * (b + 1) + (a + 1) : Nat) : Int) := by rw [show (9 : Int32) = I ((9 : Nat) : Int) from rfl, I_mn, I_an]
      refine ⟨hM Hm (zu (zu (zu (zI Hm) (B + 95) 58 0) (arM B 16) (9 * (a + 1) + (b + 1)) 1) (arM B 16) (9 * (b + 1) + (a + 1)) 1) (zL Hm), ?_, (KM.pI 58 0).trans (KM.mk_ (H := hM Hm (zu (zI Hm) (B + 95) 58 0) (zL Hm)) m F1 (by decide)), ⟨Mm.1, k1 (by decide), k2 (by decide) (by decide), k3 (by decide) (by decide), al1, k5 (by decide) (by decide), k6 (by decide) (by decide), k7 (by decide) (by decide), k8 (by decide), k9 (by decide) (by decide), k10 (by decide), k11 (by decide) (by decide), k12 (by decide) (by decide) (by decide)⟩, ?_⟩
      · have g0 : (0 : Int32) ≤ 0 := by decide
        show p_X12_sound (some (B + 95)) (I ((97 + a : Nat) : Int)) (I ((97 + b : Nat) : Int)) (hM Hm (zI Hm) (zL Hm)) = _
        simp only [p_X12_sound, p_X12_sound_b33, p_X12_sound_b80, z_b, z_n, z_rz, ite_ap, d1, d2, ne]
        rw [if_pos q1, if_neg n1, if_pos q2, if_neg n1, if_pos q3]
        simp only [m_pI m, m_gI m, zu_same, g0, if_true, s1, s2, t1, t2, f1, f2, m_gR m 16 (by decide), m_aI m 16 81 (by decide) (show 9 * (a + 1) + (b + 1) < 81 by omega) (by decide), m_sI m 16 81 (by decide) (show 9 * (a + 1) + (b + 1) < 81 by omega) (by decide), m_sI m 16 81 (by decide) (show 9 * (b + 1) + (a + 1) < 81 by omega) (by decide), al0 a b ha hb, bv, true_or, or_true]
        cases al a b
        · rfl
        · rfl
      · show zu (zu (zu (zI Hm) (B + 95) 58 0) (arM B 16) (9 * (a + 1) + (b + 1)) 1) (arM B 16) (9 * (b + 1) + (a + 1)) 1 (B + 95) 58 = 0
        rw [zu_ne (Ne.symm n16), zu_ne (Ne.symm n16), zu_same]
  · obtain ⟨t1, t2⟩ := refuse q
    refine call_th (kk := 1) hnc C M ok hT hN (n := 0) ?_ rfl (by decide) (fun Hm Mm => ?_)
    · rw [t1]; rfl
    · have m := Mm.1.1
      refine ⟨hM Hm (zu (zI Hm) (B + 95) 58 1) (zL Hm), 0, ?_, KM.pI _ _, Mm.pI (Or.inl rfl), zu_same _ _ _ _⟩
      have g1 : ¬ (1 : Int32) ≤ 0 := by decide
      rw [t2]
      show p_X12_sound_b28 _ _ _ _ (hM Hm (zI Hm) (zL Hm)) = _
      simp only [p_X12_sound_b28, p_X12_sound_b33, z_b, z_rz, ite_ap, m_pI m, m_gI m, zu_same, g1, if_false, true_or, if_true]
end
