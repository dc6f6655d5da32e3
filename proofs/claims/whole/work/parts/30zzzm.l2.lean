section
variable {H H' H1 : ZH} {B nc : Nat} {f f' : FI} {g g' : FL} {dw dw' : Wd} {sl sl' : List St} {rs rs' : List Ru} {al al' : Nat → Nat → Bool} {os bs ig os' bs' ig' : List Ow} {tl tl' : Nat → Nat} {sy sy' : List Sty} {dr dr' : List It} {t t' : List Nat} {lo lb li lo' lb' li' : Bk} {wl wl' : List Wd}
/-- a stem or a rule more: the words are made again, what was found is forgotten -/
theorem new_ok (S : CS H B dw sl rs al os bs ig tl sy dr t lo lb li wl) {h4 : ZH} {L : Nat} (hL : L = B + 2 ∨ L = B + 3) (t1 : zT H ≤ zT h4) (t2 : zT h4 ≤ zT H + 5) (t3 : zN H ≤ zN h4) (t4 : zN h4 ≤ zN H + 64) (t5 : zD h4 = zD H) (t6 : ∀ b, b < zT H → zK h4 b = zK H b) (t7 : ∀ b, b < zT H → b ≠ L → zI h4 b = zu (zI H) B 10 (I (cN [])) b) (t8 : ∀ b, b < zT H → zL h4 b = zL H b) (t9 : ∀ b, B ≤ b → b < B + 142 → b ≠ L → zR h4 b = zR H b)
    (cd : CD h4 (zI h4) B sl' rs' sy dr) (ok : AbOk [] sl' rs' os bs ig sy dr t (nc + 1)) :
    ∃ f5 wl', p_X2_remake (some (B + 1)) h4 = some ((), hI h4 f5) ∧ CSh h4 B ∧ KC H (hI h4 (fgt f5 B)) B ∧ CS (hI h4 (fgt f5 B)) B [] sl' rs' al os bs ig tl sy dr t lo lb li wl' := by
  have hT := S.2.1
  have cc := S.2.2.2.1
  have C4 : CSh h4 B := S.1.mv (fun b h1 h2 => t6 b (by omega)) (fun b j h1 h2 h3 h4' h5 h6 => by rw [t9 b h1 h2 (by omega)])
  have n0 : ∀ b, B < b → b < B + 142 → b ≠ L → zI h4 b = zI H b := fun b h1 h2 h3 => (t7 b (by omega) h3).trans (zu_ne (by omega) _ _)
  have K4 : BoC (zI h4) B (madeOf rs sl []) lo lb li := cc.2.1.fr (fun a h1 h2 => n0 a (by omega) (by omega) (by omega))
  obtain ⟨f5, p1, p2, p3, p4⟩ := cremake C4 cd ok.2.2.1 ok.2.1 K4
  obtain ⟨wl', hW'⟩ := wl_new ok cc.2.2.1.1 cc.2.2.1.2.1
  have n5 : ∀ b, B < b → b < B + 142 → b ≠ L → b ≠ B + 4 → b ≠ B + 6 → b ≠ B + 8 → b ≠ B + 19 → b ≠ B + 21 → b ≠ B + 23 → fgt f5 B b = zI H b := fun b h1 h2 h3 h4 h5 h6 h7 h8 h9 => (fgt_ne (by omega)).trans ((p4 b h4 h5 h6 h7 h8 h9).trans (n0 b h1 h2 h3))
  have c' : CC (fgt f5 B) B [] sl' rs' al os bs ig tl sy t lo lb li wl' := by
    refine cc.md ?_ fgt_11 fgt_12 (fun b h1 h2 h3 => n5 b (by omega) (by omega) (by omega) (by omega) (by omega) (by omega) (by omega) (by omega) (by omega)) (p2.fr (fun a h1 h2 => fgt_ne (by omega))) hW'
    rw [fgt_j (by decide) (by decide), p4 B (by omega) (by omega) (by omega) (by omega) (by omega) (by omega), t7 B (by omega) (by omega), zu_same]
  have cd' : CD h4 (fgt f5 B) B sl' rs' sy dr := p3.fr (fun b hb => fgt_ne (fun q => hb (AA_mem.mpr (by omega))))
  refine ⟨f5, wl', p1, C4, ⟨t5, t1, t2, t3, t4, t6, fun b h1 h2 => ⟨n5 b (by omega) (by omega) (by omega) (by omega) (by omega) (by omega) (by omega) (by omega) (by omega), t8 b (by omega), t9 b (by omega) (by omega) (by omega)⟩⟩, ⟨C4, by show B + 142 ≤ zT h4; omega, by show (zD h4).1 < B; rw [t5]; exact S.2.2.1, c', cd'⟩⟩
theorem isReading_eq {z y : Int} (hz : -2147483648 ≤ z ∧ z < 2147483648) (hy : -2147483648 ≤ y ∧ y < 2147483648) (h : ZH) : p_X11_isReading (I z) (I y) h = some (if (0 ≤ z ∧ z < 4) ∧ 0 ≤ y ∧ y < 2 then 1 else 0, h) := by
  have n1 : ¬ ((1 : Int32) = 0) := by decide
  have r3 : ((0 : Int32) ≤ I z ∧ I z ≤ 3) ↔ (0 ≤ z ∧ z < 4) := by rw [lit, lit, I_le (by decide) hz, I_le hz (by decide)]; omega
  have r1 : ((0 : Int32) ≤ I y ∧ I y ≤ 1) ↔ (0 ≤ y ∧ y < 2) := by rw [lit, lit, I_le (by decide) hy, I_le hy (by decide)]; omega
  simp only [p_X11_isReading, z_b, z_rz, ite_ap, isIn_eq, r3, r1, true_or, or_true, if_true]
  by_cases u1 : 0 ≤ z ∧ z < 4
  · rw [if_pos u1, if_neg n1]
    by_cases u2 : 0 ≤ y ∧ y < 2
    · rw [if_pos u2, if_neg n1, if_pos ⟨u1, u2⟩]
    · rw [if_neg u2, if_pos rfl, if_neg (fun q => u2 q.2)]
  · rw [if_neg u1, if_pos rfl, if_neg (fun q => u1 q.1)]
/-- numbers between bounds -/
theorem in_eq {z : Int} (hz : -2147483648 ≤ z ∧ z < 2147483648) {a b : Int} (ha : -2147483648 ≤ a ∧ a < 2147483648) (hb : -2147483648 ≤ b ∧ b < 2147483648) (h : ZH) : p_X11_isIn (I z) (I a) (I b) h = some (if a ≤ z ∧ z ≤ b then 1 else 0, h) ∧ p_X12_in (I z) (I a) (I b) h = some (if a ≤ z ∧ z ≤ b then 1 else 0, h) := by
  have r : (I a ≤ I z ∧ I z ≤ I b) ↔ (a ≤ z ∧ z ≤ b) := by rw [I_le ha hz, I_le hz hb]
  rw [isIn_eq, min_eq]
  simp only [r]
  exact ⟨trivial, trivial⟩
theorem CD.ssize (c : CD H f B sl rs sy dr) : p_Jx4a65c_size_8abf5 (some (B + 2)) (hI H f) = some (I sl.length, hI H f) ∧ zK H (B + 2) = (6, 0) := by
  obtain ⟨dsx, dsr, da, a1, n1, o1, a2, n2, o2, a3, n3, o3, x, ⟨z1, z2, z3, z4⟩, y, w, v⟩ := c
  have := ls_size (f := f) z1 (by rw [z3]; exact z2)
  rw [z3] at this
  exact ⟨this, z1.1⟩
theorem call_stem (S : ST H B nc (dw, sl, rs, al, os, bs, ig, tl, sy, dr, t)) (hnc : nc < 512) (x1 x2 x3 x4 : Int32) : Call H B nc (p_L_stem (some B) x1 x2 x3 x4 (some (B + 141))) (p_X12_stem (some (B + 95)) x1 x2 x3 x4) := by
  obtain ⟨⟨lo, lb, li, wl, C⟩, M, ok, hT, hN⟩ := S
  obtain ⟨z1, rfl, hz1⟩ := int_of x1
  obtain ⟨z2, rfl, hz2⟩ := int_of x2
  obtain ⟨z3, rfl, hz3⟩ := int_of x3
  obtain ⟨z4, rfl, hz4⟩ := int_of x4
  have cc := C.2.2.2.1
  have n1 : ¬ ((1 : Int32) = 0) := by decide
  obtain ⟨dn1, dn2⟩ := dft_nil ok
  have sll := ok.2.1.1
  have a63 : ∀ h, p_X11_isIn (I z1) 0 63 h = some (if 0 ≤ z1 ∧ z1 ≤ 63 then 1 else 0, h) := fun h => (in_eq hz1 (a := 0) (b := 63) (by decide) (by decide) h).1
  have b63 : ∀ h, p_X12_in (I z1) 0 63 h = some (if 0 ≤ z1 ∧ z1 ≤ 63 then 1 else 0, h) := fun h => (in_eq hz1 (a := 0) (b := 63) (by decide) (by decide) h).2
  have ar : ∀ h, p_X11_isReading (I z2) (I z3) h = _ := isReading_eq hz2 hz3
  have b3 : ∀ h, p_X12_in (I z2) 0 3 h = some (if 0 ≤ z2 ∧ z2 ≤ 3 then 1 else 0, h) := fun h => (in_eq hz2 (a := 0) (b := 3) (by decide) (by decide) h).2
  have b1 : ∀ h, p_X12_in (I z3) 0 1 h = some (if 0 ≤ z3 ∧ z3 ≤ 1 then 1 else 0, h) := fun h => (in_eq hz3 (a := 0) (b := 1) (by decide) (by decide) h).2
  have a7 : ∀ h, p_X11_isIn (I z4) 0 7 h = some (if 0 ≤ z4 ∧ z4 ≤ 7 then 1 else 0, h) := fun h => (in_eq hz4 (a := 0) (b := 7) (by decide) (by decide) h).1
  have b7 : ∀ h, p_X12_in (I z4) 0 7 h = some (if 0 ≤ z4 ∧ z4 ≤ 7 then 1 else 0, h) := fun h => (in_eq hz4 (a := 0) (b := 7) (by decide) (by decide) h).2
  obtain ⟨sz, k2⟩ := CD.ssize C.2.2.2.2
  have lx := C.1.2.1
  have vr0 : ∀ (α : Type) (k : ZM α) (f : FI), z_vr 3 (some (B + cRf 0)) k (hI H f) = k (hI H f) := fun α k f => lx_vr C.1 k
  have sc : p_X2_stemCount (some (B + cRf 0)) (hI H (zI H)) = some (I sl.length, hI H (zI H)) := by
    show p_X2_stemCount (some (B + 1)) (hI H (zI H)) = _
    have g30 : z_gR 3 0 (some (B + 1)) (hI H (zI H)) = some (some (B + 2), hI H (zI H)) := by
      have e : zR (hI H (zI H)) (B + 1) 0 = some (B + 2) := lx.2.1
      exact (if_pos lx.1).trans (by rw [e])
    have vrl : ∀ (α : Type) (k : ZM α), z_vr 0 (some (B + 2)) k (hI H (zI H)) = k (hI H (zI H)) := fun α k => if_pos k2
    simp only [p_X2_stemCount, z_b, z_rt, g30, vrl, sz]
  have m1 : ∀ Hm, MS Hm B dw sl rs al os bs ig tl sy dr t → z_gI 13 1 (some (B + 95)) Hm = some (I sl.length, Hm) := fun Hm Mm => (m_gI (f := zI Hm) (g := zL Hm) Mm.1.1 1).trans (by rw [Mm.2.2.1.1]; rfl)
  have mg0 : ∀ Hm, MS Hm B dw sl rs al os bs ig tl sy dr t → z_gL 13 0 (some (B + 95)) Hm = some (J (mN dw), Hm) := fun Hm Mm => (m_gL (f := zI Hm) (g := zL Hm) Mm.1.1 0).trans (by rw [Mm.2.1]; rfl)
  have refM : ∀ (k : Int32), k = 1 ∨ k = 2 → ∀ Hm, MS Hm B dw sl rs al os bs ig tl sy dr t → ∃ H2, p_X12_stem_b67 (some (B + 95)) (I z1) (I z2) (I z3) (I z4) (some (B + 95)) k Hm = some (0, H2) ∧ KM Hm H2 B ∧ MS H2 B dw sl rs al os bs ig tl sy dr t ∧ zI H2 (B + 95) 58 = k := fun k hk Hm Mm => by
    have m := Mm.1.1
    refine ⟨hM Hm (zu (zI Hm) (B + 95) 58 k) (zL Hm), ?_, KM.pI _ _, Mm.pI (Or.inl rfl), zu_same _ _ _ _⟩
    have g1 : ¬ k ≤ 0 := by rcases hk with rfl | rfl <;> decide
    show p_X12_stem_b67 _ _ _ _ _ _ _ (hM Hm (zI Hm) (zL Hm)) = _
    simp only [p_X12_stem_b67, z_b, z_rt, ite_ap, m_pI m, m_gI m, zu_same, g1, if_false]
  have c12 : (I (sl.length : Int) < 12) ↔ sl.length < 12 := by rw [lit, I_lt (by omega) (by decide)]; omega
  have c12' : (I (sl.length : Int) = 12) ↔ sl.length = 12 := I_eqN (k := 12) (by omega) (by decide)
  by_cases q : (0 ≤ z1 ∧ z1 ≤ 63) ∧ ((0 ≤ z2 ∧ z2 < 4) ∧ 0 ≤ z3 ∧ z3 < 2) ∧ (0 ≤ z4 ∧ z4 ≤ 7)
  · obtain ⟨q1, q2, q3⟩ := q
    have q4 : 0 ≤ z2 ∧ z2 ≤ 3 := by omega
    have q5 : 0 ≤ z3 ∧ z3 ≤ 1 := by omega
    by_cases full : dw = [] ∨ ¬ sl.length < 12
    · refine call_th (kk := 2) hnc C M ok hT hN (n := 1) ?_ rfl (by decide) (fun Hm Mm => ?_)
      · show p_X11_stem (some B) (I z1) (I z2) (I z3) (I z4) (hI H (zI H)) = _
        simp only [p_X11_stem, p_X11_stem_b59, z_b, ite_ap, a63, ar, a7]
        rw [if_pos q1, if_neg n1, if_pos q2, if_neg n1, if_pos q3, if_pos n1]
        simp only [x_gI C.1, cc.1, dn1]
        by_cases u : dw = []
        · rw [if_pos u]; rfl
        · rw [if_neg u]
          simp only [x_gR C.1 0 (by decide), vr0, sc, c12]
          rw [if_neg (full.resolve_left u)]; rfl
      · obtain ⟨H2, p1, p2, p3, p4⟩ := refM 2 (Or.inr rfl) Hm Mm
        refine ⟨H2, 0, ?_, p2, p3, p4⟩
        simp only [p_X12_stem, p_X12_stem_b62, z_b, ite_ap, b63, b3, b1, b7]
        rw [if_pos q1, if_neg n1, if_pos q4, if_neg n1, if_pos q5, if_neg n1, if_pos q3, if_pos n1]
        simp only [mg0 Hm Mm, dn2]
        by_cases u : dw = []
        · rw [if_pos u]; exact p1
        · rw [if_neg u]
          have h12 : sl.length = 12 := by have := full.resolve_left u; omega
          simp only [m1 Hm Mm, c12']
          rw [if_neg (fun y => y h12)]; exact p1
    · have dn : dw ≠ [] := fun e => full (Or.inl e)
      have hl : sl.length < 12 := Classical.byContradiction (fun e => full (Or.inr e))
      obtain ⟨k1, rfl⟩ : ∃ i : Nat, z1 = i := ⟨z1.toNat, by omega⟩
      obtain ⟨k2', rfl⟩ : ∃ i : Nat, z2 = i := ⟨z2.toNat, by omega⟩
      obtain ⟨k3, rfl⟩ : ∃ i : Nat, z3 = i := ⟨z3.toNat, by omega⟩
      obtain ⟨k4, rfl⟩ : ∃ i : Nat, z4 = i := ⟨z4.toNat, by omega⟩
      -- the new stem
      have sok : StOk (dw, k1, k2', k3, k4) := ⟨ok.1.1, dn, ok.1.2, by show k1 ≤ 63; omega, by show k2' ≤ 3; omega, by show k3 ≤ 1; omega, by show k4 ≤ 7; omega⟩
      have hB := C.2.1
      generalize ho : zT H = o
      have oB : B + 142 ≤ o := by omega
      -- the heap with the new object, filled
      let h1 := znew H (13, 0) 5
      have K1 : ∀ b, b < o → zK h1 b = zK H b := fun b hb => zw_ne (by omega) _
      have R1 : ∀ b, b < o → zR h1 b = zR H b := fun b hb => zw_ne (by omega) _
      have L1 : ∀ b, b < o → zL h1 b = zL H b := fun b hb => zw_ne (by omega) _
      have I1 : ∀ b, b < o → zI h1 b = zI H b := fun b hb => zw_ne (by omega) _
      have Ko : zK h1 o = (13, 0) := by rw [← ho]; exact zw_same _ _ _
      have C1 : CSh h1 B := C.1.mv (fun b g1 g2 => K1 b (by omega)) (fun b j g1 g2 _ _ _ _ => by rw [R1 b (by omega)])
      let f2 := zu (zI h1) B 10 (I (cN []))
      let f3 := zu (zu (zu (zu (zu f2 o 0 (I (cN dw))) o 1 (I k1)) o 2 (I k2')) o 3 (I k3)) o 4 (I k4)
      have f3n : ∀ b, b ≠ o → f3 b = f2 b := fun b hb => by
        show zu (zu (zu (zu (zu f2 o 0 _) o 1 _) o 2 _) o 3 _) o 4 _ b = _
        rw [zu_ne hb, zu_ne hb, zu_ne hb, zu_ne hb, zu_ne hb]
      have f3B : ∀ b, b < o → f3 b = zu (zI H) B 10 (I (cN [])) b := fun b hb => by
        rw [f3n b (by omega)]
        show zu (zI h1) B 10 _ b = _
        by_cases e : b = B
        · subst e
          funext j
          rw [zu_cell, zu_cell, I1 b (by omega)]
        · rw [zu_ne e, zu_ne e, I1 b hb]
      have up : Up H (hI h1 f3) (zu (zI H) B 10 (I (cN []))) B := ⟨by show zT H < zT H + 1; omega, rfl, fun b hb => K1 b (by omega), fun b hb => R1 b (by omega), fun b hb => f3B b (by omega)⟩
      have So : StIs (hI h1 f3) f3 (zT H) (dw, k1, k2', k3, k4) := by
        rw [ho]
        refine ⟨Ko, ?_, ?_, ?_, ?_, ?_⟩
        · show zu (zu (zu (zu (zu f2 o 0 _) o 1 _) o 2 _) o 3 _) o 4 _ o 0 = _
          rw [zu_cell, if_neg (by decide), zu_cell, if_neg (by decide), zu_cell, if_neg (by decide), zu_cell, if_neg (by decide), zu_same]
        · show zu (zu (zu (zu (zu f2 o 0 _) o 1 _) o 2 _) o 3 _) o 4 _ o 1 = _
          rw [zu_cell, if_neg (by decide), zu_cell, if_neg (by decide), zu_cell, if_neg (by decide), zu_same]
        · show zu (zu (zu (zu (zu f2 o 0 _) o 1 _) o 2 _) o 3 _) o 4 _ o 2 = _
          rw [zu_cell, if_neg (by decide), zu_cell, if_neg (by decide), zu_same]
        · show zu (zu (zu (zu (zu f2 o 0 _) o 1 _) o 2 _) o 3 _) o 4 _ o 3 = _
          rw [zu_cell, if_neg (by decide), zu_same]
        · exact zu_same _ _ _ _
      have cd0 : CD H (zu (zI H) B 10 (I (cN []))) B sl rs sy dr := C.2.2.2.2.fr (Fr.zu (AA_mem.mpr (by omega)))
      obtain ⟨h4, p1, p2, p3, p4, p5, p6, p7, p8, p9, p10, p11⟩ := CD.addS (h := hI h1 f3) cd0 hB C.2.2.1 up So hl
      have T1 : zT (hI h1 f3) = zT H + 1 := rfl
      have N1 : zN (hI h1 f3) = zN H + 5 := rfl
      have ok' : AbOk [] (sl ++ [(dw, k1, k2', k3, k4)]) rs os bs ig sy dr t (nc + 1) := by
        have u := ok.up hnc
        refine ⟨⟨isW_nil, Nat.zero_le _⟩, ⟨by rw [List.length_append, List.length_singleton]; omega, fun s hs => ?_⟩, u.2.2⟩
        rcases List.mem_append.mp hs with h | h
        · exact u.2.1.2 s h
        · rw [List.mem_singleton.mp h]; exact sok
      obtain ⟨f5, wl', r1, r2, r3, r4⟩ := new_ok (nc := nc) C (L := B + 2) (h4 := h4) (Or.inl rfl) (by omega) (by omega) (by omega) (by omega) p7 (fun b hb => (p8 b (by omega)).trans (K1 b (by omega))) (fun b hb hbL => (p9 b (by omega) hbL).trans (f3B b (by omega))) (fun b hb => (p10 b (by omega)).trans (L1 b (by omega))) (fun b hb1 hb2 hb3 => by
          rcases p11 b hb2 hb3 with e | e
          · exact e.trans (R1 b (by omega))
          · omega) p2 ok'
      refine call_ok (H1 := hI h4 (fgt f5 B)) (v := I sl.length) rfl hnc C M hT hN ?_ r3 r4 ok' (fun Hm Mm => ?_)
      · have nO : z_nO 7 5 (hI H (zI H)) = some (some o, hI h1 (zI h1)) := by show some (some (zT H), _) = _; rw [ho]; rfl
        have td : p_X11_takeDraft (some B) (hI h1 (zI h1)) = some (I (cN dw), hI h1 f2) := by
          have e : (1 : Int32) = I (cN []) := rfl
          have e10 : zI h1 B 10 = I (cN dw) := by rw [I1 B (by omega)]; exact cc.1
          simp only [p_X11_takeDraft, z_b, z_rt, x_gI C1, x_pI C1, e10, e]
          rfl
        have pI : ∀ (j : Nat) (v : Int32) (f : FI), z_pI 7 j (some o) v (hI h1 f) = some ((), hI h1 (zu f o j v)) := fun j v f => if_pos Ko
        have ini : z_ii (some o) (p_X6_init (some o) (I (cN dw)) (I k1) (I k2') (I k3) (I k4)) (hI h1 f2) = some ((), hI h1 f3) := by
          show p_X6_init (some o) (I (cN dw)) (I k1) (I k2') (I k3) (I k4) (hI h1 f2) = _
          simp only [p_X6_init, z_ii, z_b, z_rt, pI]
          rfl
        have vrH1 : ∀ (α : Type) (k : ZM α) (f : FI), z_vr 12 (some B) k (hI h1 f) = k (hI h1 f) := fun α k f => if_pos C1.1.1
        have vr3 : ∀ (α : Type) (k : ZM α), z_vr 3 (some (B + cRf 0)) k (hI h1 f3) = k (hI h1 f3) := fun α k => lx_vr C1 k
        have lx1 := C1.2.1
        have lx4 := r2.2.1
        have g30 : z_gR 3 0 (some (B + 1)) (hI h1 f3) = some (some (B + 2), hI h1 f3) := by
          have e : zR (hI h1 f3) (B + 1) 0 = some (B + 2) := lx1.2.1
          exact (if_pos lx1.1).trans (by rw [e])
        have g34 : z_gR 3 0 (some (B + 1)) h4 = some (some (B + 2), h4) := by
          exact (if_pos lx4.1).trans (by rw [lx4.2.1])
        obtain ⟨sz4, kk4⟩ := CD.ssize p2
        have sz4' : p_Jx4a65c_size_8abf5 (some (B + 2)) h4 = some (I ((sl.length + 1 : Nat) : Int), h4) := by
          have := sz4
          rw [List.length_append, List.length_singleton] at this
          exact this
        have vl1 : ∀ (α : Type) (k : ZM α), z_vr 0 (some (B + 2)) k (hI h1 f3) = k (hI h1 f3) := fun α k => if_pos ((K1 (B + 2) (by omega)).trans k2)
        have vl4 : ∀ (α : Type) (k : ZM α), z_vr 0 (some (B + 2)) k h4 = k h4 := fun α k => if_pos kk4
        have ad : p_X2_addStem (some (B + cRf 0)) (some o) (hI h1 f3) = some (I sl.length, h4) := by
          have p1' := p1
          rw [ho] at p1'
          have e1 : I ((sl.length + 1 : Nat) : Int) - 1 = I (sl.length : Int) := by rw [show (1 : Int32) = I ((1 : Nat) : Int) from rfl, I_sn _ _ (by omega), Nat.add_sub_cancel]
          show p_X2_addStem (some (B + 1)) (some o) (hI h1 f3) = _
          simp only [p_X2_addStem, z_b, z_rt, g30, vl1, p1', g34, vl4, sz4', e1]
        have gx4 : z_gR 12 0 (some B) h4 = some (some (B + cRf 0), h4) := x_gR (f := zI h4) r2 0 (by decide)
        have vr34 : ∀ (α : Type) (k : ZM α), z_vr 3 (some (B + cRf 0)) k h4 = k h4 := fun α k => lx_vr (f := zI h4) r2 k
        have vx5 : ∀ (α : Type) (k : ZM α) (f : FI), z_vr 12 (some B) k (hI h4 f) = k (hI h4 f) := fun α k f => if_pos r2.1.1
        have r1' : p_X2_remake (some (B + cRf 0)) h4 = some ((), hI h4 f5) := r1
        have fg : p_X11_forgetAnswers (some B) (hI h4 f5) = some ((), hI h4 (fgt f5 B)) := forget_eq r2
        show p_X11_stem (some B) (I (k1 : Int)) (I (k2' : Int)) (I (k3 : Int)) (I (k4 : Int)) (hI H (zI H)) = some (Sum.inl _, _)
        simp only [p_X11_stem, z_b, ite_ap, a63, ar, a7]
        rw [if_pos q1, if_neg n1, if_pos q2, if_neg n1, if_pos q3, if_pos n1]
        simp only [x_gI C.1, cc.1, dn1]
        rw [if_neg dn]
        simp only [x_gR C.1 0 (by decide), vr0, sc, c12]
        rw [if_pos hl]
        simp only [nO, vrH1, td, ini, vr3, ad, gx4, vr34, r1', vx5, fg, z_xrt]
      · have m := Mm.1.1
        have M0 : MS (hM Hm (zu (zI Hm) (B + 95) 58 0) (zL Hm)) B dw sl rs al os bs ig tl sy dr t := Mm.pI (Or.inl rfl)
        have nn : ∀ j, (mSz j).1 ≠ 0 → arM B j ≠ B + 95 := fun j hj => (m.2.1 j hj).2.2
        have inj : ∀ i j, (mSz i).1 ≠ 0 → (mSz j).1 ≠ 0 → i ≠ j → arM B i ≠ arM B j := fun i j hi hj hij e => hij (m.2.2 i j hi hj e)
        let n := sl.length
        let fa := zu (zu (zu (zu (zu (zI Hm) (B + 95) 58 0) (arM B 3) n (I k1)) (arM B 4) n (I k2')) (arM B 5) n (I k3)) (arM B 6) n (I k4)
        let ga := zu (zL Hm) (arM B 2) n (J (mN dw))
        let fb := zu (zu fa (B + 95) 1 (I ((n + 1 : Nat) : Int))) (B + 95) 34 0
        have F : MFr (zu (zI Hm) (B + 95) 58 0) fb (zL Hm) ga (arM B) (B + 95) [1, 34] [2, 3, 4, 5, 6] := by
          refine ⟨fun j hj => ⟨?_, by rw [show ga (B + 95) = zL Hm (B + 95) from zu_ne (nn 2 (by decide)).symm _ _]⟩, fun b' g1 g2 => ⟨?_, zu_ne (fun q => g2 (by simp [q])) _ _⟩⟩
          · show zu (zu fa (B + 95) 1 _) (B + 95) 34 0 (B + 95) j = _
            rw [zu_cell, if_neg (fun q => hj (by simp [q])), zu_cell, if_neg (fun q => hj (by simp [q]))]
            show zu (zu (zu (zu _ (arM B 3) n _) (arM B 4) n _) (arM B 5) n _) (arM B 6) n _ (B + 95) j = _
            rw [zu_ne (nn 6 (by decide)).symm, zu_ne (nn 5 (by decide)).symm, zu_ne (nn 4 (by decide)).symm, zu_ne (nn 3 (by decide)).symm]
          · show zu (zu fa (B + 95) 1 _) (B + 95) 34 0 b' = _
            rw [zu_ne g1, zu_ne g1]
            show zu (zu (zu (zu _ (arM B 3) n _) (arM B 4) n _) (arM B 5) n _) (arM B 6) n _ b' = _
            rw [zu_ne (fun q => g2 (by simp [q])), zu_ne (fun q => g2 (by simp [q])), zu_ne (fun q => g2 (by simp [q])), zu_ne (fun q => g2 (by simp [q]))]
        obtain ⟨k1', k2'', k3', k4', k5, k6, k7, k8, k9, k10, k11, k12⟩ := MC.comps Mm.1 M0.2 F (by decide)
        have S0 : SsM (zu (zI Hm) (B + 95) 58 0) (zL Hm) (arM B) (B + 95) sl := M0.2.2.1
        have v3 : fb (arM B 3) = zu (zu (zI Hm) (B + 95) 58 0) (arM B 3) n (I k1) (arM B 3) := by
          show zu (zu fa (B + 95) 1 _) (B + 95) 34 0 (arM B 3) = _
          rw [zu_ne (nn 3 (by decide)), zu_ne (nn 3 (by decide))]
          show zu (zu (zu (zu _ (arM B 3) n _) (arM B 4) n _) (arM B 5) n _) (arM B 6) n _ (arM B 3) = _
          rw [zu_ne (inj 3 6 (by decide) (by decide) (by decide)), zu_ne (inj 3 5 (by decide) (by decide) (by decide)), zu_ne (inj 3 4 (by decide) (by decide) (by decide))]
        have v4 : fb (arM B 4) = zu (zu (zI Hm) (B + 95) 58 0) (arM B 4) n (I k2') (arM B 4) := by
          show zu (zu fa (B + 95) 1 _) (B + 95) 34 0 (arM B 4) = _
          rw [zu_ne (nn 4 (by decide)), zu_ne (nn 4 (by decide))]
          show zu (zu (zu (zu _ (arM B 3) n _) (arM B 4) n _) (arM B 5) n _) (arM B 6) n _ (arM B 4) = _
          rw [zu_ne (inj 4 6 (by decide) (by decide) (by decide)), zu_ne (inj 4 5 (by decide) (by decide) (by decide))]
          funext j; rw [zu_cell, zu_cell, zu_ne (inj 4 3 (by decide) (by decide) (by decide))]
        have v5 : fb (arM B 5) = zu (zu (zI Hm) (B + 95) 58 0) (arM B 5) n (I k3) (arM B 5) := by
          show zu (zu fa (B + 95) 1 _) (B + 95) 34 0 (arM B 5) = _
          rw [zu_ne (nn 5 (by decide)), zu_ne (nn 5 (by decide))]
          show zu (zu (zu (zu _ (arM B 3) n _) (arM B 4) n _) (arM B 5) n _) (arM B 6) n _ (arM B 5) = _
          rw [zu_ne (inj 5 6 (by decide) (by decide) (by decide))]
          funext j; rw [zu_cell, zu_cell, zu_ne (inj 5 4 (by decide) (by decide) (by decide)), zu_ne (inj 5 3 (by decide) (by decide) (by decide))]
        have v6 : fb (arM B 6) = zu (zu (zI Hm) (B + 95) 58 0) (arM B 6) n (I k4) (arM B 6) := by
          show zu (zu fa (B + 95) 1 _) (B + 95) 34 0 (arM B 6) = _
          rw [zu_ne (nn 6 (by decide)), zu_ne (nn 6 (by decide))]
          show zu (zu (zu (zu _ (arM B 3) n _) (arM B 4) n _) (arM B 5) n _) (arM B 6) n _ (arM B 6) = _
          funext j; rw [zu_cell, zu_cell, zu_ne (inj 6 5 (by decide) (by decide) (by decide)), zu_ne (inj 6 4 (by decide) (by decide) (by decide)), zu_ne (inj 6 3 (by decide) (by decide) (by decide))]
        have S1 : SsM fb ga (arM B) (B + 95) (sl ++ [(dw, k1, k2', k3, k4)]) := by
          refine ⟨?_, by rw [List.length_append, List.length_singleton]; omega, fun i hi => ?_⟩
          · show zu (zu fa (B + 95) 1 _) (B + 95) 34 0 (B + 95) 1 = _
            rw [zu_cell, if_neg (by decide), zu_same, List.length_append]; rfl
          · rw [List.length_append, List.length_singleton] at hi
            by_cases e : i < sl.length
            · obtain ⟨s, s1, s2, s3⟩ := S0.2.2 i e
              refine ⟨s, by rw [List.getElem?_append_left e]; exact s1, ?_, s3⟩
              have ne : ¬ i = n := by show ¬ i = sl.length; omega
              unfold StM at *
              rw [v3, v4, v5, v6, zu_cell, if_neg ne, zu_cell, if_neg ne, zu_cell, if_neg ne, zu_cell, if_neg ne]
              refine ⟨?_, s2.2⟩
              show zu (zL Hm) (arM B 2) n _ (arM B 2) i = _
              rw [zu_cell, if_neg ne]; exact s2.1
            · have e' : i = n := by show i = sl.length; omega
              refine ⟨(dw, k1, k2', k3, k4), by rw [e']; show (sl ++ [_])[sl.length]? = _; rw [List.getElem?_append_right (Nat.le_refl _), Nat.sub_self]; rfl, ?_, sok⟩
              unfold StM
              rw [v3, v4, v5, v6, e', zu_same, zu_same, zu_same, zu_same]
              exact ⟨zu_same _ _ _ _, rfl, rfl, rfl, rfl⟩
        have mc : MC fb ga B dw (sl ++ [(dw, k1, k2', k3, k4)]) rs al os bs ig tl sy dr t := ⟨k1' (by decide), S1, k3' (by decide) (by decide), k4' (by decide), k5 (by decide) (by decide), k6 (by decide) (by decide), k7 (by decide) (by decide), k8 (by decide), k9 (by decide) (by decide), k10 (by decide), k11 (by decide) (by decide), Or.inr (zu_same _ _ _ _)⟩
        refine ⟨hM Hm fb (zu ga (B + 95) 0 (J (mN []))), ?_, ?_, ⟨Mm.1, MC.dft mc⟩, ?_⟩
        · have g00 : (0 : Int32) ≤ 0 := by decide
          have g0 : zL Hm (B + 95) 0 = J (mN dw) := Mm.2.1
          have nl : ¬ sl.length = 12 := by omega
          simp only [p_X12_stem, z_b, ite_ap, b63, b3, b1, b7]
          rw [if_pos q1, if_neg n1, if_pos q4, if_neg n1, if_pos q5, if_neg n1, if_pos q3, if_pos n1]
          simp only [mg0 Hm Mm, dn2]
          rw [if_neg dn]
          simp only [m1 Hm Mm, c12']
          rw [if_pos nl]
          have c1 : zu (zI Hm) (B + 95) 58 0 (B + 95) 1 = I n := S0.1
          have c1' : ∀ a, a ≠ B + 95 → ∀ (f : FI) k v, zu f a k v (B + 95) 1 = f (B + 95) 1 := fun a ha f k v => by rw [zu_ne ha.symm]
          have n12 : n < 12 := hl
          have e1 : I (n : Int) + 1 = I ((n + 1 : Nat) : Int) := I_add _ 1
          have e2 : I ((n + 1 : Nat) : Int) - 1 = I (n : Int) := by rw [show (1 : Int32) = I ((1 : Nat) : Int) from rfl, I_sn _ _ (by omega), Nat.add_sub_cancel]
          have e0 : (0 : Int64) = J (mN []) := rfl
          have c34 : ∀ (f : FI) v, zu f (B + 95) 34 v (B + 95) 1 = f (B + 95) 1 := fun f v => by rw [zu_cell, if_neg (by decide)]
          show p_X12_stem_b67 _ _ _ _ _ _ _ (hM Hm (zI Hm) (zL Hm)) = _
          simp only [p_X12_stem_b67, z_b, z_rt, ite_ap, m_pI m, m_gI m, zu_same, g00, if_true, m_gR m 2 (by decide), m_gR m 3 (by decide), m_gR m 4 (by decide), m_gR m 5 (by decide), m_gR m 6 (by decide), c1, m_gL m, g0, m_sL m 2 12 (by decide) n12 (by decide), m_sI m 3 12 (by decide) n12 (by decide), m_sI m 4 12 (by decide) n12 (by decide), m_sI m 5 12 (by decide) n12 (by decide), m_sI m 6 12 (by decide) n12 (by decide), c1' _ (nn 3 (by decide)), c1' _ (nn 4 (by decide)), c1' _ (nn 5 (by decide)), c1' _ (nn 6 (by decide)), e1, m_pL m, m_pZ m 34 (Or.inl rfl), c34, e2, e0]
          rfl
        · exact (KM.pI 58 0).trans ((KM.mk_ (H := hM Hm (zu (zI Hm) (B + 95) 58 0) (zL Hm)) m F (by decide)).trans ⟨_, _, rfl, fun b' hb => ⟨rfl, zu_ne (by omega) _ _⟩⟩)
        · show fb (B + 95) 58 = 0
          rw [(F.1 58 (by decide)).1, zu_same]
  · have refuse : p_X11_stem (some B) (I z1) (I z2) (I z3) (I z4) (hI H (zI H)) = p_X11_stem_b29 (hI H (zI H)) := by
      simp only [p_X11_stem, z_b, ite_ap, a63, ar, a7]
      by_cases u1 : 0 ≤ z1 ∧ z1 ≤ 63
      · rw [if_pos u1, if_neg n1]
        by_cases u2 : (0 ≤ z2 ∧ z2 < 4) ∧ 0 ≤ z3 ∧ z3 < 2
        · rw [if_pos u2, if_neg n1, if_neg (fun u3 => q ⟨u1, u2, u3⟩), if_neg (fun y => y rfl)]
        · rw [if_neg u2, if_pos rfl]
      · rw [if_neg u1, if_pos rfl]
    refine call_th (kk := 1) hnc C M ok hT hN (n := 0) ?_ rfl (by decide) (fun Hm Mm => ?_)
    · exact refuse
    · obtain ⟨H2, p1, p2, p3, p4⟩ := refM 1 (Or.inl rfl) Hm Mm
      refine ⟨H2, 0, ?_, p2, p3, p4⟩
      simp only [p_X12_stem, p_X12_stem_b40, z_b, ite_ap, b63, b3, b1, b7]
      by_cases u1 : 0 ≤ z1 ∧ z1 ≤ 63
      · rw [if_pos u1, if_neg n1]
        by_cases u2 : 0 ≤ z2 ∧ z2 ≤ 3
        · rw [if_pos u2, if_neg n1]
          by_cases u3 : 0 ≤ z3 ∧ z3 ≤ 1
          · rw [if_pos u3, if_neg n1, if_neg (fun u4 => q ⟨u1, by omega, u4⟩), if_neg (fun y => y rfl)]
            exact p1
          · rw [if_neg u3, if_pos rfl]
            exact p1
        · rw [if_neg u2, if_pos rfl]
          exact p1
      · rw [if_neg u1, if_pos rfl]
        exact p1
end
