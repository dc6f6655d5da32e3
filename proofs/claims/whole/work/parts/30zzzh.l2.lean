section
variable {H H' H1 : ZH} {B nc : Nat} {f f' : FI} {g g' : FL} {dw dw' : Wd} {sl sl' : List St} {rs rs' : List Ru} {al al' : Nat → Nat → Bool} {os bs ig os' bs' ig' : List Ow} {tl tl' : Nat → Nat} {sy sy' : List Sty} {dr dr' : List It} {t t' : List Nat} {lo lb li lo' lb' li' : Bk} {wl wl' : List Wd}
/-- the drafted style takes an item -/
theorem CD.item (c : CD H f B sl rs sy dr) : ∃ dsx dsr da, zR H B 9 = some dsx ∧ Ob H 8 dsx (fun _ => dsr) (fun _ => da) sSz ∧ f dsx 1 = I dr.length ∧ (∀ b, B ≤ b → b < B + 142 → b < B + 92 ∨ B + 95 ≤ b → b ≠ dsx ∧ b ≠ da) ∧
    ∀ it, CD H (zu (zu f da dr.length (I (itC it))) dsx 1 (I ((dr.length + 1 : Nat) : Int))) B sl rs sy (dr ++ [it]) := by
  obtain ⟨dsx, dsr, da, a1, n1, o1, a2, n2, o2, a3, n3, o3, ⟨x1, x2, x3, x4, x5, x6, x7⟩, ⟨y1, y2, y3, y4⟩, ⟨z1, z2, z3, z4, z5⟩, ⟨w1, w2, w3, w4⟩, v⟩ := c
  obtain ⟨k1, k2, k3⟩ := ob8_k x2
  have nda : da ≠ dsx := fun e => by rw [e, k1] at k3; cases k3
  have ls : ∀ {a arr n os}, LsAt H a arr n os → a ≠ dsx ∧ a ≠ da := fun {a arr n os} l => by
    have := l.1
    exact ⟨fun e => (by rw [e, k1] at this; cases this), fun e => (by rw [e, k3] at this; cases this)⟩
  refine ⟨dsx, dsr, da, x1, x2, x3, fun b h1 h2 h3 => ?_, fun it => ?_⟩
  · by_cases q : b = B + 2 ∨ b = B + 3 ∨ b = B + 42
    · rcases q with rfl | rfl | rfl
      · exact ls y1
      · exact ls z1
      · exact ls w1
    · have hb : b ∈ AA B := AA_mem.mpr (by omega)
      exact ⟨fun e => x5 (e ▸ hb), fun e => x6 (e ▸ hb)⟩
  · have n : ∀ b, b ≠ dsx → b ≠ da → zu (zu f da dr.length (I (itC it))) dsx 1 (I ((dr.length + 1 : Nat) : Int)) b = f b := fun b h1 h2 => (zu_ne h1 _ _).trans (zu_ne h2 _ _)
    have out : ∀ {a : Nat}, a ∉ AA B ++ [dsx, da] → zu (zu f da dr.length (I (itC it))) dsx 1 (I ((dr.length + 1 : Nat) : Int)) a = f a := fun {a} ha => n a (fun q => ha (List.mem_append.mpr (Or.inr (by simp [q])))) (fun q => ha (List.mem_append.mpr (Or.inr (by simp [q]))))
    have l2 := n (B + 2) (ls y1).1 (ls y1).2
    have l3 := n (B + 3) (ls z1).1 (ls z1).2
    have l4 := n (B + 42) (ls w1).1 (ls w1).2
    refine ⟨dsx, dsr, da, a1, n1, o1, a2, n2, o2, a3, n3, o3, ⟨x1, x2, by rw [zu_same, List.length_append]; rfl, fun j i hj => ?_, x5, x6, x7⟩, ⟨y1, by rw [l2]; exact y2, y3, fun i hi => ?_⟩, ⟨z1, by rw [l3]; exact z2, z3, z4, fun i hi => ?_⟩, ⟨w1, by rw [l4]; exact w2, w3, fun i hi => ?_⟩, v⟩
    · rw [zu_ne nda, zu_cell]
      rcases snoc_get.mp hj with h2 | ⟨h1, h2⟩
      · have := lt_of_get h2
        rw [if_neg (by omega)]; exact x4 j i h2
      · rw [if_pos h1, h2]
    · obtain ⟨s, s1, s2, s3, s4⟩ := y4 i hi
      exact ⟨s, s1, s2.congr rfl (out s3), s3, s4⟩
    · obtain ⟨s, s1, s2, s3, s4⟩ := z5 i hi
      exact ⟨s, s1, s2.congr rfl (out s3), s3, s4⟩
    · obtain ⟨s, s1, sr, sa, s2, s3, s4, s5, s6, s7, s8, s9⟩ := w4 i hi
      exact ⟨s, s1, sr, sa, s2, by rw [out s7]; exact s3, by rw [out s7]; exact s4, by rw [out s7]; exact s5, by rw [out s8]; exact s6, s7, s8, s9⟩
theorem call_item (S : ST H B nc (dw, sl, rs, al, os, bs, ig, tl, sy, dr, t)) (hnc : nc < 512) (x : Int32) : Call H B nc (p_L_item (some B) x (some (B + 141))) (p_X12_item (some (B + 95)) x) := by
  obtain ⟨⟨lo, lb, li, wl, C⟩, M, ok, hT, hN⟩ := S
  obtain ⟨z, rfl, hz⟩ := int_of x
  have cc := C.2.2.2.1
  have n1 : ¬ ((1 : Int32) = 0) := by decide
  obtain ⟨dn1, dn2⟩ := dft_nil ok
  have dl := ok.2.2.2.2.2.1.1
  obtain ⟨dsx, dsr, da, d1, d2, d3, d4, d5⟩ := CD.item C.2.2.2.2
  have rr : ((-1 : Int32) ≤ I z ∧ I z ≤ 3) ↔ (-1 ≤ z ∧ z < 4) := by rw [show (-1 : Int32) = I (-1) from rfl, lit, I_le (by decide) hz, I_le hz (by decide)]; omega
  have cr : ∀ h, p_X11_isIn (I z) (-1) 3 h = some (if -1 ≤ z ∧ z < 4 then 1 else 0, h) := fun h => by rw [isIn_eq]; simp only [rr]
  have mr : ∀ h, p_X12_in (I z) (-1) 3 h = some (if -1 ≤ z ∧ z < 4 then 1 else 0, h) := fun h => by rw [min_eq]; simp only [rr]
  have gx : ∀ f : FI, z_gR 12 9 (some B) (hI H f) = some (some dsx, hI H f) := fun f => by
    have e : zR (hI H f) B 9 = some dsx := d1
    exact (if_pos C.1.1.1).trans (by rw [e])
  have m1 : (I z = -1) ↔ z = -1 := by rw [show (-1 : Int32) = I (-1) from rfl, I_inj hz (by decide)]
  have e29 : ∀ Hm, MS Hm B dw sl rs al os bs ig tl sy dr t → zI Hm (arM B 29) 8 = I dr.length := fun Hm Mm => Mm.2.2.2.2.2.2.2.2.2.2.1.1.1
  have refM : ∀ (k : Int32), k = 1 ∨ k = 2 → ∀ Hm, MS Hm B dw sl rs al os bs ig tl sy dr t → ∃ H2, p_X12_item_b44 (some (B + 95)) (I z) (some (B + 95)) k Hm = some (0, H2) ∧ KM Hm H2 B ∧ MS H2 B dw sl rs al os bs ig tl sy dr t ∧ zI H2 (B + 95) 58 = k := fun k hk Hm Mm => by
    have m := Mm.1.1
    refine ⟨hM Hm (zu (zI Hm) (B + 95) 58 k) (zL Hm), ?_, KM.pI _ _, Mm.pI (Or.inl rfl), zu_same _ _ _ _⟩
    have g1 : ¬ k ≤ 0 := by rcases hk with rfl | rfl <;> decide
    show p_X12_item_b44 _ _ _ _ (hM Hm (zI Hm) (zL Hm)) = _
    simp only [p_X12_item_b44, z_b, z_rt, ite_ap, m_pI m, m_gI m, zu_same, g1, if_false]
  have g29 : ∀ Hm, MS Hm B dw sl rs al os bs ig tl sy dr t → z_gR 13 29 (some (B + 95)) Hm = some (some (arM B 29), Hm) ∧ z_aI (some (arM B 29)) 8 Hm = some (I dr.length, Hm) := fun Hm Mm => by
    have m := Mm.1.1
    exact ⟨m_gR (f := zI Hm) (g := zL Hm) m 29 (by decide), (m_aI (f := zI Hm) (g := zL Hm) m 29 9 (by decide) (i := 8) (by decide) (by decide)).trans (by rw [e29 Hm Mm]; rfl)⟩
  have c3 : (3 ≤ I (dr.length : Int)) ↔ 3 ≤ dr.length := by rw [lit, I_le (by decide) (by omega)]; omega
  have c3' : (I (dr.length : Int) = 3) ↔ dr.length = 3 := I_eqN (k := 3) (by omega) (by decide)
  by_cases q : -1 ≤ z ∧ z < 4
  · by_cases full : dr.length = 3 ∨ (z = -1 ∧ dw = [])
    · refine call_th (kk := 2) hnc C M ok hT hN (n := 1) ?_ rfl (by decide) (fun Hm Mm => ?_)
      · show p_X11_item (some B) (I z) (hI H (zI H)) = _
        have gs : z_gI 8 1 (some dsx) (hI H (zI H)) = some (I dr.length, hI H (zI H)) := (o_gI d2 1).trans (by rw [d3])
        simp only [p_X11_item, p_X11_item_b43, z_b, ite_ap, cr]
        rw [if_pos q, if_pos n1]
        simp only [gx, gs, c3]
        by_cases u : 3 ≤ dr.length
        · rw [if_pos u]; rfl
        · rw [if_neg u]
          obtain ⟨u1, u2⟩ := full.resolve_left (by omega)
          rw [if_neg (fun y => y (m1.mpr u1))]
          simp only [x_gI C.1, cc.1, dn1]
          rw [if_neg (fun y => y u2)]; rfl
      · obtain ⟨H2, p1, p2, p3, p4⟩ := refM 2 (Or.inr rfl) Hm Mm
        refine ⟨H2, 0, ?_, p2, p3, p4⟩
        have g0 : z_gL 13 0 (some (B + 95)) Hm = some (J (mN dw), Hm) := (m_gL (f := zI Hm) (g := zL Hm) Mm.1.1 0).trans (by rw [Mm.2.1]; rfl)
        simp only [p_X12_item, p_X12_item_b39, z_b, ite_ap, mr]
        rw [if_pos q, if_pos n1]
        simp only [(g29 Hm Mm).1, (g29 Hm Mm).2, c3']
        by_cases u : dr.length = 3
        · rw [if_pos u]; exact p1
        · rw [if_neg u]
          obtain ⟨u1, u2⟩ := full.resolve_left u
          rw [if_neg (fun y => y (m1.mpr u1))]
          simp only [g0, dn2]
          rw [if_neg (fun y => y u2)]; exact p1
    · have dl2 : dr.length < 3 := by omega
      have e1 : I (dr.length : Int) + 1 = I ((dr.length + 1 : Nat) : Int) := I_add _ 1
      have e24 : 24 + I (dr.length : Int) = I ((24 + dr.length : Nat) : Int) := I_add 24 _
      -- what both do for an item that is itC it in the class, itK it in the reference
      have main : ∀ (it : It) (dw2 : Wd) (f1 : FI), ItOk it → (f1 = zI H ∧ dw2 = dw ∨ f1 = zu (zI H) B 10 (I (cN [])) ∧ dw2 = []) → (p_X11_item (some B) (I z) (hI H (zI H)) = p_X11_item_b70 (some B) (some dsx) (I (itC it)) (hI H f1)) →
          (∀ Hm, MS Hm B dw sl rs al os bs ig tl sy dr t → ∃ v : Int64, (∀ w, it = .inr w → v = J (mN w)) ∧ p_X12_item (some (B + 95)) (I z) Hm = p_X12_item_b116 (some (B + 95)) (some (B + 95)) (J (mN dw2)) (hM Hm (zu (zu (zI Hm) (B + 95) 58 0) (arM B 27) (24 + dr.length) (I (itK it))) (zu (zL Hm) (arM B 28) (24 + dr.length) v))) →
          Call H B nc (p_L_item (some B) (I z) (some (B + 141))) (p_X12_item (some (B + 95)) (I z)) := fun it dw2 f1 hit hf code ref => by
        have hfr : ∀ b, b ≠ B → f1 b = zI H b := fun b hb => by
          rcases hf with ⟨rfl, -⟩ | ⟨rfl, -⟩
          · rfl
          · exact zu_ne hb _ _
        have cd1 : CD H f1 B sl rs sy dr := C.2.2.2.2.fr (fun b hb => hfr b (fun q => hb (AA_mem.mpr (by omega))))
        have c1 : CC f1 B dw2 sl rs al os bs ig tl sy t lo lb li wl := by
          rcases hf with ⟨rfl, rfl⟩ | ⟨rfl, rfl⟩
          · exact cc
          · exact cc.dft
        obtain ⟨dsx', dsr', da', u1, u2, u3, u4, u5⟩ := CD.item cd1
        have ed : dsx' = dsx := by rw [d1] at u1; exact (Option.some.inj u1).symm
        subst ed
        have nn : ∀ b, B ≤ b → b < B + 142 → b < B + 92 ∨ B + 95 ≤ b → zu (zu f1 da' dr.length (I (itC it))) dsx' 1 (I ((dr.length + 1 : Nat) : Int)) b = f1 b := fun b h1 h2 h3 => (zu_ne (u4 b h1 h2 h3).1 _ _).trans (zu_ne (u4 b h1 h2 h3).2 _ _)
        have c2 : CC (zu (zu f1 da' dr.length (I (itC it))) dsx' 1 (I ((dr.length + 1 : Nat) : Int))) B dw2 sl rs al os bs ig tl sy t lo lb li wl := c1.congr (fun b h1 h2 => nn b h1 (by omega) (Or.inl h2))
        have ok2 : AbOk dw2 sl rs os bs ig sy (dr ++ [it]) t (nc + 1) := by
          have u := ok.up hnc
          refine ⟨?_, u.2.1, u.2.2.1, u.2.2.2.1, u.2.2.2.2.1, ⟨by rw [List.length_append, List.length_singleton]; omega, fun i hi => ?_⟩, u.2.2.2.2.2.2⟩
          · rcases hf with ⟨-, rfl⟩ | ⟨-, rfl⟩
            · exact u.1
            · exact ⟨isW_nil, Nat.zero_le _⟩
          · rcases List.mem_append.mp hi with h | h
            · exact u.2.2.2.2.2.1.2 i h
            · rw [List.mem_singleton.mp h]; exact hit
        refine call_ok (H1 := hI H (zu (zu f1 da' dr.length (I (itC it))) dsx' 1 (I ((dr.length + 1 : Nat) : Int)))) (v := I ((dr.length + 1 : Nat) : Int)) rfl hnc C M hT hN ?_ (KC.ints (fun b h1 h2 => (nn b (by omega) (by omega) (by omega)).trans (hfr b (by omega)))) ⟨C.1, C.2.1, C.2.2.1, c2, u5 it⟩ ok2 (fun Hm Mm => ?_)
        · show p_X11_item (some B) (I z) (hI H (zI H)) = some (Sum.inl _, _)
          rw [code]
          have vr : ∀ (α : Type) (k : ZM α), z_vr 8 (some dsx') k (hI H f1) = k (hI H f1) := fun α k => o_vr u2 k
          have nd : dsx' ≠ da' := fun e => by
            obtain ⟨k1, k2, k3⟩ := ob8_k u2
            rw [← e, k1] at k3; cases k3
          have gs : zu f1 da' dr.length (I (itC it)) dsx' 1 = I dr.length := by rw [zu_ne nd]; exact u3
          have gx' : z_gR 12 9 (some B) (hI H (zu (zu f1 da' dr.length (I (itC it))) dsx' 1 (I ((dr.length + 1 : Nat) : Int)))) = some (some dsx', _) := gx _
          simp only [p_X11_item_b70, p_X7_addItem, z_b, z_rt, vr, o_gR u2 0 (by decide), o_gI u2, u3, o_rv u2 0 (by decide), o_set u2 0 3 rfl dl2, gs, e1, o_pI u2, gx', zu_same, z_xrt]
        · obtain ⟨v, hv, rc⟩ := ref Hm Mm
          have m := Mm.1.1
          have M0 : MS (hM Hm (zu (zI Hm) (B + 95) 58 0) (zL Hm)) B dw sl rs al os bs ig tl sy dr t := Mm.pI (Or.inl rfl)
          have n27 := (m.2.1 27 (by decide)).2.2
          have n28 := (m.2.1 28 (by decide)).2.2
          have n29 := (m.2.1 29 (by decide)).2.2
          have j29 : arM B 29 ≠ arM B 27 := fun e => absurd (m.2.2 29 27 (by decide) (by decide) e) (by decide)
          have F : MFr (zu (zI Hm) (B + 95) 58 0) (zu (zu (zu (zI Hm) (B + 95) 58 0) (arM B 27) (24 + dr.length) (I (itK it))) (arM B 29) 8 (I ((dr.length + 1 : Nat) : Int))) (zL Hm) (zu (zL Hm) (arM B 28) (24 + dr.length) v) (arM B) (B + 95) [] [27, 28, 29] :=
            ⟨fun j _ => ⟨by rw [zu_ne n29.symm, zu_ne n27.symm], by rw [zu_ne n28.symm]⟩, fun b' h1 h2 => ⟨by rw [zu_ne (fun q => h2 (by simp [q])), zu_ne (fun q => h2 (by simp [q]))], zu_ne (fun q => h2 (by simp [q])) _ _⟩⟩
          obtain ⟨k1, k2, k3, k4, k5, k6, k7, k8, k9, k10, k11, k12⟩ := MC.comps Mm.1 M0.2 F (by decide)
          have S0 : SyM (zu (zI Hm) (B + 95) 58 0) (zL Hm) (arM B) (B + 95) sy := M0.2.2.2.2.2.2.2.2.2.1
          have D0 : DrM (zu (zI Hm) (B + 95) 58 0) (zL Hm) (arM B) dr := M0.2.2.2.2.2.2.2.2.2.2.1.1
          have S1 : SyM (zu (zu (zu (zI Hm) (B + 95) 58 0) (arM B 27) (24 + dr.length) (I (itK it))) (arM B 29) 8 (I ((dr.length + 1 : Nat) : Int))) (zu (zL Hm) (arM B 28) (24 + dr.length) v) (arM B) (B + 95) sy := by
            obtain ⟨s1, s2, s3⟩ := S0
            have t1 : ∀ j, (mSz j).1 ≠ 0 → j ≠ 27 → j ≠ 29 → zu (zu (zu (zI Hm) (B + 95) 58 0) (arM B 27) (24 + dr.length) (I (itK it))) (arM B 29) 8 (I ((dr.length + 1 : Nat) : Int)) (arM B j) = zu (zI Hm) (B + 95) 58 0 (arM B j) := fun j hj h1 h2 => by
              rw [zu_ne (fun e => absurd (m.2.2 j 29 hj (by decide) e) h2), zu_ne (fun e => absurd (m.2.2 j 27 hj (by decide) e) h1)]
            have t2 : zu (zL Hm) (arM B 28) (24 + dr.length) v (arM B 31) = zL Hm (arM B 31) := zu_ne (fun e => absurd (m.2.2 31 28 (by decide) (by decide) e) (by decide)) _ _
            refine ⟨by rw [zu_ne n29.symm, zu_ne n27.symm]; exact s1, s2, fun k s hs => ?_⟩
            obtain ⟨⟨r1, r2, r3, r4⟩, r5⟩ := s3 k s hs
            have hk := lt_of_get hs
            refine ⟨⟨?_, by rw [t1 30 (by decide) (by decide) (by decide)]; exact r2, by rw [t2]; exact r3, fun j it' hj => ?_⟩, r5⟩
            · rw [zu_cell, if_neg (by omega), zu_ne j29]; exact r1
            · have hj3 := lt_of_get hj
              have h13 := r5.2.1
              obtain ⟨q1, q2⟩ := r4 j it' hj
              refine ⟨by rw [zu_ne j29.symm, zu_cell, if_neg (by omega)]; exact q1, fun w hw => by rw [zu_cell, if_neg (by omega)]; exact q2 w hw⟩
          have D1 : DrM (zu (zu (zu (zI Hm) (B + 95) 58 0) (arM B 27) (24 + dr.length) (I (itK it))) (arM B 29) 8 (I ((dr.length + 1 : Nat) : Int))) (zu (zL Hm) (arM B 28) (24 + dr.length) v) (arM B) (dr ++ [it]) := by
            refine ⟨by rw [zu_same, List.length_append]; rfl, fun j it' hj => ?_⟩
            rw [zu_ne j29.symm, zu_cell, zu_cell]
            rcases snoc_get.mp hj with h2 | ⟨h1, h2⟩
            · have := lt_of_get h2
              rw [if_neg (by omega), if_neg (by omega)]; exact D0.2 j it' h2
            · rw [if_pos (by omega), if_pos (by omega), h2]
              exact ⟨rfl, fun w hw => hv w (by rw [← hw])⟩
          have mc : MC (zu (zu (zu (zI Hm) (B + 95) 58 0) (arM B 27) (24 + dr.length) (I (itK it))) (arM B 29) 8 (I ((dr.length + 1 : Nat) : Int))) (zu (zL Hm) (arM B 28) (24 + dr.length) v) B dw sl rs al os bs ig tl sy (dr ++ [it]) t := ⟨k1 (by decide), k2 (by decide) (by decide), k3 (by decide) (by decide), k4 (by decide), k5 (by decide) (by decide), k6 (by decide) (by decide), k7 (by decide) (by decide), k8 (by decide), S1, ⟨D1, fun i hi => by rw [(F.at_ m (j := 15) (by decide) (by decide) (by decide)).1]; exact M0.2.2.2.2.2.2.2.2.2.2.1.2 i hi⟩, k11 (by decide) (by decide), k12 (by decide) (by decide) (by decide)⟩
          refine ⟨hM Hm (zu (zu (zu (zI Hm) (B + 95) 58 0) (arM B 27) (24 + dr.length) (I (itK it))) (arM B 29) 8 (I ((dr.length + 1 : Nat) : Int))) (zu (zu (zL Hm) (arM B 28) (24 + dr.length) v) (B + 95) 0 (J (mN dw2))), ?_, ?_, ⟨Mm.1, MC.dft mc⟩, ?_⟩
          · rw [rc]
            have e8 : (8 : Int32) = I ((8 : Nat) : Int) := rfl
            have v29 : zu (zu (zI Hm) (B + 95) 58 0) (arM B 27) (24 + dr.length) (I (itK it)) (arM B 29) 8 = I dr.length := by rw [zu_ne j29]; exact D0.1
            simp only [p_X12_item_b116, z_b, z_rt, m_pL m, m_gR m 29 (by decide), e8, m_aI m 29 9 (by decide) (i := 8) (by decide) (by decide), v29, e1, m_sI m 29 9 (by decide) (i := 8) (by decide) (by decide), zu_same]
          · exact (KM.pI 58 0).trans ((KM.mk_ (H := hM Hm (zu (zI Hm) (B + 95) 58 0) (zL Hm)) m F (by decide)).trans ⟨_, _, rfl, fun b' hb => ⟨rfl, zu_ne (by omega) _ _⟩⟩)
          · show zu (zu (zu (zI Hm) (B + 95) 58 0) (arM B 27) (24 + dr.length) (I (itK it))) (arM B 29) 8 (I ((dr.length + 1 : Nat) : Int)) (B + 95) 58 = 0
            rw [zu_ne n29.symm, zu_ne n27.symm, zu_same]
      have gs : z_gI 8 1 (some dsx) (hI H (zI H)) = some (I dr.length, hI H (zI H)) := (o_gI d2 1).trans (by rw [d3])
      by_cases hm1 : z = -1
      · have dn : dw ≠ [] := fun e => full (Or.inr ⟨hm1, e⟩)
        have hw : WdOk dw := ⟨ok.1.1, dn, ok.1.2⟩
        refine main (.inr dw) [] (zu (zI H) B 10 (I (cN []))) hw (Or.inr ⟨rfl, rfl⟩) ?_ (fun Hm Mm => ⟨J (mN dw), fun w hw => by cases hw; rfl, ?_⟩)
        · have td : p_X11_takeDraft (some B) (hI H (zI H)) = some (I (cN dw), hI H (zu (zI H) B 10 (I (cN [])))) := by
            have e : (1 : Int32) = I (cN []) := rfl
            simp only [p_X11_takeDraft, z_b, z_rt, x_gI C.1, x_pI C.1, cc.1, e]
          have nn : ¬ 3 ≤ dr.length := by omega
          simp only [p_X11_item, p_X11_item_b53, z_b, ite_ap, cr]
          rw [if_pos q, if_pos n1]
          simp only [gx, gs, c3, nn, if_false]
          rw [if_neg (fun y => y (m1.mpr hm1))]
          simp only [x_gI C.1, cc.1, dn1]
          rw [if_pos dn]
          simp only [m1.mpr hm1, not_true_eq_false, if_false, gx, x_vr C.1, td]
          rfl
        · have m := Mm.1.1
          have g0 : zL Hm (B + 95) 0 = J (mN dw) := Mm.2.1
          have g0' : z_gL 13 0 (some (B + 95)) Hm = some (J (mN dw), Hm) := (m_gL (f := zI Hm) (g := zL Hm) m 0).trans (by rw [g0]; rfl)
          have n27 := (m.2.1 27 (by decide)).2.2
          have nn : ¬ dr.length = 3 := by omega
          have g00 : (0 : Int32) ≤ 0 := by decide
          have e8 : (8 : Int32) = I ((8 : Nat) : Int) := rfl
          have z1 : I z + 1 = 0 := by rw [hm1]; rfl
          have v29 : zu (zI Hm) (B + 95) 58 0 (arM B 29) 8 = I dr.length := by rw [zu_ne (m.2.1 29 (by decide)).2.2]; exact e29 Hm Mm
          have j29 : arM B 29 ≠ arM B 27 := fun e => absurd (m.2.2 29 27 (by decide) (by decide) e) (by decide)
          have v29' : ∀ v, zu (zu (zI Hm) (B + 95) 58 0) (arM B 27) (24 + dr.length) v (arM B 29) 8 = I dr.length := fun v => by rw [zu_ne j29]; exact v29
          have e0 : (0 : Int64) = J (mN []) := rfl
          have start : p_X12_item (some (B + 95)) (I z) Hm = p_X12_item_b44 (some (B + 95)) (I z) (some (B + 95)) 0 Hm := by
            simp only [p_X12_item, p_X12_item_b43, z_b, ite_ap, mr]
            rw [if_pos q, if_pos n1]
            simp only [(g29 Hm Mm).1, (g29 Hm Mm).2, c3', nn, if_false]
            rw [if_neg (fun y => y (m1.mpr hm1))]
            simp only [g0', dn2]
            rw [if_pos dn]
          rw [start]
          show p_X12_item_b44 _ _ _ _ (hM Hm (zI Hm) (zL Hm)) = _
          simp only [p_X12_item_b44, p_X12_item_b101, z_b, ite_ap, m_pI m, m_gI m, zu_same, g00, if_true, m_gR m 27 (by decide), m_gR m 29 (by decide), e8, m_aI m 29 9 (by decide) (i := 8) (by decide) (by decide), v29, e24, z1, m_sI m 27 27 (by decide) (show 24 + dr.length < 27 by omega) (by decide), m_gR m 28 (by decide), v29']
          simp only [m1.mpr hm1, not_true_eq_false, if_false, m_gL m, g0, m_sL m 28 27 (by decide) (show 24 + dr.length < 27 by omega) (by decide), e0]
          rfl
      · obtain ⟨k, rfl⟩ : ∃ i : Nat, z = i := ⟨z.toNat, by omega⟩
        refine main (.inl k) dw (zI H) (show k ≤ 3 by omega) (Or.inl ⟨rfl, rfl⟩) ?_ (fun Hm Mm => ⟨0, fun w hw => (by cases hw), ?_⟩)
        · have nn : ¬ 3 ≤ dr.length := by omega
          have hm1' : ¬ I (k : Int) = -1 := fun y => hm1 (m1.mp y)
          simp only [p_X11_item, p_X11_item_b53, z_b, ite_ap, cr]
          rw [if_pos q, if_pos n1]
          simp only [gx, gs, c3, nn, if_false]
          simp only [hm1', not_false_eq_true, if_true, gx]
          rfl
        · have m := Mm.1.1
          have g0 : zL Hm (B + 95) 0 = J (mN dw) := Mm.2.1
          have nn : ¬ dr.length = 3 := by omega
          have hm1' : ¬ I (k : Int) = -1 := fun y => hm1 (m1.mp y)
          have g00 : (0 : Int32) ≤ 0 := by decide
          have e8 : (8 : Int32) = I ((8 : Nat) : Int) := rfl
          have z1 : I (k : Int) + 1 = I ((k + 1 : Nat) : Int) := I_add _ 1
          have v29 : zu (zI Hm) (B + 95) 58 0 (arM B 29) 8 = I dr.length := by rw [zu_ne (m.2.1 29 (by decide)).2.2]; exact e29 Hm Mm
          have j29 : arM B 29 ≠ arM B 27 := fun e => absurd (m.2.2 29 27 (by decide) (by decide) e) (by decide)
          have v29' : ∀ v, zu (zu (zI Hm) (B + 95) 58 0) (arM B 27) (24 + dr.length) v (arM B 29) 8 = I dr.length := fun v => by rw [zu_ne j29]; exact v29
          have start : p_X12_item (some (B + 95)) (I (k : Int)) Hm = p_X12_item_b44 (some (B + 95)) (I (k : Int)) (some (B + 95)) 0 Hm := by
            simp only [p_X12_item, p_X12_item_b43, z_b, ite_ap, mr]
            rw [if_pos q, if_pos n1]
            simp only [(g29 Hm Mm).1, (g29 Hm Mm).2, c3', nn, if_false]
            rw [if_pos hm1']
          rw [start]
          have n28 := (m.2.1 28 (by decide)).2.2
          have g0z : ∀ v : Int64, zu (zL Hm) (arM B 28) (24 + dr.length) v (B + 95) 0 = J (mN dw) := fun v => by rw [zu_ne n28.symm]; exact g0
          show p_X12_item_b44 _ _ _ _ (hM Hm (zI Hm) (zL Hm)) = _
          simp only [p_X12_item_b44, p_X12_item_b101, z_b, ite_ap, m_pI m, m_gI m, zu_same, g00, if_true, m_gR m 27 (by decide), m_gR m 29 (by decide), e8, m_aI m 29 9 (by decide) (i := 8) (by decide) (by decide), v29, e24, z1, m_sI m 27 27 (by decide) (show 24 + dr.length < 27 by omega) (by decide), m_gR m 28 (by decide), v29']
          simp only [hm1', not_false_eq_true, if_true, m_gL m, m_sL m 28 27 (by decide) (show 24 + dr.length < 27 by omega) (by decide), g0z]
          rfl
  · refine call_th (kk := 1) hnc C M ok hT hN (n := 0) ?_ rfl (by decide) (fun Hm Mm => ?_)
    · show p_X11_item (some B) (I z) (hI H (zI H)) = _
      simp only [p_X11_item, z_b, ite_ap, cr]
      rw [if_neg q, if_neg (fun y => y rfl)]; rfl
    · obtain ⟨H2, p1, p2, p3, p4⟩ := refM 1 (Or.inl rfl) Hm Mm
      refine ⟨H2, 0, ?_, p2, p3, p4⟩
      simp only [p_X12_item, z_b, ite_ap, mr]
      rw [if_neg q, if_neg (fun y => y rfl)]; exact p1
end
