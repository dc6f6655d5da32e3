section
variable {H H' H1 : ZH} {B nc : Nat} {f f' : FI} {g g' : FL} {dw dw' : Wd} {sl sl' : List St} {rs rs' : List Ru} {al al' : Nat → Nat → Bool} {os bs ig os' bs' ig' : List Ow} {tl tl' : Nat → Nat} {sy sy' : List Sty} {dr dr' : List It} {t t' : List Nat} {lo lb li lo' lb' li' : Bk} {wl wl' : List Wd}
theorem call_bar (S : ST H B nc (dw, sl, rs, al, os, bs, ig, tl, sy, dr, t)) (hnc : nc < 512) : Call H B nc (p_L_bar (some B) (some (B + 141))) (p_X12_bar (some (B + 95))) := by
  obtain ⟨⟨lo, lb, li, wl, C⟩, M, ok, hT, hN⟩ := S
  have cc := C.2.2.2.1
  obtain ⟨Ro, Rb, Ri⟩ := cc.2.2.1
  have n1 : ¬ ((1 : Int32) = 0) := by decide
  obtain ⟨dn1, dn2⟩ := dft_nil ok
  have ol := ok.2.2.2.1.1
  have bl := ok.2.2.2.1.2.1
  have hd := ok.2.2.2.1.2.2.1
  have b0 := ok.2.2.2.1.2.2.2
  have refM : ∀ Hm, MS Hm B dw sl rs al os bs ig tl sy dr t → ∃ H2, p_X12_bar_b36 (some (B + 95)) (some (B + 95)) 1 Hm = some (0, H2) ∧ KM Hm H2 B ∧ MS H2 B dw sl rs al os bs ig tl sy dr t ∧ zI H2 (B + 95) 58 = 1 := fun Hm Mm => by
    have m := Mm.1.1
    refine ⟨hM Hm (zu (zI Hm) (B + 95) 58 1) (zL Hm), ?_, KM.pI _ _, Mm.pI (Or.inl rfl), zu_same _ _ _ _⟩
    have g1 : ¬ (1 : Int32) ≤ 0 := by decide
    show p_X12_bar_b36 _ _ _ (hM Hm (zI Hm) (zL Hm)) = _
    simp only [p_X12_bar_b36, z_b, z_rt, ite_ap, m_pI m, m_gI m, zu_same, g1, if_false]
  have m20 : ∀ Hm, MS Hm B dw sl rs al os bs ig tl sy dr t → zI Hm (B + 95) 20 = I bs.length := fun Hm Mm => Mm.2.2.2.2.2.2.1.1
  by_cases dn : dw = []
  · refine call_th (kk := 1) hnc C M ok hT hN (n := 1) ?_ rfl (by decide) (fun Hm Mm => ?_)
    · show p_X11_bar (some B) (hI H (zI H)) = _
      simp only [p_X11_bar, p_X11_bar_b22, z_b, ite_ap, x_gI C.1, cc.1, dn1, dn, if_true, z_th]
      rfl
    · obtain ⟨H2, p1, p2, p3, p4⟩ := refM Hm Mm
      refine ⟨H2, 0, ?_, p2, p3, p4⟩
      have g0 : z_gL 13 0 (some (B + 95)) Hm = some (J (mN dw), Hm) := (m_gL (f := zI Hm) (g := zL Hm) Mm.1.1 0).trans (by rw [Mm.2.1]; rfl)
      simp only [p_X12_bar, p_X12_bar_b31, z_b, ite_ap, g0, dn2]
      rw [if_pos dn]
      exact p1
  · have hw : WdOk dw := ⟨ok.1.1, dn, ok.1.2⟩
    have rmi := room_iff Rb hw
    have rmc := roomBar_eq (g := zI H) C.1.2.1 C.1.2.2.1.2.2.1 cc.2.1.2.2.1 (w := cN dw) (by have := cN_range ok.1.1 ok.1.2; omega)
    have lx0 : ∀ (α : Type) (k : ZM α) (f : FI), z_vr 3 (some (B + cRf 0)) k (hI H f) = k (hI H f) := fun α k f => lx_vr C.1 k
    have rmc' : p_X2_hasRoomForBarred (some (B + cRf 0)) (I (cN dw)) (hI H (zI H)) = some (if fnx dw bs 0 ≠ none ∨ bs.length < 10 then 1 else 0, hI H (zI H)) := rmc.trans (by simp only [rmi])
    by_cases room : fnx dw bs 0 ≠ none ∨ bs.length < 10
    · have hroom : (ownA bs dw 0).length ≤ 10 := by
        rw [len_ownA]
        rcases room with u | u
        · rw [if_neg u]; exact bl
        · split <;> omega
      have Rb' := OwR_put Rb hw (r := 0) (by omega)
      have Ro' := OwR_del Ro hw
      obtain ⟨wl', hW'⟩ := wl_new ok Ro' Rb'
      have K0 : BoC (zu (zI H) B 10 (I (cN []))) B (madeOf rs sl []) lo lb li := cc.2.1.fr (fun a h1 h2 => zu_ne (by omega) _ _)
      obtain ⟨f', p1, p2, p3⟩ := cbar C ok K0 hw hroom
      have fr : ∀ b', (B < b' ∧ b' < B + 9) ∨ B + 24 ≤ b' ∨ b' < B → fgt f' B b' = zI H b' := fun b' hb => (fgt_ne (by omega)).trans ((p3 b' (by omega)).trans (zu_ne (by omega) _ _))
      have K' : BoC (fgt f' B) B (madeOf rs sl []) (bdel lo (cN dw)) (bput lb (cN dw) (2 ^ 0)) li := p2.fr (fun a h1 h2 => fgt_ne (by omega))
      have c' : CC (fgt f' B) B [] sl rs al (delO os dw) (ownA bs dw 0) ig tl sy t (bdel lo (cN dw)) (bput lb (cN dw) (2 ^ 0)) li wl' :=
        cc.bk (by rw [fgt_j (by decide) (by decide), p3 B (by omega), zu_same]) fgt_11 fgt_12 (fun b' h1 h2 h3 => fr b' (by omega)) K' ⟨Ro', Rb', Ri⟩ hW'
      have lenE : (bput lb (cN dw) (2 ^ 0)).length = (ownA bs dw 0).length := Rb'.2.2.2.2
      have dis' : ∀ v, fnx v (delO os dw) 0 ≠ none → fnx v (ownA bs dw 0) 0 = none := fun v hv => Classical.byContradiction (fun q => hv (dis_own (os := bs) (bs := os) (fun w hw' => Classical.byContradiction (fun z => hw' (hd w z))) Ro.1 Rb.1 dw 0 v q))
      have ok' : AbOk [] sl rs (delO os dw) (ownA bs dw 0) ig sy dr t (nc + 1) := by
        have u := ok.up hnc
        refine ⟨⟨isW_nil, Nat.zero_le _⟩, u.2.1, u.2.2.1, ⟨?_, hroom, dis', fun p hp => ?_⟩, u.2.2.2.2⟩
        · rw [len_delO]; split <;> omega
        · rcases (mem_ownA Rb.1).mp hp with rfl | ⟨h, -⟩
          · rfl
          · exact b0 p h
      refine call_ok (H1 := hI H (fgt f' B)) (v := I (ownA bs dw 0).length) rfl hnc C M hT hN ?_ (KC.ints (fun b' h1 h2 => fr b' (by omega))) (C.ints c' (fun b' hb => by
          by_cases u : B ≤ b' ∧ b' < B + 24
          · by_cases v : b' = B + 2 ∨ b' = B + 3
            · exact fr b' (by omega)
            · exact absurd (AA_mem.mpr (by omega)) hb
          · exact fr b' (by omega))) ok' (fun Hm Mm => ?_)
      · have td : p_X11_takeDraft (some B) (hI H (zI H)) = some (I (cN dw), hI H (zu (zI H) B 10 (I (cN [])))) := by
          have e : (1 : Int32) = I (cN []) := rfl
          simp only [p_X11_takeDraft, z_b, z_rt, x_gI C.1, x_pI C.1, cc.1, e]
        have p1' : p_X2_addBarred (some (B + cRf 0)) (I (cN dw)) (hI H (zu (zI H) B 10 (I (cN [])))) = some ((), hI H f') := p1
        have oc : p_X2_barredCount (some (B + cRf 0)) (hI H (fgt f' B)) = some (I (ownA bs dw 0).length, hI H (fgt f' B)) := (barCount_eq C.1 K').trans (by rw [lenE])
        show p_X11_bar (some B) (hI H (zI H)) = some (Sum.inl _, _)
        simp only [p_X11_bar, z_b, ite_ap, x_gI C.1, cc.1, dn1, dn, if_false, x_gR C.1 0 (by decide), lx0, rmc']
        rw [if_pos room, if_pos n1]
        simp only [x_vr C.1, td, p1', forget_eq C.1, x_gR C.1 0 (by decide), lx0, oc, z_xrt]
      · have m := Mm.1.1
        have M0 : MS (hM Hm (zu (zI Hm) (B + 95) 58 0) (zL Hm)) B dw sl rs al os bs ig tl sy dr t := Mm.pI (Or.inl rfl)
        have O0 : OwM (zu (zI Hm) (B + 95) 58 0) (zL Hm) (arM B) (B + 95) os := M0.2.2.2.2.2.1
        have B0 : BaM (zu (zI Hm) (B + 95) 58 0) (zL Hm) (arM B) (B + 95) bs := M0.2.2.2.2.2.2.1
        have n21 := (m.2.1 21 (by decide)).2.2
        have n18 := (m.2.1 18 (by decide)).2.2
        have n19 := (m.2.1 19 (by decide)).2.2
        have g00 : (0 : Int32) ≤ 0 := by decide
        have g0 : zL Hm (B + 95) 0 = J (mN dw) := Mm.2.1
        have bo := barOf_eq (h := Hm) (f := zu (zI Hm) (B + 95) 58 0) (g := zL Hm) m (fun p hp => (Rb.2.1 p hp).1) B0 hw
        -- the word is barred
        have stepA : ∃ f1 g1, MFr (zu (zI Hm) (B + 95) 58 0) f1 (zL Hm) g1 (arM B) (B + 95) [20] [21] ∧ BaM f1 g1 (arM B) (B + 95) (ownA bs dw 0) ∧ p_X12_bar_b36 (some (B + 95)) (some (B + 95)) 0 Hm = p_X12_bar_b83 (some (B + 95)) (hM Hm f1 g1) := by
          cases qb : fnx dw bs 0 with
          | none =>
            rw [qb] at bo
            have bl9 : bs.length < 10 := room.resolve_left (fun u => u qb)
            have e0 : I (oz none) = -1 := rfl
            have e1 : I (bs.length : Int) + 1 = I ((bs.length + 1 : Nat) : Int) := I_add _ 1
            have la : (ownA bs dw 0).length = bs.length + 1 := by rw [len_ownA, if_pos qb]
            refine ⟨zu (zu (zI Hm) (B + 95) 58 0) (B + 95) 20 (I ((bs.length + 1 : Nat) : Int)), zu (zL Hm) (arM B 21) bs.length (J (mN dw)), ?_, ?_, ?_⟩
            · refine ⟨fun j hj => ⟨?_, ?_⟩, fun b' h1 h2 => ⟨zu_ne h1 _ _, zu_ne (fun q => h2 (by simp [q])) _ _⟩⟩
              · rw [zu_cell, if_neg (fun q => hj (by simp [q]))]
              · rw [zu_ne n21.symm]
            · exact B0.put 0 hroom (by rw [zu_same, la]) (fun i => by rw [zu_cell, qb]; rfl)
            · show p_X12_bar_b36 _ _ _ (hM Hm (zI Hm) (zL Hm)) = _
              simp only [p_X12_bar_b36, z_b, ite_ap, m_pI m, m_gI m, zu_same, g00, if_true, m_gL m, g0, m_vr m, bo, e0, not_true_eq_false, if_false, B0.1, m_gR m 21 (by decide), m_sL m 21 10 (by decide) bl9 (by decide), e1]
          | some k =>
            obtain ⟨hk, r0, h0⟩ := fnx_at qb
            rw [qb] at bo
            have e3 : I (oz (some k)) = I (k : Int) := rfl
            have nn : ¬ I (k : Int) = -1 := by rw [show (-1 : Int32) = I (-1) from rfl, I_inj (by omega) (by omega)]; omega
            have la : (ownA bs dw 0).length = bs.length := by rw [len_ownA, if_neg (by rw [qb]; simp)]
            refine ⟨_, _, MFr.refl _ _ _ _ _ _, B0.put 0 hroom (by rw [la]; exact B0.1) (fun i => ?_), ?_⟩
            · rw [qb]
              show _ = if i = k then _ else _
              by_cases u : i = k
              · rw [if_pos u, u]; exact B0.2.2 k _ h0
              · rw [if_neg u]
            · show p_X12_bar_b36 _ _ _ (hM Hm (zI Hm) (zL Hm)) = _
              simp only [p_X12_bar_b36, z_b, ite_ap, m_pI m, m_gI m, zu_same, g00, if_true, m_gL m, g0, m_vr m, bo, e3, nn, not_false_eq_true]
        obtain ⟨f1, g1, s3, s2, code1⟩ := stepA
        have O1 : OwM f1 g1 (arM B) (B + 95) os := O0.fr s3 m (by decide) (by decide) (by decide) (by decide)
        have oo := ownOf_eq (f := f1) (g := g1) m (fun p hp => (Ro.2.1 p hp).1) O1 hw
        have fin : ∀ f2 g2, MFr f1 f2 g1 g2 (arM B) (B + 95) [17] [18, 19] → OwM f2 g2 (arM B) (B + 95) (delO os dw) →
            p_X12_bar_b83 (some (B + 95)) (hM Hm f1 g1) = p_X12_bar_b137 (some (B + 95)) (hM Hm f2 g2) →
            ∃ H2, p_X12_bar_b36 (some (B + 95)) (some (B + 95)) 0 Hm = some (I (ownA bs dw 0).length, H2) ∧ KM Hm H2 B ∧ MS H2 B [] sl rs al (delO os dw) (ownA bs dw 0) ig tl sy dr t ∧ zI H2 (B + 95) 58 = 0 := fun f2 g2 F2 O2 code => by
          have F : MFr (zu (zI Hm) (B + 95) 58 0) f2 (zL Hm) g2 (arM B) (B + 95) [17, 20] [18, 19, 21] := (s3.mono (by simp) (by simp)).trans (F2.mono (by simp) (by simp))
          obtain ⟨k1, k2, k3, k4, k5, k6, k7, k8, k9, k10, k11, k12⟩ := MC.comps Mm.1 M0.2 F (by decide)
          have B2 : BaM f2 g2 (arM B) (B + 95) (ownA bs dw 0) := s2.fr F2 m (by decide) (by decide) (by decide)
          have mc : MC f2 g2 B dw sl rs al (delO os dw) (ownA bs dw 0) ig tl sy dr t := ⟨k1 (by decide), k2 (by decide) (by decide), k3 (by decide) (by decide), k4 (by decide), O2, B2, k7 (by decide) (by decide), k8 (by decide), k9 (by decide) (by decide), k10 (by decide), k11 (by decide) (by decide), k12 (by decide) (by decide) (by decide)⟩
          refine ⟨hM Hm f2 (zu g2 (B + 95) 0 (J (mN []))), ?_, ?_, ⟨Mm.1, MC.dft mc⟩, ?_⟩
          · rw [code1, code]
            have e : (0 : Int64) = J (mN []) := rfl
            simp only [p_X12_bar_b137, z_b, z_rt, m_pL m, m_gI m, B2.1, e]
          · refine (KM.pI 58 0).trans ((KM.mk_ (H := hM Hm (zu (zI Hm) (B + 95) 58 0) (zL Hm)) m F (by decide)).trans ⟨f2, _, rfl, fun b' hb => ⟨rfl, zu_ne (by omega) _ _⟩⟩)
          · show f2 (B + 95) 58 = 0
            rw [(F.1 58 (by decide)).1, zu_same]
        have start : p_X12_bar (some (B + 95)) Hm = p_X12_bar_b36 (some (B + 95)) (some (B + 95)) 0 Hm := by
          have g0 : z_gL 13 0 (some (B + 95)) Hm = some (J (mN dw), Hm) := (m_gL (f := zI Hm) (g := zL Hm) m 0).trans (by rw [Mm.2.1]; rfl)
          have g20 : z_gI 13 20 (some (B + 95)) Hm = some (I bs.length, Hm) := (m_gI (f := zI Hm) (g := zL Hm) m 20).trans (by rw [m20 Hm Mm]; rfl)
          have oo : p_X12_barOf (some (B + 95)) (J (mN dw)) Hm = some (I (oz (fnx dw bs 0)), Hm) := barOf_eq (h := Hm) (f := zI Hm) (g := zL Hm) m (fun p hp => (Rb.2.1 p hp).1) Mm.2.2.2.2.2.2.1 hw
          have vr : ∀ (α : Type) (k : ZM α), z_vr 13 (some (B + 95)) k Hm = k Hm := fun α k => if_pos Mm.1.1.1
          have e10 : (I (bs.length : Int) = 10) ↔ bs.length = 10 := I_eqN (k := 10) (by omega) (by decide)
          have om := oz_m1 (fnx_bd (w := dw) bl)
          simp only [p_X12_bar, p_X12_bar_b35, z_b, ite_ap, g0, dn2, dn, if_false, g20, e10, vr, oo, om]
          by_cases u : bs.length = 10
          · rw [if_neg (fun y => y u), if_pos (room.resolve_right (by omega))]
          · rw [if_pos u]
        rw [start]
        have g0' : g1 (B + 95) 0 = J (mN dw) := by rw [(s3.1 0 (by decide)).2]; exact g0
        cases qo : fnx dw os 0 with
        | none =>
          have ed : delO os dw = os := by unfold delO; rw [qo]
          refine fin f1 g1 (MFr.refl _ _ _ _ _ _) (by rw [ed]; exact O1) ?_
          rw [qo] at oo
          have e0 : I (oz none) = -1 := rfl
          simp only [p_X12_bar_b83, z_b, ite_ap, m_gL m, g0', m_vr m, oo, e0, if_true]
        | some k =>
          obtain ⟨hk, r0, h0⟩ := fnx_at qo
          have e1 : I (os.length : Int) - 1 = I ((os.length - 1 : Nat) : Int) := by rw [show (1 : Int32) = I ((1 : Nat) : Int) from rfl, I_sn _ _ (by omega)]
          have e3 : I (oz (some k)) = I (k : Int) := rfl
          have nn : ¬ I (k : Int) = -1 := by rw [show (-1 : Int32) = I (-1) from rfl, I_inj (by omega) (by omega)]; omega
          rw [qo] at oo
          have v19 : zu f1 (B + 95) 17 (I ((os.length - 1 : Nat) : Int)) (arM B 19) = f1 (arM B 19) := zu_ne n19 _ _
          refine fin (zu (zu f1 (B + 95) 17 (I ((os.length - 1 : Nat) : Int))) (arM B 19) k (f1 (arM B 19) (os.length - 1))) (zu g1 (arM B 18) k (g1 (arM B 18) (os.length - 1))) ?_ ?_ ?_
          · refine ⟨fun j hj => ⟨?_, ?_⟩, fun b' h1 h2 => ⟨?_, zu_ne (fun q => h2 (by simp [q])) _ _⟩⟩
            · rw [zu_ne n19.symm, zu_cell, if_neg (fun q => hj (by simp [q]))]
            · rw [zu_ne n18.symm]
            · rw [zu_ne (fun q => h2 (by simp [q])), zu_ne h1]
          · exact O1.del qo (by rw [zu_ne n19.symm, zu_same]) (fun i => by rw [zu_cell]) (fun i => by rw [zu_cell, v19])
          · simp only [p_X12_bar_b83, z_b, ite_ap, m_gL m, g0', m_vr m, oo, e3, nn, if_false, m_gI m, O1.1, e1, m_pI m, zu_same, m_gR m 18 (by decide), m_gR m 19 (by decide), m_aL m 18 10 (by decide) (show os.length - 1 < 10 by omega) (by decide), m_sL m 18 10 (by decide) (show k < 10 by omega) (by decide), m_aI m 19 10 (by decide) (show os.length - 1 < 10 by omega) (by decide), m_sI m 19 10 (by decide) (show k < 10 by omega) (by decide), v19]
    · refine call_th (kk := 1) hnc C M ok hT hN (n := 1) ?_ rfl (by decide) (fun Hm Mm => ?_)
      · show p_X11_bar (some B) (hI H (zI H)) = _
        simp only [p_X11_bar, p_X11_bar_b22, z_b, ite_ap, x_gI C.1, cc.1, dn1, dn, if_false, x_gR C.1 0 (by decide), lx0, rmc']
        rw [if_neg room, if_neg (fun y => y rfl)]
        rfl
      · obtain ⟨H2, p1, p2, p3, p4⟩ := refM Hm Mm
        refine ⟨H2, 0, ?_, p2, p3, p4⟩
        have m := Mm.1.1
        have g0 : z_gL 13 0 (some (B + 95)) Hm = some (J (mN dw), Hm) := (m_gL (f := zI Hm) (g := zL Hm) m 0).trans (by rw [Mm.2.1]; rfl)
        have g20 : z_gI 13 20 (some (B + 95)) Hm = some (I bs.length, Hm) := (m_gI (f := zI Hm) (g := zL Hm) m 20).trans (by rw [m20 Hm Mm]; rfl)
        have oo : p_X12_barOf (some (B + 95)) (J (mN dw)) Hm = some (I (oz (fnx dw bs 0)), Hm) := barOf_eq (h := Hm) (f := zI Hm) (g := zL Hm) m (fun p hp => (Rb.2.1 p hp).1) Mm.2.2.2.2.2.2.1 hw
        have vr : ∀ (α : Type) (k : ZM α), z_vr 13 (some (B + 95)) k Hm = k Hm := fun α k => if_pos Mm.1.1.1
        have e10 : (I (bs.length : Int) = 10) ↔ bs.length = 10 := I_eqN (k := 10) (by omega) (by decide)
        have om := oz_m1 (fnx_bd (w := dw) bl)
        have h10 : bs.length = 10 := Classical.byContradiction (fun u => room (Or.inr (by omega)))
        have hno : fnx dw bs 0 = none := Classical.byContradiction (fun u => room (Or.inl u))
        simp only [p_X12_bar, p_X12_bar_b31, z_b, ite_ap, g0, dn2, dn, if_false, g20, e10, vr, oo, om]
        rw [if_neg (fun y => y h10), if_neg (fun y => y hno)]
        exact p1
end
