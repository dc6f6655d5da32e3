section
variable {H H' H1 : ZH} {B nc : Nat} {f f' : FI} {g g' : FL} {dw dw' : Wd} {sl sl' : List St} {rs rs' : List Ru} {al al' : Nat → Nat → Bool} {os bs ig os' bs' ig' : List Ow} {tl tl' : Nat → Nat} {sy sy' : List Sty} {dr dr' : List It} {t t' : List Nat} {lo lb li lo' lb' li' : Bk} {wl wl' : List Wd}
theorem room_iff (R : OwR lo os) {w : Wd} (hw : WdOk w) : (bget lo (cN w) ≠ 0 ∨ lo.length < 10) ↔ (fnx w os 0 ≠ none ∨ os.length < 10) := by
  have e : bget lo (cN w) ≠ 0 ↔ fnx w os 0 ≠ none := by
    rw [ow_get R hw]
    cases q : fnx w os 0 with
    | none => exact ⟨fun z => absurd rfl z, fun z => absurd rfl z⟩
    | some k =>
      refine ⟨fun _ => by simp, fun _ z => ?_⟩
      have : 0 < 2 ^ (os.getD k ([], 0)).2 := Nat.pow_pos (by decide)
      have z' : 2 ^ (os.getD k ([], 0)).2 = 0 := z
      omega
  rw [e, R.2.2.2.2]
theorem wl_new (ok : AbOk dw sl rs os bs ig sy dr t nc) (Ro : OwR lo' os') (Rb : OwR lb' bs') : ∃ wl', BkW (sugO lo' (sugM lb' (madeOf rs sl []) [])) wl' := by
  obtain ⟨m1, m2⟩ := made_words (rs := rs) ok.2.2.1.2 sl [] ok.2.1.2 ⟨List.Pairwise.nil, fun c ⟨e, he, _⟩ => absurd he (List.not_mem_nil)⟩
  obtain ⟨wl', b1, b2, b3⟩ := sug_words m1 m2 Ro Rb
  exact ⟨wl', b1⟩
theorem ownCount_eq (C : CSh H B) {lm : Bk} (K : BoC f B lm lo lb li) : p_X2_ownCount (some (B + 1)) (hI H f) = some (I lo.length, hI H f) := by
  have lx := C.2.1
  have bk := C.2.2.1.2.1
  have bc := bk_count bk K.2.1
  simp only [p_X2_ownCount, ite_ap, z_b, z_n, z_rt, z_vr, z_gI, z_gR, z_pI, z_pR, hI_K, hI_R, hI_I, hI_hI, hI_T, hI_N, hI_L, hI_D, sI_hI, wI_hI, if_true, lx.1, lx.2.2.2.2.1, bk.1, bc]
theorem barCount_eq (C : CSh H B) {lm : Bk} (K : BoC f B lm lo lb li) : p_X2_barredCount (some (B + 1)) (hI H f) = some (I lb.length, hI H f) := by
  have lx := C.2.1
  have bk := C.2.2.1.2.2.1
  have bc := bk_count bk K.2.2.1
  simp only [p_X2_barredCount, ite_ap, z_b, z_n, z_rt, z_vr, z_gI, z_gR, z_pI, z_pR, hI_K, hI_R, hI_I, hI_hI, hI_T, hI_N, hI_L, hI_D, sI_hI, wI_hI, if_true, lx.1, lx.2.2.2.2.2.1, bk.1, bc]
theorem dis_own (hd : ∀ w, fnx w os 0 ≠ none → fnx w bs 0 = none) (nb : (bs.map Prod.fst).Nodup) (no : (os.map Prod.fst).Nodup) (w : Wd) (r : Nat) : ∀ v, fnx v (ownA os w r) 0 ≠ none → fnx v (delO bs w) 0 = none := fun v hv => by
  by_cases e : v = w
  · subst e; exact fnx_delO nb v
  · refine fnx_ne (os := bs) (fun p hp => ((mem_delO nb).mp hp).1) (hd v (fun z => hv (fnx_none.mpr (fun p hp hpv => ?_))))
    rcases (mem_ownA no).mp hp with rfl | ⟨h, -⟩
    · exact e hpv.symm
    · exact fnx_none.mp z p h hpv
theorem call_own (S : ST H B nc (dw, sl, rs, al, os, bs, ig, tl, sy, dr, t)) (hnc : nc < 512) (x x2 : Int32) : Call H B nc (p_L_own (some B) x x2 (some (B + 141))) (p_X12_own (some (B + 95)) x x2) := by
  obtain ⟨⟨lo, lb, li, wl, C⟩, M, ok, hT, hN⟩ := S
  obtain ⟨z, rfl, hz⟩ := int_of x
  obtain ⟨y, rfl, hy⟩ := int_of x2
  have cc := C.2.2.2.1
  obtain ⟨Ro, Rb, Ri⟩ := cc.2.2.1
  have n1 : ¬ ((1 : Int32) = 0) := by decide
  obtain ⟨dn1, dn2⟩ := dft_nil ok
  have ol := ok.2.2.2.1.1
  have bl := ok.2.2.2.1.2.1
  have r3 : ((0 : Int32) ≤ I z ∧ I z ≤ 3) ↔ (0 ≤ z ∧ z < 4) := by rw [lit, lit, I_le (by decide) hz, I_le hz (by decide)]; omega
  have r1 : ((0 : Int32) ≤ I y ∧ I y ≤ 1) ↔ (0 ≤ y ∧ y < 2) := by rw [lit, lit, I_le (by decide) hy, I_le hy (by decide)]; omega
  have cr : ∀ h, p_X11_isReading (I z) (I y) h = some (if (0 ≤ z ∧ z < 4) ∧ 0 ≤ y ∧ y < 2 then 1 else 0, h) := fun h => by
    simp only [p_X11_isReading, z_b, z_rz, ite_ap, isIn_eq, r3, r1, true_or, or_true, if_true]
    by_cases u1 : 0 ≤ z ∧ z < 4
    · rw [if_pos u1, if_neg n1]
      by_cases u2 : 0 ≤ y ∧ y < 2
      · rw [if_pos u2, if_neg n1, if_pos ⟨u1, u2⟩]
      · rw [if_neg u2, if_pos rfl, if_neg (fun q => u2 q.2)]
    · rw [if_neg u1, if_pos rfl, if_neg (fun q => u1 q.1)]
  have d1 : ∀ h, p_X12_in (I z) 0 3 h = some (if 0 ≤ z ∧ z < 4 then 1 else 0, h) := fun h => by rw [min_eq]; simp only [r3]
  have d2 : ∀ h, p_X12_in (I y) 0 1 h = some (if 0 ≤ y ∧ y < 2 then 1 else 0, h) := fun h => by rw [min_eq]; simp only [r1]
  have refM : ∀ (k : Int32), k = 1 ∨ k = 2 → ∀ Hm, MS Hm B dw sl rs al os bs ig tl sy dr t → ∃ H2, p_X12_own_b58 (some (B + 95)) (I z) (I y) (some (B + 95)) k Hm = some (0, H2) ∧ KM Hm H2 B ∧ MS H2 B dw sl rs al os bs ig tl sy dr t ∧ zI H2 (B + 95) 58 = k := fun k hk Hm Mm => by
    have m := Mm.1.1
    refine ⟨hM Hm (zu (zI Hm) (B + 95) 58 k) (zL Hm), ?_, KM.pI _ _, Mm.pI (Or.inl rfl), zu_same _ _ _ _⟩
    have g1 : ¬ k ≤ 0 := by rcases hk with rfl | rfl <;> decide
    show p_X12_own_b58 _ _ _ _ _ (hM Hm (zI Hm) (zL Hm)) = _
    simp only [p_X12_own_b58, z_b, z_rt, ite_ap, m_pI m, m_gI m, zu_same, g1, if_false]
  by_cases q : (0 ≤ z ∧ z < 4) ∧ 0 ≤ y ∧ y < 2
  · obtain ⟨q1, q2⟩ := q
    obtain ⟨a, rfl⟩ : ∃ i : Nat, z = i := ⟨z.toNat, by omega⟩
    obtain ⟨b, rfl⟩ : ∃ i : Nat, y = i := ⟨y.toNat, by omega⟩
    have pc : (0 ≤ (a : Int) ∧ (a : Int) < 4) ∧ 0 ≤ (b : Int) ∧ (b : Int) < 2 := ⟨q1, q2⟩
    have er : 2 * I (a : Int) + I (b : Int) = I ((2 * a + b : Nat) : Int) := by rw [show (2 : Int32) = I ((2 : Nat) : Int) from rfl, I_mn, I_an]
    have m17 : ∀ Hm, MS Hm B dw sl rs al os bs ig tl sy dr t → zI Hm (B + 95) 17 = I os.length := fun Hm Mm => Mm.2.2.2.2.2.1.1
    by_cases dn : dw = []
    · refine call_th (kk := 2) hnc C M ok hT hN (n := 1) ?_ rfl (by decide) (fun Hm Mm => ?_)
      · show p_X11_own (some B) (I (a : Int)) (I (b : Int)) (hI H (zI H)) = _
        simp only [p_X11_own, p_X11_own_b40, z_b, ite_ap, cr]
        rw [if_pos pc, if_pos n1]
        simp only [x_gI C.1, cc.1, dn1, dn, if_true, z_th]
        rfl
      · obtain ⟨H2, p1, p2, p3, p4⟩ := refM 2 (Or.inr rfl) Hm Mm
        refine ⟨H2, 0, ?_, p2, p3, p4⟩
        have g0 : z_gL 13 0 (some (B + 95)) Hm = some (J (mN dw), Hm) := (m_gL (f := zI Hm) (g := zL Hm) Mm.1.1 0).trans (by rw [Mm.2.1]; rfl)
        simp only [p_X12_own, p_X12_own_b53, z_b, ite_ap, d1, d2]
        rw [if_pos q1, if_neg n1, if_pos q2, if_pos n1]
        simp only [g0, dn2]
        rw [if_pos dn]
        exact p1
    · have hw : WdOk dw := ⟨ok.1.1, dn, ok.1.2⟩
      have rmi := room_iff Ro hw
      have rmc := roomOwn_eq (g := zI H) C.1.2.1 C.1.2.2.1.2.1 cc.2.1.2.1 (w := cN dw) (by have := cN_range ok.1.1 ok.1.2; omega)
      have lx0 : ∀ (α : Type) (k : ZM α) (f : FI), z_vr 3 (some (B + cRf 0)) k (hI H f) = k (hI H f) := fun α k f => lx_vr C.1 k
      have rmc' : p_X2_hasRoomForOwn (some (B + cRf 0)) (I (cN dw)) (hI H (zI H)) = some (if fnx dw os 0 ≠ none ∨ os.length < 10 then 1 else 0, hI H (zI H)) := rmc.trans (by simp only [rmi])
      by_cases room : fnx dw os 0 ≠ none ∨ os.length < 10
      · have hroom : (ownA os dw (2 * a + b)).length ≤ 10 := by
          rw [len_ownA]
          rcases room with u | u
          · rw [if_neg u]; exact ol
          · split <;> omega
        have Ro' := OwR_put Ro hw (r := 2 * a + b) (by omega)
        have Rb' := OwR_del Rb hw
        obtain ⟨wl', hW'⟩ := wl_new ok Ro' Rb'
        have K0 : BoC (zu (zI H) B 10 (I (cN []))) B (madeOf rs sl []) lo lb li := cc.2.1.fr (fun a h1 h2 => zu_ne (by omega) _ _)
        obtain ⟨f', p1, p2, p3⟩ := cown C ok K0 hw (r := 2 * a + b) (by omega) hroom
        have fr : ∀ b', (B < b' ∧ b' < B + 9) ∨ B + 24 ≤ b' ∨ b' < B → fgt f' B b' = zI H b' := fun b' hb => (fgt_ne (by omega)).trans ((p3 b' (by omega)).trans (zu_ne (by omega) _ _))
        have K' : BoC (fgt f' B) B (madeOf rs sl []) (bput lo (cN dw) (2 ^ (2 * a + b))) (bdel lb (cN dw)) li := p2.fr (fun a h1 h2 => fgt_ne (by omega))
        have c' : CC (fgt f' B) B [] sl rs al (ownA os dw (2 * a + b)) (delO bs dw) ig tl sy t (bput lo (cN dw) (2 ^ (2 * a + b))) (bdel lb (cN dw)) li wl' :=
          cc.bk (by rw [fgt_j (by decide) (by decide), p3 B (by omega), zu_same]) fgt_11 fgt_12 (fun b' h1 h2 h3 => fr b' (by omega)) K' ⟨Ro', Rb', Ri⟩ hW'
        have lenE : (bput lo (cN dw) (2 ^ (2 * a + b))).length = (ownA os dw (2 * a + b)).length := Ro'.2.2.2.2
        have ok' : AbOk [] sl rs (ownA os dw (2 * a + b)) (delO bs dw) ig sy dr t (nc + 1) := by
          have u := ok.up hnc
          refine ⟨⟨isW_nil, Nat.zero_le _⟩, u.2.1, u.2.2.1, ⟨hroom, ?_, dis_own ok.2.2.2.1.2.2.1 Rb.1 Ro.1 dw _, fun p hp => ok.2.2.2.1.2.2.2 p ((mem_delO Rb.1).mp hp).1⟩, u.2.2.2.2⟩
          rw [len_delO]; split <;> omega
        refine call_ok (H1 := hI H (fgt f' B)) (v := I (ownA os dw (2 * a + b)).length) rfl hnc C M hT hN ?_ (KC.ints (fun b' h1 h2 => fr b' (by omega))) (C.ints c' (fun b' hb => by
            by_cases u : B ≤ b' ∧ b' < B + 24
            · by_cases v : b' = B + 2 ∨ b' = B + 3
              · exact fr b' (by omega)
              · exact absurd (AA_mem.mpr (by omega)) hb
            · exact fr b' (by omega))) ok' (fun Hm Mm => ?_)
        · have td : p_X11_takeDraft (some B) (hI H (zI H)) = some (I (cN dw), hI H (zu (zI H) B 10 (I (cN [])))) := by
            have e : (1 : Int32) = I (cN []) := rfl
            simp only [p_X11_takeDraft, z_b, z_rt, x_gI C.1, x_pI C.1, cc.1, e]
          have ro : ∀ h, p_X11_readingOf (I (a : Int)) (I (b : Int)) h = some (I ((2 * a + b : Nat) : Int), h) := fun h => by simp only [p_X11_readingOf, z_rt, er]
          have p1' : p_X2_addOwn (some (B + cRf 0)) (I (cN dw)) (I ((2 * a + b : Nat) : Int)) (hI H (zu (zI H) B 10 (I (cN [])))) = some ((), hI H f') := p1
          have oc : p_X2_ownCount (some (B + cRf 0)) (hI H (fgt f' B)) = some (I (ownA os dw (2 * a + b)).length, hI H (fgt f' B)) := (ownCount_eq C.1 K').trans (by rw [lenE])
          show p_X11_own (some B) (I (a : Int)) (I (b : Int)) (hI H (zI H)) = some (Sum.inl _, _)
          simp only [p_X11_own, z_b, ite_ap, cr]
          rw [if_pos pc, if_pos n1]
          simp only [x_gI C.1, cc.1, dn1, dn, if_false, x_gR C.1 0 (by decide), lx0, rmc']
          rw [if_pos room, if_pos n1]
          simp only [x_vr C.1, td, ro, p1', forget_eq C.1, x_gR C.1 0 (by decide), lx0, oc, z_xrt]
        · have m := Mm.1.1
          have M0 : MS (hM Hm (zu (zI Hm) (B + 95) 58 0) (zL Hm)) B dw sl rs al os bs ig tl sy dr t := Mm.pI (Or.inl rfl)
          have O0 : OwM (zu (zI Hm) (B + 95) 58 0) (zL Hm) (arM B) (B + 95) os := M0.2.2.2.2.2.1
          have B0 : BaM (zu (zI Hm) (B + 95) 58 0) (zL Hm) (arM B) (B + 95) bs := M0.2.2.2.2.2.2.1
          obtain ⟨f1, g1, s1, s2, s3⟩ := owns_eq (h := Hm) m (fun p hp => (Ro.2.1 p hp).1) O0 hw (2 * a + b) hroom
          have B1 : BaM f1 g1 (arM B) (B + 95) bs := B0.fr s3 m (by decide) (by decide) (by decide)
          have bo := barOf_eq (f := f1) (g := g1) m (fun p hp => (Rb.2.1 p hp).1) B1 hw
          have n21 := (m.2.1 21 (by decide)).2.2
          have n18 := (m.2.1 18 (by decide)).2.2
          have n19 := (m.2.1 19 (by decide)).2.2
          have j21 : arM B 21 ≠ arM B 18 ∧ arM B 21 ≠ arM B 19 := ⟨fun e => absurd (m.2.2 21 18 (by decide) (by decide) e) (by decide), fun e => absurd (m.2.2 21 19 (by decide) (by decide) e) (by decide)⟩
          have fin : ∀ f2 g2, MFr f1 f2 g1 g2 (arM B) (B + 95) [20] [21] → BaM f2 g2 (arM B) (B + 95) (delO bs dw) →
              p_X12_own_b58 (some (B + 95)) (I (a : Int)) (I (b : Int)) (some (B + 95)) 0 Hm = p_X12_own_b122 (some (B + 95)) (hM Hm f2 g2) →
              ∃ H2, p_X12_own_b58 (some (B + 95)) (I (a : Int)) (I (b : Int)) (some (B + 95)) 0 Hm = some (I (ownA os dw (2 * a + b)).length, H2) ∧ KM Hm H2 B ∧ MS H2 B [] sl rs al (ownA os dw (2 * a + b)) (delO bs dw) ig tl sy dr t ∧ zI H2 (B + 95) 58 = 0 := fun f2 g2 F2 B2 code => by
            have F : MFr (zu (zI Hm) (B + 95) 58 0) f2 (zL Hm) g2 (arM B) (B + 95) [17, 20] [18, 19, 21] := (s3.mono (by simp) (by simp)).trans (F2.mono (by simp) (by simp))
            obtain ⟨k1, k2, k3, k4, k5, k6, k7, k8, k9, k10, k11, k12⟩ := MC.comps Mm.1 M0.2 F (by decide)
            have O2 : OwM f2 g2 (arM B) (B + 95) (ownA os dw (2 * a + b)) := s2.fr F2 m (by decide) (by decide) (by decide) (by decide)
            have mc : MC f2 g2 B dw sl rs al (ownA os dw (2 * a + b)) (delO bs dw) ig tl sy dr t := ⟨k1 (by decide), k2 (by decide) (by decide), k3 (by decide) (by decide), k4 (by decide), O2, B2, k7 (by decide) (by decide), k8 (by decide), k9 (by decide) (by decide), k10 (by decide), k11 (by decide) (by decide), k12 (by decide) (by decide) (by decide)⟩
            refine ⟨hM Hm f2 (zu g2 (B + 95) 0 (J (mN []))), ?_, ?_, ⟨Mm.1, MC.dft mc⟩, ?_⟩
            · rw [code]
              have e : (0 : Int64) = J (mN []) := rfl
              simp only [p_X12_own_b122, z_b, z_rt, m_pL m, m_gI m, O2.1, e]
            · refine (KM.pI 58 0).trans ((KM.mk_ (H := hM Hm (zu (zI Hm) (B + 95) 58 0) (zL Hm)) m F (by decide)).trans ⟨f2, _, rfl, fun b' hb => ⟨rfl, zu_ne (by omega) _ _⟩⟩)
            · show f2 (B + 95) 58 = 0
              rw [(F.1 58 (by decide)).1, zu_same]
          have start : p_X12_own (some (B + 95)) (I (a : Int)) (I (b : Int)) Hm = p_X12_own_b58 (some (B + 95)) (I (a : Int)) (I (b : Int)) (some (B + 95)) 0 Hm := by
            have g0 : z_gL 13 0 (some (B + 95)) Hm = some (J (mN dw), Hm) := (m_gL (f := zI Hm) (g := zL Hm) m 0).trans (by rw [Mm.2.1]; rfl)
            have g17 : z_gI 13 17 (some (B + 95)) Hm = some (I os.length, Hm) := (m_gI (f := zI Hm) (g := zL Hm) m 17).trans (by rw [m17 Hm Mm]; rfl)
            have oo : p_X12_ownOf (some (B + 95)) (J (mN dw)) Hm = some (I (oz (fnx dw os 0)), Hm) := ownOf_eq (h := Hm) (f := zI Hm) (g := zL Hm) m (fun p hp => (Ro.2.1 p hp).1) Mm.2.2.2.2.2.1 hw
            have vr : ∀ (α : Type) (k : ZM α), z_vr 13 (some (B + 95)) k Hm = k Hm := fun α k => if_pos Mm.1.1.1
            have e10 : (I (os.length : Int) = 10) ↔ os.length = 10 := I_eqN (k := 10) (by omega) (by decide)
            have om := oz_m1 (fnx_bd (w := dw) ol)
            simp only [p_X12_own, p_X12_own_b57, z_b, ite_ap, d1, d2]
            rw [if_pos q1, if_neg n1, if_pos q2, if_pos n1]
            simp only [g0, dn2, dn, if_false, g17, e10, vr, oo, om]
            by_cases u : os.length = 10
            · rw [if_neg (fun y => y u), if_pos (room.resolve_right (by omega))]
            · rw [if_pos u]
          rw [start]
          have g00 : (0 : Int32) ≤ 0 := by decide
          have g0 : zL Hm (B + 95) 0 = J (mN dw) := Mm.2.1
          have g0' : g1 (B + 95) 0 = J (mN dw) := by rw [(s3.1 0 (by decide)).2]; exact g0
          cases qb : fnx dw bs 0 with
          | none =>
            have ed : delO bs dw = bs := by unfold delO; rw [qb]
            refine fin f1 g1 (MFr.refl _ _ _ _ _ _) (by rw [ed]; exact B1) ?_
            rw [qb] at bo
            have e0 : I (oz none) = -1 := rfl
            show p_X12_own_b58 _ _ _ _ _ (hM Hm (zI Hm) (zL Hm)) = _
            simp only [p_X12_own_b58, z_b, ite_ap, m_pI m, m_gI m, zu_same, g00, if_true, m_gL m, g0, er, m_vr m, s1, g0', bo, e0]
          | some k =>
            obtain ⟨hk, r0, h0⟩ := fnx_at qb
            have e1 : I (bs.length : Int) - 1 = I ((bs.length - 1 : Nat) : Int) := by rw [show (1 : Int32) = I ((1 : Nat) : Int) from rfl, I_sn _ _ (by omega)]
            have e3 : I (oz (some k)) = I (k : Int) := rfl
            have nn : ¬ I (k : Int) = -1 := by rw [show (-1 : Int32) = I (-1) from rfl, I_inj (by omega) (by omega)]; omega
            rw [qb] at bo
            refine fin (zu f1 (B + 95) 20 (I ((bs.length - 1 : Nat) : Int))) (zu g1 (arM B 21) k (g1 (arM B 21) (bs.length - 1))) ?_ ?_ ?_
            · refine ⟨fun j hj => ⟨?_, ?_⟩, fun b' h1 h2 => ⟨zu_ne h1 _ _, zu_ne (fun q => h2 (by simp [q])) _ _⟩⟩
              · rw [zu_cell, if_neg (fun q => hj (by simp [q]))]
              · rw [zu_ne n21.symm]
            · exact B1.del qb (zu_same _ _ _ _) (fun i => by rw [zu_cell])
            · show p_X12_own_b58 _ _ _ _ _ (hM Hm (zI Hm) (zL Hm)) = _
              simp only [p_X12_own_b58, z_b, ite_ap, m_pI m, m_gI m, zu_same, g00, if_true, m_gL m, g0, er, m_vr m, s1, g0', bo, e3, nn, if_false, B1.1, e1, m_gR m 21 (by decide), m_aL m 21 10 (by decide) (show bs.length - 1 < 10 by omega) (by decide), m_sL m 21 10 (by decide) (show k < 10 by omega) (by decide)]
      · refine call_th (kk := 2) hnc C M ok hT hN (n := 1) ?_ rfl (by decide) (fun Hm Mm => ?_)
        · show p_X11_own (some B) (I (a : Int)) (I (b : Int)) (hI H (zI H)) = _
          simp only [p_X11_own, p_X11_own_b40, z_b, ite_ap, cr]
          rw [if_pos pc, if_pos n1]
          simp only [x_gI C.1, cc.1, dn1, dn, if_false, x_gR C.1 0 (by decide), lx0, rmc']
          rw [if_neg room, if_neg (fun y => y rfl)]
          rfl
        · obtain ⟨H2, p1, p2, p3, p4⟩ := refM 2 (Or.inr rfl) Hm Mm
          refine ⟨H2, 0, ?_, p2, p3, p4⟩
          have m := Mm.1.1
          have g0 : z_gL 13 0 (some (B + 95)) Hm = some (J (mN dw), Hm) := (m_gL (f := zI Hm) (g := zL Hm) m 0).trans (by rw [Mm.2.1]; rfl)
          have g17 : z_gI 13 17 (some (B + 95)) Hm = some (I os.length, Hm) := (m_gI (f := zI Hm) (g := zL Hm) m 17).trans (by rw [m17 Hm Mm]; rfl)
          have oo : p_X12_ownOf (some (B + 95)) (J (mN dw)) Hm = some (I (oz (fnx dw os 0)), Hm) := ownOf_eq (h := Hm) (f := zI Hm) (g := zL Hm) m (fun p hp => (Ro.2.1 p hp).1) Mm.2.2.2.2.2.1 hw
          have vr : ∀ (α : Type) (k : ZM α), z_vr 13 (some (B + 95)) k Hm = k Hm := fun α k => if_pos Mm.1.1.1
          have e10 : (I (os.length : Int) = 10) ↔ os.length = 10 := I_eqN (k := 10) (by omega) (by decide)
          have om := oz_m1 (fnx_bd (w := dw) ol)
          have h10 : os.length = 10 := Classical.byContradiction (fun u => room (Or.inr (by omega)))
          have hno : fnx dw os 0 = none := Classical.byContradiction (fun u => room (Or.inl u))
          simp only [p_X12_own, p_X12_own_b53, z_b, ite_ap, d1, d2]
          rw [if_pos q1, if_neg n1, if_pos q2, if_pos n1]
          simp only [g0, dn2, dn, if_false, g17, e10, vr, oo, om]
          rw [if_neg (fun y => y h10), if_neg (fun y => y hno)]
          exact p1
  · refine call_th (kk := 1) hnc C M ok hT hN (n := 0) ?_ rfl (by decide) (fun Hm Mm => ?_)
    · simp only [p_X11_own, z_b, ite_ap, cr]
      rw [if_neg q, if_neg (fun y => y rfl)]
      rfl
    · obtain ⟨H2, p1, p2, p3, p4⟩ := refM 1 (Or.inl rfl) Hm Mm
      refine ⟨H2, 0, ?_, p2, p3, p4⟩
      simp only [p_X12_own, p_X12_own_b19, z_b, ite_ap, d1, d2]
      by_cases u1 : 0 ≤ z ∧ z < 4
      · rw [if_pos u1, if_neg n1, if_neg (fun u2 => q ⟨u1, u2⟩), if_neg (fun y => y rfl)]
        exact p1
      · rw [if_neg u1, if_pos rfl]
        exact p1
end
