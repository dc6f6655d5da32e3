section
variable {H H' H1 : ZH} {B nc : Nat} {f f' : FI} {g g' : FL} {dw dw' : Wd} {sl sl' : List St} {rs rs' : List Ru} {al al' : Nat → Nat → Bool} {os bs ig os' bs' ig' : List Ow} {tl tl' : Nat → Nat} {sy sy' : List Sty} {dr dr' : List It} {t t' : List Nat} {lo lb li lo' lb' li' : Bk} {wl wl' : List Wd}
def Y1 (h : ZH) : ZH := znew h (14, 0) 4
def Y3 (h : ZH) : ZH := zsR (zsR (znew (znew (znew h (14, 0) 4) (11, 0) 1) (1, 3) 3) (zT h + 1) 0 (some (zT h + 2))) (zT h) 0 (some (zT h + 1))
def Y2 (h : ZH) (B : Nat) : ZH := hI (Y3 h) (zu (zI (Yh h B)) (zT h) 3 1)
theorem vr_hI {c a : Nat} (hk : zK H a = (c + 6, 0)) {α : Type} (k : ZM α) (f : FI) : z_vr c (some a) k (hI H f) = k (hI H f) := if_pos hk
theorem gI_hI {c a : Nat} (hk : zK H a = (c + 6, 0)) (j : Nat) (f : FI) : z_gI c j (some a) (hI H f) = some (f a j, hI H f) := if_pos hk
theorem pR_any {c a k : Nat} {v : Option Nat} (hk : zK H a = (c + 6, 0)) : z_pR c k (some a) v H = some ((), zsR H a k v) := if_pos hk
theorem pI_any {c a k : Nat} {v : Int32} (hk : zK H a = (c + 6, 0)) : z_pI c k (some a) v H = some ((), zsI H a k v) := if_pos hk
theorem nO_Y (h : ZH) : z_nO 8 4 h = some (some (zT h), Y1 h) := rfl
theorem zsR_hI (h : ZH) (f : FI) (a k : Nat) (v : Option Nat) : zsR (hI h f) a k v = hI (zsR h a k v) f := rfl
theorem Y3_R (h : ZH) (B : Nat) : zsR (Y3 h) B 9 (some (zT h)) = Yh h B := by unfold Y3 Yh; rfl
theorem Y3_K {h : ZH} {B : Nat} (hB : B < zT h) (hK : zK h B = (18, 0)) : zK (Y3 h) B = (12 + 6, 0) := by
  unfold Y3
  show zw (zw (zw (zK h) (zT h) _) (zT h + 1) _) (zT h + 1 + 1) _ B = _
  rw [zw_ne (by omega), zw_ne (by omega), zw_ne (by omega)]; exact hK
theorem pR_hI {c a k : Nat} {v : Option Nat} (hk : zK H a = (c + 6, 0)) (f : FI) : z_pR c k (some a) v (hI H f) = some ((), hI (zsR H a k v) f) := if_pos hk
theorem pB_Y {h : ZH} {B : Nat} (hB : B < zT h) (hK : zK h B = (18, 0)) : z_pR 12 9 (some B) (some (zT h)) (Y2 h B) = some ((), hI (Yh h B) (zu (zI (Yh h B)) (zT h) 3 1)) := by
  unfold Y2
  rw [pR_hI (Y3_K hB hK), Y3_R]
theorem zi_rt (a : Nat) (h : ZH) : z_ii (some a) (z_rt ()) h = some ((), h) := rfl
theorem zsI_hI (h : ZH) (a k : Nat) (v : Int32) : zsI h a k v = hI h (zu (zI h) a k v) := rfl
theorem nO_any (c n : Nat) (h : ZH) : z_nO c n h = some (some (zT h), znew h (c + 6, 0) n) := rfl
theorem new_K {h : ZH} {a : Nat} (kd : Nat × Nat) (n : Nat) (ha : a < zT h) : zK (znew h kd n) a = zK h a := zw_ne (by omega) _
theorem new_Ks (h : ZH) (kd : Nat × Nat) (n : Nat) : zK (znew h kd n) (zT h) = kd := zw_same _ _ _
theorem new_T (h : ZH) (kd : Nat × Nat) (n : Nat) : zT (znew h kd n) = zT h + 1 := rfl
theorem x4_gen {h : ZH} {a : Nat} (hk : zK h a = (11, 0)) (ha : a < zT h) : z_ii (some a) (p_X4_init (some a) 3) h = some ((), zsR (znew h (1, 3) 3) a 0 (some (zT h))) := by
  have e3 : ¬ (3 : Int32) ≤ 0 := by decide
  have nA : z_nA 1 3 h = some (some (zT h), znew h (1, 3) 3) := nA_eq h 1 3 (by decide)
  have pr := pR_any (H := znew h (1, 3) 3) (c := 5) (a := a) (k := 0) (v := some (zT h)) ((new_K _ _ ha).trans hk)
  show p_X4_init (some a) 3 h = _
  simp only [p_X4_init, p_X4_init_b14, zi_rt, z_b, z_rt, ite_ap, e3, if_false, nA, pr]
theorem x7_gen {h : ZH} {x : Nat} (hk : zK h x = (14, 0)) (hx : x < zT h) : z_ii (some x) (p_X7_init (some x)) h = some ((), zsI (zsR (zsR (znew (znew h (11, 0) 1) (1, 3) 3) (zT h) 0 (some (zT h + 1))) x 0 (some (zT h))) x 3 1) := by
  have nO : z_nO 5 1 h = some (some (zT h), znew h (11, 0) 1) := nO_any 5 1 h
  have x4 := x4_gen (h := znew h (11, 0) 1) (a := zT h) (new_Ks _ _ _) (by rw [new_T]; omega)
  rw [new_T] at x4
  have k1 : zK (zsR (znew (znew h (11, 0) 1) (1, 3) 3) (zT h) 0 (some (zT h + 1))) x = (8 + 6, 0) := by
    rw [K_sR, new_K _ _ (by rw [new_T]; omega), new_K _ _ hx]; exact hk
  have pr := pR_any (k := 0) (v := some (zT h)) (c := 8) k1
  have pi := pI_any (H := zsR (zsR (znew (znew h (11, 0) 1) (1, 3) 3) (zT h) 0 (some (zT h + 1))) x 0 (some (zT h))) (c := 8) (a := x) (k := 3) (v := 1) (by rw [K_sR]; exact k1)
  show p_X7_init (some x) h = _
  simp only [p_X7_init, z_b, z_rt, zi_rt, nO, x4, pr, pi]
theorem Y3_I (h : ZH) (B : Nat) : zI (Y3 h) = zI (Yh h B) := by
  unfold Y3 Yh
  rw [I_sR, I_sR, I_sR, I_sR, I_sR]
theorem x7_Y (h : ZH) (B : Nat) : z_ii (some (zT h)) (p_X7_init (some (zT h))) (Y1 h) = some ((), Y2 h B) := by
  unfold Y1 Y2
  rw [x7_gen (new_Ks _ _ _) (by rw [new_T]; omega), new_T, zsI_hI, ← Y3_I h B]
  have e : zT h + 1 + 1 = zT h + 2 := rfl
  rw [e]
  unfold Y3
  rfl
theorem CS_mk (C : CSh H B) (h1 : B + 142 ≤ zT H) (h2 : (zD H).1 < B) (c : CC f B dw sl rs al os bs ig tl sy t lo lb li wl) (d : CD H f B sl rs sy dr) : CS (hI H f) B dw sl rs al os bs ig tl sy dr t lo lb li wl := ⟨C, h1, h2, c, d⟩
theorem KC_mk (h1 : zD H' = zD H) (h2 : zT H ≤ zT H' ∧ zT H' ≤ zT H + 5) (h3 : zN H ≤ zN H' ∧ zN H' ≤ zN H + 64) (h4 : ∀ b, b < zT H → zK H' b = zK H b) (h5 : ∀ b, B + 95 ≤ b → b ≤ B + 141 → f b = zI H b ∧ zL H' b = zL H b ∧ zR H' b = zR H b) : KC H (hI H' f) B := ⟨h1, h2.1, h2.2, h3.1, h3.2, h4, h5⟩
theorem Yh_T (h : ZH) (B : Nat) : zT (Yh h B) = zT h + 3 := rfl
theorem Yh_N (h : ZH) (B : Nat) : zN (Yh h B) = zN h + 8 := rfl
theorem Yh_D (h : ZH) (B : Nat) : zD (Yh h B) = zD h := rfl
theorem call_style (S : ST H B nc (dw, sl, rs, al, os, bs, ig, tl, sy, dr, t)) (hnc : nc < 512) (x : Int32) : Call H B nc (p_L_style (some B) x (some (B + 141))) (p_X12_style (some (B + 95)) x) := by
  obtain ⟨⟨lo, lb, li, wl, C⟩, M, ok, hT, hN⟩ := S
  obtain ⟨z, rfl, hz⟩ := int_of x
  have cc := C.2.2.2.1
  have n1 : ¬ ((1 : Int32) = 0) := by decide
  obtain ⟨dn1, dn2⟩ := dft_nil ok
  have dl := ok.2.2.2.2.2.1.1
  have syl := ok.2.2.2.2.1.1
  have hB := C.2.1
  have ez : (I (dr.length : Int) = 0) ↔ dr = [] := by
    rw [← List.length_eq_zero_iff]
    exact I_eqN (k := 0) (by omega) (by decide)
  have e1 : I (dr.length : Int) - 1 = I ((dr.length : Int) - 1) := by rw [show (1 : Int32) = I 1 from rfl, I_sub]
  have e2 : ((0 : Int32) ≤ I z ∧ I z ≤ I ((dr.length : Int) - 1)) ↔ (0 ≤ z ∧ z < dr.length) := by
    rw [lit, I_le (by decide) (by omega), I_le (by omega) (by omega)]; omega
  have c8 : (I (sy.length : Int) < 8) ↔ sy.length < 8 := by rw [lit, I_lt (by omega) (by decide)]; omega
  have c8' : (I (sy.length : Int) = 8) ↔ sy.length = 8 := I_eqN (k := 8) (by omega) (by decide)
  have refM : ∀ (k : Int32), k = 1 ∨ k = 2 → ∀ Hm, MS Hm B dw sl rs al os bs ig tl sy dr t → ∃ H2, p_X12_style_b55 (some (B + 95)) (I z) (some (B + 95)) k Hm = some (0, H2) ∧ KM Hm H2 B ∧ MS H2 B dw sl rs al os bs ig tl sy dr t ∧ zI H2 (B + 95) 58 = k := fun k hk Hm Mm => by
    have m := Mm.1.1
    refine ⟨hM Hm (zu (zI Hm) (B + 95) 58 k) (zL Hm), ?_, KM.pI _ _, Mm.pI (Or.inl rfl), zu_same _ _ _ _⟩
    have g1 : ¬ k ≤ 0 := by rcases hk with rfl | rfl <;> decide
    show p_X12_style_b55 _ _ _ _ (hM Hm (zI Hm) (zL Hm)) = _
    simp only [p_X12_style_b55, z_b, z_rt, ite_ap, m_pI m, m_gI m, zu_same, g1, if_false]
  have g29 : ∀ Hm, MS Hm B dw sl rs al os bs ig tl sy dr t → z_gR 13 29 (some (B + 95)) Hm = some (some (arM B 29), Hm) ∧ z_aI (some (arM B 29)) 8 Hm = some (I dr.length, Hm) := fun Hm Mm => by
    have m := Mm.1.1
    exact ⟨m_gR (f := zI Hm) (g := zL Hm) m 29 (by decide), (m_aI (f := zI Hm) (g := zL Hm) m 29 9 (by decide) (i := 8) (by decide) (by decide)).trans (by rw [Mm.2.2.2.2.2.2.2.2.2.2.1.1.1]; rfl)⟩
  have mg0 : ∀ Hm, MS Hm B dw sl rs al os bs ig tl sy dr t → z_gL 13 0 (some (B + 95)) Hm = some (J (mN dw), Hm) := fun Hm Mm => (m_gL (f := zI Hm) (g := zL Hm) Mm.1.1 0).trans (by rw [Mm.2.1]; rfl)
  have m26 : ∀ Hm, MS Hm B dw sl rs al os bs ig tl sy dr t → z_gI 13 26 (some (B + 95)) Hm = some (I sy.length, Hm) := fun Hm Mm => (m_gI (f := zI Hm) (g := zL Hm) Mm.1.1 26).trans (by rw [Mm.2.2.2.2.2.2.2.2.2.1.1]; rfl)
  have cd0 : CD H (zu (zI H) B 10 (I (cN []))) B sl rs sy dr := C.2.2.2.2.fr (Fr.zu (AA_mem.mpr (by omega)))
  -- what there is before
  obtain ⟨dsx0, dsr0, da0, b1, b2, b3, b4, b5⟩ : ∃ dsx dsr da, zR H B 9 = some dsx ∧ Ob H 8 dsx (fun _ => dsr) (fun _ => da) sSz ∧ zI H dsx 1 = I dr.length ∧ p_Jx4a65c_size_8abf5 (some (B + 42)) (hI H (zI H)) = some (I sy.length, hI H (zI H)) ∧ zK H (B + 42) = (6, 0) := by
    obtain ⟨dsx, dsr, da, a1, n1, o1, a2, n2, o2, a3, n3, o3, ⟨x1, x2, x3, x4⟩, y, w, ⟨w1, w2, w3, w4⟩, v⟩ := C.2.2.2.2
    have sz := ls_size (f := zI H) w1 (by rw [w3]; exact w2)
    rw [w3] at sz
    exact ⟨dsx, dsr, da, x1, x2, x3, sz, w1.1⟩
  have gx : ∀ f : FI, z_gR 12 9 (some B) (hI H f) = some (some dsx0, hI H f) := fun f => by
    have e : zR (hI H f) B 9 = some dsx0 := b1
    exact (if_pos C.1.1.1).trans (by rw [e])
  have gs : z_gI 8 1 (some dsx0) (hI H (zI H)) = some (I dr.length, hI H (zI H)) := (o_gI b2 1).trans (by rw [b3])
  have vl : ∀ (α : Type) (k : ZM α) (f : FI), z_vr 0 (some (B + cRf 3)) k (hI H f) = k (hI H f) := fun α k f => if_pos b5
  have b4' : p_Jx4a65c_size_8abf5 (some (B + cRf 3)) (hI H (zI H)) = some (I sy.length, hI H (zI H)) := b4
  by_cases full : dr = [] ∨ dw = [] ∨ ¬ sy.length < 8
  · refine call_th (kk := 1) hnc C M ok hT hN (n := 1) ?_ rfl (by decide) (fun Hm Mm => ?_)
    · show p_X11_style (some B) (I z) (hI H (zI H)) = _
      simp only [p_X11_style, p_X11_style_b32, z_b, ite_ap, gx, gs, ez]
      by_cases u : dr = []
      · rw [if_pos u]; rfl
      · rw [if_neg u]
        simp only [x_gI C.1, cc.1, dn1]
        by_cases v : dw = []
        · rw [if_pos v]; rfl
        · rw [if_neg v]
          simp only [x_gR C.1 3 (by decide), vl, b4', c8]
          rw [if_neg ((full.resolve_left u).resolve_left v)]; rfl
    · obtain ⟨H2, p1, p2, p3, p4⟩ := refM 1 (Or.inl rfl) Hm Mm
      refine ⟨H2, 0, ?_, p2, p3, p4⟩
      simp only [p_X12_style, p_X12_style_b29, z_b, ite_ap, (g29 Hm Mm).1, (g29 Hm Mm).2, ez]
      by_cases u : dr = []
      · rw [if_pos u]; exact p1
      · rw [if_neg u]
        simp only [mg0 Hm Mm, dn2]
        by_cases v : dw = []
        · rw [if_pos v]; exact p1
        · rw [if_neg v]
          have h8 : sy.length = 8 := by have := (full.resolve_left u).resolve_left v; omega
          simp only [m26 Hm Mm, c8']
          rw [if_neg (fun y => y h8)]; exact p1
  · have hdr : dr ≠ [] := fun e => full (Or.inl e)
    have dn : dw ≠ [] := fun e => full (Or.inr (Or.inl e))
    have hl : sy.length < 8 := Classical.byContradiction (fun e => full (Or.inr (Or.inr e)))
    have h8 : ¬ sy.length = 8 := by omega
    by_cases q : 0 ≤ z ∧ z < dr.length
    · obtain ⟨k, rfl⟩ : ∃ i : Nat, z = i := ⟨z.toNat, by omega⟩
      have sok : SyOk (dr, k, dw) := ⟨List.length_pos_iff.mpr hdr, dl, by show k < dr.length; omega, ⟨ok.1.1, dn, ok.1.2⟩, ok.2.2.2.2.2.1.2⟩
      obtain ⟨dsx, h', c1, c2, c3, c4, c5, c6, c7, ⟨t1, t2, t3, t4, t5, t6, t7, t8, t9⟩, ⟨c10, c11, c12⟩⟩ := CD.addY cd0 hB C.1.1.1 hl k dw
      have ed : dsx0 = dsx := by rw [b1] at c1; exact Option.some.inj c1
      subst ed
      let f0 := zu (zI H) B 10 (I (cN []))
      let f2 := zu (zu f0 dsx0 2 (I k)) dsx0 3 (I (cN dw))
      let fY := zu (zI (Yh h' B)) (zT h') 3 1
      have bT : B + 142 ≤ zT h' := by omega
      have fs : ∀ b, B < b → b < B + 142 → b < B + 92 ∨ B + 95 ≤ b → b ≠ B + 42 → fY b = zI H b := fun b h1 h2 h3 h4 => by
        show zu (zI (Yh h' B)) (zT h') 3 1 b = _
        rw [zu_ne (by omega), Yh_I (by omega), t7 b (by omega) h4, zu_ne (c4 b (by omega) h2 h3), zu_ne (c4 b (by omega) h2 h3), zu_ne (by omega)]
      have fB : ∀ j, fY B j = f0 B j := fun j => by
        show zu (zI (Yh h' B)) (zT h') 3 1 B j = _
        rw [zu_ne (by omega), Yh_I (by omega), t7 B (by omega) (by omega), zu_ne c3.symm, zu_ne c3.symm]
      have CY : CSh (Yh h' B) B := C.1.mv (fun b h1 h2 => (Yh_K (by omega)).trans (t6 b (by omega))) (fun b j h1 h2 h3 h4 h5 h6 => by
        by_cases e : b = B
        · subst e
          rw [Yh_RB (by omega) (h6 rfl), t9 b (by omega) (by omega) (by omega)]
        · rw [Yh_R (by omega) e, t9 b h1 h2 h5])
      have KY : BoC (fgt fY B) B (madeOf rs sl []) lo lb li := cc.2.1.fr (fun a h1 h2 => (fgt_ne (by omega)).trans (fs a (by omega) (by omega) (by omega) (by omega)))
      have c' : CC (fgt fY B) B [] sl rs al os bs ig tl (sy ++ [(dr, k, dw)]) t lo lb li wl := by
        refine cc.md ?_ fgt_11 fgt_12 (fun b h1 h2 h3 => (fgt_ne (by omega)).trans (fs b (by omega) (by omega) (Or.inl h2) h3)) KY cc.2.2.2.1
        rw [fgt_j (by decide) (by decide), fB]; exact zu_same _ _ _ _
      have cd' : CD (Yh h' B) (fgt fY B) B sl rs (sy ++ [(dr, k, dw)]) [] := c7.fr (fun b hb => fgt_ne (fun e => hb (AA_mem.mpr (by omega))))
      have ok' : AbOk [] sl rs os bs ig (sy ++ [(dr, k, dw)]) [] t (nc + 1) := by
        have u := ok.up hnc
        refine ⟨⟨isW_nil, Nat.zero_le _⟩, u.2.1, u.2.2.1, u.2.2.2.1, ⟨by rw [List.length_append, List.length_singleton]; omega, fun s hs => ?_⟩, ⟨Nat.zero_le _, fun it hit => by cases hit⟩, u.2.2.2.2.2.2⟩
        rcases List.mem_append.mp hs with h | h
        · exact u.2.2.2.2.1.2 s h
        · rw [List.mem_singleton.mp h]; exact sok
      have kc : KC H (hI (Yh h' B) (fgt fY B)) B := by
        have yT := Yh_T h' B
        have yN := Yh_N h' B
        refine KC_mk ((Yh_D h' B).trans t5) ⟨by omega, by omega⟩ ⟨by omega, by omega⟩ (fun b hb => (Yh_K (by omega)).trans (t6 b hb)) (fun b h1 h2 => ⟨?_, ?_, ?_⟩)
        · exact (fgt_ne (by omega)).trans (fs b (by omega) (by omega) (by omega) (by omega))
        · exact (Yh_L (by omega)).trans (t8 b (by omega))
        · exact (Yh_R (by omega) (by omega)).trans (t9 b (by omega) (by omega) (by omega))
      refine call_ok (H1 := hI (Yh h' B) (fgt fY B)) (v := I sy.length) rfl hnc C M hT hN ?_ kc (CS_mk CY (by rw [Yh_T]; omega) (by rw [Yh_D, t5]; exact C.2.2.1) c' cd') ok' (fun Hm Mm => ?_)
      · have td : p_X11_takeDraft (some B) (hI H (zI H)) = some (I (cN dw), hI H f0) := by
          have e : (1 : Int32) = I (cN []) := rfl
          simp only [p_X11_takeDraft, z_b, z_rt, x_gI C.1, x_pI C.1, cc.1, e]
          rfl
        have pS : ∀ (j : Nat) (v : Int32) (f : FI), z_pI 8 j (some dsx0) v (hI H f) = some ((), hI H (zu f dsx0 j v)) := fun j v f => if_pos c2
        have vS : ∀ (α : Type) (k : ZM α) (f : FI), z_vr 8 (some dsx0) k (hI H f) = k (hI H f) := fun α k f => if_pos c2
        have sch : p_X7_setChange (some dsx0) (I k) (I (cN dw)) (hI H f0) = some ((), hI H f2) := by
          simp only [p_X7_setChange, z_b, z_rt, pS]
          rfl
        have c6' : p_Jx4a65c_add_9ea2d (some (B + cRf 3)) (some dsx0) (hI H f2) = some (1, h') := c6
        have nO := nO_Y h'
        have x7 := x7_Y h' B
        have pB := pB_Y (h := h') (B := B) (by omega) ((t6 B (by omega)).trans C.1.1.1)
        have vx : ∀ (α : Type) (k : ZM α) (f : FI), z_vr 12 (some B) k (hI (Yh h' B) f) = k (hI (Yh h' B) f) := fun α k f => vr_hI CY.1.1 k f
        have fg : p_X11_forgetAnswers (some B) (hI (Yh h' B) (zu (zI (Yh h' B)) (zT h') 3 1)) = some ((), hI (Yh h' B) (fgt fY B)) := forget_eq CY
        have gx3 : ∀ f : FI, z_gR 12 3 (some B) (hI H f) = some (some (B + cRf 3), hI H f) := fun f => x_gR C.1 3 (by decide)
        have gy3 : z_gR 12 3 (some B) (hI (Yh h' B) (fgt fY B)) = some (some (B + cRf 3), hI (Yh h' B) (fgt fY B)) := x_gR CY 3 (by decide)
        have KL : zK (Yh h' B) (B + 42) = (6, 0) := (Yh_K (by omega)).trans ((t6 (B + 42) (by omega)).trans b5)
        have vly : ∀ (α : Type) (k : ZM α) (f : FI), z_vr 0 (some (B + cRf 3)) k (hI (Yh h' B) f) = k (hI (Yh h' B) f) := fun α k f => vr_hI KL k f
        have szy : p_Jx4a65c_size_8abf5 (some (B + cRf 3)) (hI (Yh h' B) (fgt fY B)) = some (I ((sy.length + 1 : Nat) : Int), hI (Yh h' B) (fgt fY B)) := by
          have e : fgt fY B (B + 42) 2 = I ((sy.length + 1 : Nat) : Int) := by
            rw [fgt_ne (by omega)]
            show zu (zI (Yh h' B)) (zT h') 3 1 (B + 42) 2 = _
            rw [zu_ne (by omega), Yh_I (by omega)]; exact c12
          have gi : z_gI 0 2 (some (B + 42)) (hI (Yh h' B) (fgt fY B)) = some (fgt fY B (B + 42) 2, hI (Yh h' B) (fgt fY B)) := gI_hI KL 2 _
          show p_Jx4a65c_size_8abf5 (some (B + 42)) _ = _
          simp only [p_Jx4a65c_size_8abf5, z_b, z_rt, gi, e]
        have es : I ((sy.length + 1 : Nat) : Int) - 1 = I (sy.length : Int) := by rw [show (1 : Int32) = I ((1 : Nat) : Int) from rfl, I_sn _ _ (by omega), Nat.add_sub_cancel]
        show p_X11_style (some B) (I (k : Int)) (hI H (zI H)) = some (Sum.inl _, _)
        simp only [p_X11_style, z_b, ite_ap, gx, gs, ez]
        rw [if_neg hdr]
        simp only [x_gI C.1, cc.1, dn1]
        rw [if_neg dn]
        simp only [gx3, vl, b4', c8]
        rw [if_pos hl]
        simp only [gx, gs, e1, isIn_eq, e2]
        rw [if_pos q, if_pos n1]
        simp only [gx, x_vr C.1, td, vS, sch, gx3, vl, c6', nO, x7, pB, vx, fg, gy3, vly, szy, es, z_xrt]
      · obtain ⟨H2, p1, p2, p3, p4⟩ := mstyle Mm hl sok
        refine ⟨H2, ?_, p2, p3, p4⟩
        simp only [p_X12_style, z_b, ite_ap, (g29 Hm Mm).1, (g29 Hm Mm).2, ez]
        rw [if_neg hdr]
        simp only [mg0 Hm Mm, dn2]
        rw [if_neg dn]
        simp only [m26 Hm Mm, c8']
        rw [if_pos h8]
        simp only [(g29 Hm Mm).1, (g29 Hm Mm).2, e1, min_eq, e2]
        rw [if_pos q, if_pos n1]
        exact p1
    · refine call_th (kk := 2) hnc C M ok hT hN (n := 2) ?_ rfl (by decide) (fun Hm Mm => ?_)
      · show p_X11_style (some B) (I z) (hI H (zI H)) = _
        simp only [p_X11_style, z_b, ite_ap, gx, gs, ez]
        rw [if_neg hdr]
        simp only [x_gI C.1, cc.1, dn1]
        rw [if_neg dn]
        simp only [x_gR C.1 3 (by decide), vl, b4', c8]
        rw [if_pos hl]
        simp only [gx, gs, e1, isIn_eq, e2]
        rw [if_neg q, if_neg (fun y => y rfl)]
        rfl
      · obtain ⟨H2, p1, p2, p3, p4⟩ := refM 2 (Or.inr rfl) Hm Mm
        refine ⟨H2, 0, ?_, p2, p3, p4⟩
        simp only [p_X12_style, z_b, ite_ap, (g29 Hm Mm).1, (g29 Hm Mm).2, ez]
        rw [if_neg hdr]
        simp only [mg0 Hm Mm, dn2]
        rw [if_neg dn]
        simp only [m26 Hm Mm, c8']
        rw [if_pos h8]
        simp only [(g29 Hm Mm).1, (g29 Hm Mm).2, e1, min_eq, e2]
        rw [if_neg q, if_neg (fun y => y rfl)]
        exact p1
end
