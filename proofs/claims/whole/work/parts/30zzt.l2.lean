section
variable {H H' H1 : ZH} {B nc : Nat} {f f' : FI} {g g' : FL} {dw dw' : Wd} {sl sl' : List St} {rs rs' : List Ru} {al al' : Nat → Nat → Bool} {os bs ig os' bs' ig' : List Ow} {tl tl' : Nat → Nat} {sy sy' : List Sty} {dr dr' : List It} {t t' : List Nat} {lo lb li lo' lb' li' : Bk} {wl wl' : List Wd}
/-- the mistakes that both find -/
def Mis (rs : List Ru) (sl : List St) (lo lb : Bk) (tl : Nat → Nat) (sy : List Sty) (t : List Nat) : List (Nat × Nat) := mkA (Rof rs sl lo lb t) (brB tl (Rof rs sl lo lb t) (snT t) (bnT t)) (tkF (wdT t) (chE tl (Rof rs sl lo lb t) (snT t) (bnT t)) (bnT t) sy) (wsOf t).length 0
theorem Rof_lt (Ro : OwR lo os) {i : Nat} (hi : i < (wsOf t).length) : Rof rs sl lo lb t i < 256 := by
  obtain ⟨w, w1, w2, w3, w4, w5, w6⟩ := ws_at hi
  show rdW _ _ _ (wdT t i) < 256
  rw [w2]; exact rdW_lt Ro w4 w5
theorem mis_len (t : List Nat) (ht : t.length ≤ 100) : (Mis rs sl lo lb tl sy t).length ≤ 100 := by
  have w50 := ws_100 ht
  have := mkA_len (R := Rof rs sl lo lb t) (B := brB tl (Rof rs sl lo lb t) (snT t) (bnT t)) (T := tkF (wdT t) (chE tl (Rof rs sl lo lb t) (snT t) (bnT t)) (bnT t) sy) (fun i hi => brB_0 hi) (wsOf t).length 0
  unfold Mis
  omega
theorem ra_ms (R : RaM (zI H) (zL H) (arM B) (B + 95) t (Rof rs sl lo lb t) tl sy) : MsM (zI H) (arM B) (B + 95) (Rof rs sl lo lb t) (brB tl (Rof rs sl lo lb t) (snT t) (bnT t)) (tkF (wdT t) (chE tl (Rof rs sl lo lb t) (snT t) (bnT t)) (bnT t) sy) (wsOf t).length := ⟨R.1.1, fun i hi => ⟨(R.2 i hi).1, (R.2 i hi).2.2.1, (R.2 i hi).2.2.2⟩⟩
theorem call_mistakes (S : ST H B nc (dw, sl, rs, al, os, bs, ig, tl, sy, dr, t)) (hnc : nc < 512) : Call2 H B nc (p_X11_mistakes (some B)) (p_X12_mistakes (some (B + 95))) := by
  obtain ⟨⟨lo, lb, li, wl, C⟩, M, ok, hT, hN⟩ := S
  have cc := C.2.2.2.1
  have F : FoC (zI H) (B + 48) (arL (B + 48)) t := cc.2.2.2.2.2.2.1
  have w50 := ws_100 F.1.2.1
  obtain ⟨f', a1, a2, a3, a4, a5, a6⟩ := cproof C ok
  have a1' : p_X11_proofread (some B) (hI H (zI H)) = some ((), hI H f') := a1
  have kc : KC H (hI H f') B := KC.ints (fun b h1 h2 => a6 b (by simp only [PA, List.mem_cons, List.not_mem_nil, or_false, not_or]; omega))
  have e6 : f' (B + 79) 6 = I (Mis rs sl lo lb tl sy t).length := a3.2.2.1
  refine call2_ok (H1 := hI H f') (v := I (Mis rs sl lo lb tl sy t).length) hnc C M hT hN ?_ kc a2 (ok.up hnc) (fun Hm Mm => ?_)
  · have vr8 : ∀ (α : Type) (k : ZM α), z_vr 4 (some (B + cRf 8)) k (hI H f') = k (hI H f') := fun α k => o_vr C.1.op k
    have g6 : z_gI 4 6 (some (B + cRf 8)) (hI H f') = some (f' (B + 79) 6, hI H f') := o_gI C.1.op 6
    show p_X11_mistakes (some B) (hI H (zI H)) = some (I (Mis rs sl lo lb tl sy t).length, hI H f')
    simp only [p_X11_mistakes, p_X3_mistakeCount, z_b, z_rt, x_vr C.1, a1', x_gR (f := f') C.1 8 (by decide), vr8, g6, e6]
  · have M0 : MS (hM Hm (zu (zI Hm) (B + 95) 58 0) (zL Hm)) B dw sl rs al os bs ig tl sy dr t := Mm.pI (Or.inl rfl)
    obtain ⟨H2, p1, p2, p3, p4, p5, p6⟩ := mreads M0 ok cc.2.2.1.1 cc.2.2.1.2.1
    refine ⟨H2, ?_, (KM.pI 58 0).trans p2, p3⟩
    have m := Mm.1.1
    have ml := mst_l (h := H2) (f := zI H2) (g := zL H2) p3.1.1 w50 (fun i hi => Rof_lt cc.2.2.1.1 hi) (fun i r hr => by have := tkF_lt hr; have := ok.2.2.2.2.1.1; omega) (fun i hi => brB_0 hi) (ra_ms p4) (wsOf t).length 0 zFuel 0 (by omega) (by unfold zFuel; omega)
    have ml' : p_X12_mistakes_l13 zFuel (some (B + 95)) 0 0 H2 = some (I (Mis rs sl lo lb tl sy t).length, H2) := by
      rw [show (0 + (mkA (Rof rs sl lo lb t) (brB tl (Rof rs sl lo lb t) (snT t) (bnT t)) (tkF (wdT t) (chE tl (Rof rs sl lo lb t) (snT t) (bnT t)) (bnT t) sy) (wsOf t).length 0).length) = (Mis rs sl lo lb tl sy t).length from Nat.zero_add _] at ml
      exact ml
    show p_X12_mistakes (some (B + 95)) (hM Hm (zI Hm) (zL Hm)) = _
    simp only [p_X12_mistakes, z_b, m_pI m, m_vr m, p1, ml']
/-- the word of a mistake: the reference -/
theorem mwordOf (S : MS H B dw sl rs al os bs ig tl sy dr t) (ok : AbOk dw sl rs os bs ig sy dr t nc) (Ro : OwR lo os) (Rb : OwR lb bs) {z : Int} (hz : -2147483648 ≤ z ∧ z < 2147483648) :
    ∃ H2, KM H H2 B ∧ MS H2 B dw sl rs al os bs ig tl sy dr t ∧ RaM (zI H2) (zL H2) (arM B) (B + 95) t (Rof rs sl lo lb t) tl sy ∧
      (∀ i : Nat, z = i → i < (Mis rs sl lo lb tl sy t).length → ∃ w at_ k, p_X12_wordOf (some (B + 95)) (I z) H = some (I (w : Nat), H2) ∧ zI H2 (B + 95) 58 = 0 ∧ zI H2 (B + 95) 52 = I (at_ : Nat) ∧ w < (wsOf t).length ∧ (mkL (Rof rs sl lo lb t) (brB tl (Rof rs sl lo lb t) (snT t) (bnT t)) (tkF (wdT t) (chE tl (Rof rs sl lo lb t) (snT t) (bnT t)) (bnT t) sy) w)[at_]? = some (k, w) ∧ (Mis rs sl lo lb tl sy t)[i]? = some (k, w)) ∧
      (¬ (0 ≤ z ∧ z < (Mis rs sl lo lb tl sy t).length) → p_X12_wordOf (some (B + 95)) (I z) H = some (-1, H2) ∧ zI H2 (B + 95) 58 = 1) := by
  obtain ⟨H1, p1, p2, p3, p4, p5, p6⟩ := mreads S ok Ro Rb
  have hT : t.length ≤ 100 := S.2.2.2.2.2.2.2.2.2.2.2.1.2.1
  have w50 := ws_100 hT
  have m := p3.1.1
  have F0 : MFr (zI H1) (zu (zI H1) (B + 95) 52 (I z)) (zL H1) (zL H1) (arM B) (B + 95) [52] [] := MFr.pI 52 _ (by simp)
  have D0 : MsM (zu (zI H1) (B + 95) 52 (I z)) (arM B) (B + 95) (Rof rs sl lo lb t) (brB tl (Rof rs sl lo lb t) (snT t) (bnT t)) (tkF (wdT t) (chE tl (Rof rs sl lo lb t) (snT t) (bnT t)) (bnT t) sy) (wsOf t).length := (ra_ms p4).fr F0 m (by decide) (by decide) (by decide) (by decide) (by decide)
  have vr : ∀ (α : Type) (k : ZM α), z_vr 13 (some (B + 95)) k H = k H := fun α k => if_pos S.1.1.1
  have pi : z_pI 13 52 (some (B + 95)) (I z) H1 = some ((), hM H1 (zu (zI H1) (B + 95) 52 (I z)) (zL H1)) := m_pI (f := zI H1) (g := zL H1) m 52 _
  have start : p_X12_wordOf (some (B + 95)) (I z) H = p_X12_wordOf_l11 zFuel (some (B + 95)) (I z) 0 (hM H1 (zu (zI H1) (B + 95) 52 (I z)) (zL H1)) := by
    simp only [p_X12_wordOf, z_b, vr, p1, pi]
  have frRa : ∀ f', MFr (zI H1) f' (zL H1) (zL H1) (arM B) (B + 95) [52, 58] [] → RaM f' (zL H1) (arM B) (B + 95) t (Rof rs sl lo lb t) tl sy := fun f' F => by
    refine ⟨p4.1.fr F m (by decide) (by decide) (by decide) (by decide) (by decide) (by decide), fun i hi => ?_⟩
    rw [(F.at_ m (j := 45) (by decide) (by decide) (by decide)).1, (F.at_ m (j := 46) (by decide) (by decide) (by decide)).1, (F.at_ m (j := 47) (by decide) (by decide) (by decide)).1, (F.at_ m (j := 48) (by decide) (by decide) (by decide)).1]
    exact p4.2 i hi
  have fin : ∀ f', MFr (zI H1) f' (zL H1) (zL H1) (arM B) (B + 95) [52, 58] [] → KM H (hM H1 f' (zL H1)) B ∧ MS (hM H1 f' (zL H1)) B dw sl rs al os bs ig tl sy dr t ∧ RaM f' (zL H1) (arM B) (B + 95) t (Rof rs sl lo lb t) tl sy := fun f' F => by
    have tb : f' (B + 95) 34 = 1 ∧ TC f' (zL H1) (arM B) (B + 95) (madeOf rs sl []) ∨ f' (B + 95) 34 = 0 := Or.inl ⟨by rw [(F.1 34 (by decide)).1]; exact p5.1, p5.2.frM F m (by decide) (by decide) (by decide) (by decide) (by decide) (by decide)⟩
    exact ⟨p2.trans (KM.mk_ m F (by decide)), ⟨p3.1, MC.frame p3.1 p3.2 F (by decide) (by decide) (by decide) tb⟩, frRa f' F⟩
  by_cases hz0 : 0 ≤ z
  · obtain ⟨i, rfl⟩ : ∃ i : Nat, z = i := ⟨z.toNat, by omega⟩
    obtain ⟨f', F1, q1, q2⟩ := wordOf_l (h := H1) (g := zL H1) m w50 (fun i hi => Rof_lt Ro hi) (fun i r hr => by have := tkF_lt hr; have := ok.2.2.2.2.1.1; omega) (fun i hi => brB_0 hi) (z := (i : Int)) ⟨hz0, hz.2⟩ (wsOf t).length 0 zFuel i (zu (zI H1) (B + 95) 52 (I (i : Int))) (by omega) (by unfold zFuel; omega) (by omega) (zu_same _ _ _ _) D0
    obtain ⟨r1, r2, r3⟩ := fin f' ((F0.mono (by simp) (by simp)).trans F1)
    refine ⟨hM H1 f' (zL H1), r1, r2, r3, fun k hk hlt => ?_, fun hno => ?_⟩
    · have hk' : k = i := by omega
      subst hk'
      obtain ⟨w, at_, kk, x1, x2, x3, x4, x5, x6⟩ := q1 hlt
      exact ⟨w, at_, kk, start.trans x1, x2, x3, x4, x5, x6⟩
    · obtain ⟨x1, x2⟩ := q2 (fun q => hno ⟨hz0, by have : i < (Mis rs sl lo lb tl sy t).length := q; omega⟩)
      exact ⟨start.trans x1, x2⟩
  · have F1 : MFr (zI H1) (zu (zu (zI H1) (B + 95) 52 (I z)) (B + 95) 58 1) (zL H1) (zL H1) (arM B) (B + 95) [52, 58] [] := (F0.mono (by simp) (by simp)).trans (MFr.pI 58 1 (by simp))
    obtain ⟨r1, r2, r3⟩ := fin _ F1
    refine ⟨hM H1 (zu (zu (zI H1) (B + 95) 52 (I z)) (B + 95) 58 1) (zL H1), r1, r2, r3, fun k hk _ => absurd hk (by omega), fun _ => ⟨start.trans ?_, zu_same _ _ _ _⟩⟩
    have e1 : I z < 0 := by rw [lit, I_lt (by omega) (by decide)]; omega
    show p_X12_wordOf_c11 _ _ _ _ _ = _
    have g40 := m_gI (f := zu (zI H1) (B + 95) 52 (I z)) (g := zL H1) m 40
    have p58 := m_pI (f := zu (zI H1) (B + 95) 52 (I z)) (g := zL H1) m 58 1
    simp only [p_X12_wordOf_c11, p_X12_wordOf_b62, z_b, z_rt, ite_ap, g40, e1, if_true, p58, ite_self]
/-- a refused call that has looked something up before -/
theorem call_th' {p : ZM (Int32 ⊕ Nat)} {n : Nat} {kx : Nat → ZM Int32} {mdl : ZM Int32} {kk : Int32} {ans : Int32 → ZM Int32} (hnc : nc < 512) (S : CS H B dw sl rs al os bs ig tl sy dr t lo lb li wl) (S1 : CS (hI H f') B dw sl rs al os bs ig tl sy dr t lo lb li wl) (hk : KC H (hI H f') B) (M : MS H B dw sl rs al os bs ig tl sy dr t) (ok : AbOk dw sl rs os bs ig sy dr t nc) (hT : zT H ≤ B + 142 + 5 * nc) (hN : zN H ≤ 102646 + 64 * nc)
    (hp : p (hI H (zI H)) = some (.inr n, znew (hI H f') (0, 0) 6)) (hkx : kx n = z_rt kk) (hk0 : kk ≠ 0)
    (ref : ∀ Hm, MS Hm B dw sl rs al os bs ig tl sy dr t → ∃ H2 b, mdl Hm = some (b, H2) ∧ KM Hm H2 B ∧ MS H2 B dw sl rs al os bs ig tl sy dr t ∧ zI H2 (B + 95) 58 = kk) :
    Call H B nc (z_bx (z_vr 12 (some B) p) ans kx) mdl := by
  obtain ⟨S2', hk'⟩ := S1.th
  have M1 := (M.kc S.2.1 hk).kc S1.2.1 hk'
  obtain ⟨H2, b, r1, r2, r3, r4⟩ := ref _ M1
  have S2 := S2'.km r2
  refine ⟨(dw, sl, rs, al, os, bs, ig, tl, sy, dr, t), znew (hI H f') (0, 0) 6, H2, kk, b, ?_, r1, r4, fun q => absurd q hk0, ⟨⟨lo, lb, li, wl, S2⟩, r3, ok.up hnc, ?_, ?_⟩, ?_⟩
  · have e : z_vr 12 (some B) p H = some (.inr n, znew (hI H f') (0, 0) 6) := by
      have : z_vr 12 (some B) p H = p H := if_pos S.1.1.1
      rw [this]; exact hp
    simp only [z_bx, e, hkx, z_rt]
  · obtain ⟨f', g', rfl, k2⟩ := r2
    show zT H + 1 ≤ _
    omega
  · obtain ⟨f', g', rfl, k2⟩ := r2
    show zN H + 6 ≤ _
    omega
  · obtain ⟨f', g', rfl, k2⟩ := r2
    exact ⟨rfl, M1.1.1.1, rfl⟩
theorem call_mistakeAt (S : ST H B nc (dw, sl, rs, al, os, bs, ig, tl, sy, dr, t)) (hnc : nc < 512) (x : Int32) : Call H B nc (p_L_mistakeAt (some B) x (some (B + 141))) (p_X12_mistakeAt (some (B + 95)) x) := by
  obtain ⟨⟨lo, lb, li, wl, C⟩, M, ok, hT, hN⟩ := S
  obtain ⟨z, rfl, hz⟩ := int_of x
  have cc := C.2.2.2.1
  have F : FoC (zI H) (B + 48) (arL (B + 48)) t := cc.2.2.2.2.2.2.1
  have ml := mis_len (rs := rs) (sl := sl) (lo := lo) (lb := lb) (tl := tl) (sy := sy) t F.1.2.1
  have n1 : ¬ ((1 : Int32) = 0) := by decide
  obtain ⟨f', a1, a2, a3, a4, a5, a6⟩ := cproof C ok
  have a1' : p_X11_proofread (some B) (hI H (zI H)) = some ((), hI H f') := a1
  have kc : KC H (hI H f') B := KC.ints (fun b h1 h2 => a6 b (by simp only [PA, List.mem_cons, List.not_mem_nil, or_false, not_or]; omega))
  have e6 : f' (B + 79) 6 = I (Mis rs sl lo lb tl sy t).length := a3.2.2.1
  have vr8 : ∀ (α : Type) (k : ZM α), z_vr 4 (some (B + cRf 8)) k (hI H f') = k (hI H f') := fun α k => o_vr C.1.op k
  have g6 : z_gI 4 6 (some (B + cRf 8)) (hI H f') = some (f' (B + 79) 6, hI H f') := o_gI C.1.op 6
  have e1 : I ((Mis rs sl lo lb tl sy t).length : Int) - 1 = I (((Mis rs sl lo lb tl sy t).length : Int) - 1) := by rw [show (1 : Int32) = I 1 from rfl, I_sub]
  have e2 : ((0 : Int32) ≤ I z ∧ I z ≤ I (((Mis rs sl lo lb tl sy t).length : Int) - 1)) ↔ (0 ≤ z ∧ z < (Mis rs sl lo lb tl sy t).length) := by
    rw [lit, I_le (by decide) (by omega), I_le (by omega) (by omega)]; omega
  by_cases q : 0 ≤ z ∧ z < (Mis rs sl lo lb tl sy t).length
  · obtain ⟨i, rfl⟩ : ∃ i : Nat, z = i := ⟨z.toNat, by omega⟩
    have hi : i < (Mis rs sl lo lb tl sy t).length := by omega
    have hg := getD_some (d := (0, 0)) hi
    have cg := a3.2.2.2 i _ hg
    refine call_ok (H1 := hI H f') (v := I (((Mis rs sl lo lb tl sy t).getD i (0, 0)).2 : Nat)) rfl hnc C M hT hN ?_ kc a2 (ok.up hnc) (fun Hm Mm => ?_)
    · have gt : p_X3_wordOfMistake (some (B + cRf 8)) (I (i : Int)) (hI H f') = some (I (((Mis rs sl lo lb tl sy t).getD i (0, 0)).2 : Nat), hI H f') := by
        show p_X3_wordOfMistake (some (B + 79)) (I (i : Int)) (hI H f') = _
        simp only [p_X3_wordOfMistake, z_b, z_rt, o_gR C.1.op 5 (by decide), o_rv C.1.op 5 (by decide), o_get C.1.op 5 100 rfl (show i < 100 by omega), cg.2]
      show p_X11_mistakeAt (some B) (I (i : Int)) (hI H (zI H)) = some (Sum.inl _, hI H f')
      simp only [p_X11_mistakeAt, p_X3_mistakeCount, z_b, z_rt, ite_ap, x_vr C.1, a1', x_gR (f := f') C.1 8 (by decide), vr8, g6, e6, e1, isIn_eq, e2]
      rw [if_pos q, if_pos n1]
      simp only [x_gR (f := f') C.1 8 (by decide), vr8, gt, z_xrt]
    · obtain ⟨H2, p1, p2, p3, p4, p5⟩ := mwordOf Mm ok cc.2.2.1.1 cc.2.2.1.2.1 (z := (i : Int)) hz
      obtain ⟨w, at_, k, x1, x2, x3, x4, x5, x6⟩ := p4 i rfl hi
      refine ⟨H2, ?_, p1, p2, x2⟩
      have hkw : (Mis rs sl lo lb tl sy t).getD i (0, 0) = (k, w) := by rw [List.getD_eq_getElem?_getD, x6]; rfl
      rw [hkw]
      have vr : ∀ (α : Type) (k : ZM α), z_vr 13 (some (B + 95)) k Hm = k Hm := fun α k => if_pos Mm.1.1.1
      have m := p2.1.1
      have b58 : z_gI 13 58 (some (B + 95)) H2 = some (zI H2 (B + 95) 58, H2) := m_gI (f := zI H2) (g := zL H2) m 58
      have z0 : (0 : Int32) ≤ 0 := by decide
      simp only [p_X12_mistakeAt, z_b, z_rt, ite_ap, vr, x1, b58, x2, z0, if_true]
  · obtain ⟨C', kc'⟩ := a2.th
    obtain ⟨H2', r1, r2⟩ : ∃ Hx : ZH, Hx = hI H f' ∧ True := ⟨_, rfl, trivial⟩
    have M1 := M.kc C.2.1 kc
    have hT1 : zT (hI H f') ≤ B + 142 + 5 * nc := hT
    have hN1 : zN (hI H f') ≤ 102646 + 64 * nc := hN
    -- the text has been read, then the call is refused
    have hp : p_X11_mistakeAt (some B) (I z) (hI H (zI H)) = some (Sum.inr 2, znew (hI H f') (0, 0) 6) := by
      simp only [p_X11_mistakeAt, p_X3_mistakeCount, z_b, z_rt, ite_ap, x_vr C.1, a1', x_gR (f := f') C.1 8 (by decide), vr8, g6, e6, e1, isIn_eq, e2]
      rw [if_neg q, if_neg (fun y => y rfl)]
      rfl
    refine call_th' (kk := 1) hnc C a2 kc M ok hT hN (n := 2) hp rfl (by decide) (fun Hm Mm => ?_)
    obtain ⟨H2, p1, p2, p3, p4, p5⟩ := mwordOf Mm ok cc.2.2.1.1 cc.2.2.1.2.1 (z := z) hz
    obtain ⟨x1, x2⟩ := p5 q
    refine ⟨H2, 0, ?_, p1, p2, x2⟩
    have vr : ∀ (α : Type) (k : ZM α), z_vr 13 (some (B + 95)) k Hm = k Hm := fun α k => if_pos Mm.1.1.1
    have b58 : z_gI 13 58 (some (B + 95)) H2 = some (zI H2 (B + 95) 58, H2) := m_gI (f := zI H2) (g := zL H2) p2.1.1 58
    have z0 : ¬ (1 : Int32) ≤ 0 := by decide
    simp only [p_X12_mistakeAt, z_b, z_rt, ite_ap, vr, x1, b58, x2, z0, if_false]
theorem call_mistakeKind (S : ST H B nc (dw, sl, rs, al, os, bs, ig, tl, sy, dr, t)) (hnc : nc < 512) (x : Int32) : Call H B nc (p_L_mistakeKind (some B) x (some (B + 141))) (p_X12_mistakeKind (some (B + 95)) x) := by
  obtain ⟨⟨lo, lb, li, wl, C⟩, M, ok, hT, hN⟩ := S
  obtain ⟨z, rfl, hz⟩ := int_of x
  have cc := C.2.2.2.1
  have F : FoC (zI H) (B + 48) (arL (B + 48)) t := cc.2.2.2.2.2.2.1
  have ml := mis_len (rs := rs) (sl := sl) (lo := lo) (lb := lb) (tl := tl) (sy := sy) t F.1.2.1
  have n1 : ¬ ((1 : Int32) = 0) := by decide
  obtain ⟨f', a1, a2, a3, a4, a5, a6⟩ := cproof C ok
  have a1' : p_X11_proofread (some B) (hI H (zI H)) = some ((), hI H f') := a1
  have kc : KC H (hI H f') B := KC.ints (fun b h1 h2 => a6 b (by simp only [PA, List.mem_cons, List.not_mem_nil, or_false, not_or]; omega))
  have e6 : f' (B + 79) 6 = I (Mis rs sl lo lb tl sy t).length := a3.2.2.1
  have vr8 : ∀ (α : Type) (k : ZM α), z_vr 4 (some (B + cRf 8)) k (hI H f') = k (hI H f') := fun α k => o_vr C.1.op k
  have g6 : z_gI 4 6 (some (B + cRf 8)) (hI H f') = some (f' (B + 79) 6, hI H f') := o_gI C.1.op 6
  have e1 : I ((Mis rs sl lo lb tl sy t).length : Int) - 1 = I (((Mis rs sl lo lb tl sy t).length : Int) - 1) := by rw [show (1 : Int32) = I 1 from rfl, I_sub]
  have e2 : ((0 : Int32) ≤ I z ∧ I z ≤ I (((Mis rs sl lo lb tl sy t).length : Int) - 1)) ↔ (0 ≤ z ∧ z < (Mis rs sl lo lb tl sy t).length) := by
    rw [lit, I_le (by decide) (by omega), I_le (by omega) (by omega)]; omega
  by_cases q : 0 ≤ z ∧ z < (Mis rs sl lo lb tl sy t).length
  · obtain ⟨i, rfl⟩ : ∃ i : Nat, z = i := ⟨z.toNat, by omega⟩
    have hi : i < (Mis rs sl lo lb tl sy t).length := by omega
    have hg := getD_some (d := (0, 0)) hi
    have cg := a3.2.2.2 i _ hg
    refine call_ok (H1 := hI H f') (v := I (((Mis rs sl lo lb tl sy t).getD i (0, 0)).1 : Nat)) rfl hnc C M hT hN ?_ kc a2 (ok.up hnc) (fun Hm Mm => ?_)
    · have gt : p_X3_kindOfMistake (some (B + cRf 8)) (I (i : Int)) (hI H f') = some (I (((Mis rs sl lo lb tl sy t).getD i (0, 0)).1 : Nat), hI H f') := by
        show p_X3_kindOfMistake (some (B + 79)) (I (i : Int)) (hI H f') = _
        simp only [p_X3_kindOfMistake, z_b, z_rt, o_gR C.1.op 4 (by decide), o_rv C.1.op 4 (by decide), o_get C.1.op 4 100 rfl (show i < 100 by omega), cg.1]
      show p_X11_mistakeKind (some B) (I (i : Int)) (hI H (zI H)) = some (Sum.inl _, hI H f')
      simp only [p_X11_mistakeKind, p_X3_mistakeCount, z_b, z_rt, ite_ap, x_vr C.1, a1', x_gR (f := f') C.1 8 (by decide), vr8, g6, e6, e1, isIn_eq, e2]
      rw [if_pos q, if_pos n1]
      simp only [x_gR (f := f') C.1 8 (by decide), vr8, gt, z_xrt]
    · obtain ⟨H2, p1, p2, p3, p4, p5⟩ := mwordOf Mm ok cc.2.2.1.1 cc.2.2.1.2.1 (z := (i : Int)) hz
      obtain ⟨w, at_, k, x1, x2, x3, x4, x5, x6⟩ := p4 i rfl hi
      refine ⟨H2, ?_, p1, p2, x2⟩
      have hkw : (Mis rs sl lo lb tl sy t).getD i (0, 0) = (k, w) := by rw [List.getD_eq_getElem?_getD, x6]; rfl
      rw [hkw]
      have vr : ∀ (α : Type) (k : ZM α), z_vr 13 (some (B + 95)) k Hm = k Hm := fun α k => if_pos Mm.1.1.1
      have m := p2.1.1
      have b58 : z_gI 13 58 (some (B + 95)) H2 = some (zI H2 (B + 95) 58, H2) := m_gI (f := zI H2) (g := zL H2) m 58
      have z0 : (0 : Int32) ≤ 0 := by decide
      have kd := mkL_kind (fun i hi => brB_0 hi) x5
      have b52 : z_gI 13 52 (some (B + 95)) H2 = some (zI H2 (B + 95) 52, H2) := m_gI (f := zI H2) (g := zL H2) m 52
      have w50 := ws_100 F.1.2.1
      have b45 : z_gR 13 45 (some (B + 95)) H2 = some (some (arM B 45), H2) := m_gR (f := zI H2) (g := zL H2) m 45 (by decide)
      have c45 : z_aI (some (arM B 45)) (I w) H2 = some (zI H2 (arM B 45) w, H2) := m_aI (f := zI H2) (g := zL H2) m 45 101 (by decide) (show w < 101 by omega) (by decide)
      have b47 : z_gR 13 47 (some (B + 95)) H2 = some (some (arM B 47), H2) := m_gR (f := zI H2) (g := zL H2) m 47 (by decide)
      have c47 : z_aI (some (arM B 47)) (I w) H2 = some (zI H2 (arM B 47) w, H2) := m_aI (f := zI H2) (g := zL H2) m 47 101 (by decide) (show w < 101 by omega) (by decide)
      obtain ⟨y1, y2, y3, y4⟩ := p3.2 w x4
      have r0 : (I (Rof rs sl lo lb t w : Int) = 0) ↔ Rof rs sl lo lb t w = 0 := I_eqN (k := 0) (by have := Rof_lt (rs := rs) (sl := sl) (lb := lb) cc.2.2.1.1 x4; omega) (by decide)
      have hat : at_ < 2 := by
        have := lt_of_get x5
        have := mkL_len (R := Rof rs sl lo lb t) (B := brB tl (Rof rs sl lo lb t) (snT t) (bnT t)) (T := tkF (wdT t) (chE tl (Rof rs sl lo lb t) (snT t) (bnT t)) (bnT t) sy) (fun i hi => brB_0 hi) w
        omega
      have a0 : (I (at_ : Int) = 0) ↔ at_ = 0 := I_eqN (k := 0) (by omega) (by decide)
      have bb : (I (bN (brB tl (Rof rs sl lo lb t) (snT t) (bnT t) w) : Int) = 1) ↔ brB tl (Rof rs sl lo lb t) (snT t) (bnT t) w = true := by cases brB tl (Rof rs sl lo lb t) (snT t) (bnT t) w <;> decide
      simp only [p_X12_mistakeKind, z_b, z_rt, ite_ap, vr, x1, b58, x2, z0, if_true, b52, x3, b45, c45, y1, r0, b47, c47, y3, bb, a0]
      rw [kd]
      by_cases u1 : Rof rs sl lo lb t w = 0
      · rw [if_neg (fun y => y u1), if_pos u1]
        by_cases u2 : at_ = 0
        · rw [if_neg (fun y => y u2), if_pos u2]; rfl
        · rw [if_pos u2, if_neg u2]; rfl
      · rw [if_pos u1, if_neg u1]
        by_cases u3 : brB tl (Rof rs sl lo lb t) (snT t) (bnT t) w = true
        · rw [if_neg (fun y => y u3)]
          by_cases u2 : at_ = 0
          · rw [if_neg (fun y => y u2), if_pos ⟨u3, u2⟩]; rfl
          · rw [if_pos u2, if_neg (fun y => u2 y.2)]; rfl
        · rw [if_pos u3, if_neg (fun y => u3 y.1)]; rfl
  · obtain ⟨C', kc'⟩ := a2.th
    obtain ⟨H2', r1, r2⟩ : ∃ Hx : ZH, Hx = hI H f' ∧ True := ⟨_, rfl, trivial⟩
    have M1 := M.kc C.2.1 kc
    have hT1 : zT (hI H f') ≤ B + 142 + 5 * nc := hT
    have hN1 : zN (hI H f') ≤ 102646 + 64 * nc := hN
    -- the text has been read, then the call is refused
    have hp : p_X11_mistakeKind (some B) (I z) (hI H (zI H)) = some (Sum.inr 2, znew (hI H f') (0, 0) 6) := by
      simp only [p_X11_mistakeKind, p_X3_mistakeCount, z_b, z_rt, ite_ap, x_vr C.1, a1', x_gR (f := f') C.1 8 (by decide), vr8, g6, e6, e1, isIn_eq, e2]
      rw [if_neg q, if_neg (fun y => y rfl)]
      rfl
    refine call_th' (kk := 1) hnc C a2 kc M ok hT hN (n := 2) hp rfl (by decide) (fun Hm Mm => ?_)
    obtain ⟨H2, p1, p2, p3, p4, p5⟩ := mwordOf Mm ok cc.2.2.1.1 cc.2.2.1.2.1 (z := z) hz
    obtain ⟨x1, x2⟩ := p5 q
    refine ⟨H2, 0, ?_, p1, p2, x2⟩
    have vr : ∀ (α : Type) (k : ZM α), z_vr 13 (some (B + 95)) k Hm = k Hm := fun α k => if_pos Mm.1.1.1
    have b58 : z_gI 13 58 (some (B + 95)) H2 = some (zI H2 (B + 95) 58, H2) := m_gI (f := zI H2) (g := zL H2) p2.1.1 58
    have z0 : ¬ (1 : Int32) ≤ 0 := by decide
    simp only [p_X12_mistakeKind, z_b, z_rt, ite_ap, vr, x1, b58, x2, z0, if_false]
end
