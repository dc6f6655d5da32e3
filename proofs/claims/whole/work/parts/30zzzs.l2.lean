section
variable {H H' H1 : ZH} {B nc : Nat} {f f' : FI} {g g' : FL} {dw dw' : Wd} {sl sl' : List St} {rs rs' : List Ru} {al al' : Nat → Nat → Bool} {os bs ig os' bs' ig' : List Ow} {tl tl' : Nat → Nat} {sy sy' : List Sty} {dr dr' : List It} {t t' : List Nat} {lo lb li lo' lb' li' : Bk} {wl wl' : List Wd}
/-- the reference's state with another text -/
theorem MC.tx {ss as : List Nat} (S : MSh H B) (m : MC f g B dw sl rs al os bs ig tl sy dr t) (F : MFr f f' g g' (arM B) (B + 95) [32, 56, 40] [33, 55, 41, 42, 43, 44, 57]) (T : TxM f' (arM B) (B + 95) t') : MC f' g' B dw sl rs al os bs ig tl sy dr t' := by
  obtain ⟨k1, k2, k3, k4, k5, k6, k7, k8, k9, k10, k11, k12⟩ := MC.comps S m F (by decide)
  exact ⟨k1 (by decide), k2 (by decide) (by decide), k3 (by decide) (by decide), k4 (by decide), k5 (by decide) (by decide), k6 (by decide) (by decide), k7 (by decide) (by decide), k8 (by decide), k9 (by decide) (by decide), k10 (by decide), T, k12 (by decide) (by decide) (by decide)⟩
theorem isSg_iff {c : Nat} : isSg c ↔ (97 ≤ c ∧ c ≤ 104) ∨ c = 32 ∨ c = 46 ∨ c = 60 ∨ c = 62 := Iff.rfl
theorem call_put (S : ST H B nc (dw, sl, rs, al, os, bs, ig, tl, sy, dr, t)) (hnc : nc < 512) (x : Int32) {c : Nat} (hc : c < 65536) : Call H B nc (p_L_put (some B) x (I c) (some (B + 141))) (p_X12_put (some (B + 95)) x (I c)) := by
  obtain ⟨⟨lo, lb, li, wl, C⟩, M, ok, hT, hN⟩ := S
  obtain ⟨z, rfl, hz⟩ := int_of x
  have cc := C.2.2.2.1
  have F : FoC (zI H) (B + 48) (arL (B + 48)) t := cc.2.2.2.2.2.2.1
  have ht := F.1.2.1
  have hs := ok.2.2.2.2.2.2.1
  have n1 : ¬ ((1 : Int32) = 0) := by decide
  have e2 : ((0 : Int32) ≤ I z ∧ I z ≤ I (t.length : Int)) ↔ (0 ≤ z ∧ z ≤ t.length) := by
    rw [lit, I_le (by decide) (by omega), I_le (by omega) (by omega)]
  have e32 : (I (c : Int) = 32) ↔ c = 32 := I_eqN (k := 32) (by omega) (by decide)
  have e46 : (I (c : Int) = 46) ↔ c = 46 := I_eqN (k := 46) (by omega) (by decide)
  have e60 : (I (c : Int) = 60) ↔ c = 60 := I_eqN (k := 60) (by omega) (by decide)
  have e62 : (I (c : Int) = 62) ↔ c = 62 := I_eqN (k := 62) (by omega) (by decide)
  have cl : ∀ h, p_X11_isLetter (I c) h = some (if 97 ≤ c ∧ c ≤ 104 then 1 else 0, h) := fun h => isLt_eq' h (by omega)
  have ml : ∀ h, p_X12_isLetter (I c) h = some (if 97 ≤ c ∧ c ≤ 104 then 1 else 0, h) := fun h => by
    simp only [p_X12_isLetter, z_b, z_rz, ite_ap, mIn_lt h (show c < 100000 by omega)]
    split <;> rfl
  have cs : ∀ h, p_X11_isSign (I c) h = some (if (97 ≤ c ∧ c ≤ 104) ∨ c = 32 ∨ c = 46 ∨ c = 60 ∨ c = 62 then 1 else 0, h) := fun h => by
    simp only [p_X11_isSign, z_b, z_rz, ite_ap, cl, e32, e46, e60, e62, true_or, or_true, if_true]
    by_cases u1 : 97 ≤ c ∧ c ≤ 104
    · rw [if_pos u1, if_pos n1, if_pos (Or.inl u1)]
    · rw [if_neg u1, if_neg (fun y => y rfl)]
      by_cases u2 : c = 32
      · rw [if_pos u2, if_pos (Or.inr (Or.inl u2))]
      · rw [if_neg u2]
        by_cases u3 : c = 46
        · rw [if_pos u3, if_pos (Or.inr (Or.inr (Or.inl u3)))]
        · rw [if_neg u3]
          by_cases u4 : c = 60
          · rw [if_pos u4, if_pos (Or.inr (Or.inr (Or.inr (Or.inl u4))))]
          · rw [if_neg u4]
            by_cases u5 : c = 62
            · rw [if_neg (fun y => y u5), if_pos (Or.inr (Or.inr (Or.inr (Or.inr u5))))]
            · rw [if_pos u5, if_neg (fun y => by rcases y with y | y | y | y | y <;> contradiction)]
  have mput : ∀ Hm, p_X12_put (some (B + 95)) (I z) (I c) Hm = p_X12_put_b36 (some (B + 95)) (I z) (I c) (if (97 ≤ c ∧ c ≤ 104) ∨ c = 32 ∨ c = 46 ∨ c = 60 ∨ c = 62 then 1 else 0) Hm := fun Hm => by
    simp only [p_X12_put, p_X12_put_b31, z_b, ite_ap, ml, e32, e46, e60, e62]
    by_cases u1 : 97 ≤ c ∧ c ≤ 104
    · rw [if_pos u1, if_pos n1, if_pos (Or.inl u1)]
    · rw [if_neg u1, if_neg (fun y => y rfl)]
      by_cases u2 : c = 32
      · rw [if_pos u2, if_pos (Or.inr (Or.inl u2))]
      · rw [if_neg u2]
        by_cases u3 : c = 46
        · rw [if_pos u3, if_pos (Or.inr (Or.inr (Or.inl u3)))]
        · rw [if_neg u3]
          by_cases u4 : c = 60
          · rw [if_pos u4, if_pos (Or.inr (Or.inr (Or.inr (Or.inl u4))))]
          · rw [if_neg u4]
            by_cases u5 : c = 62
            · rw [if_neg (fun y => y u5), if_pos (Or.inr (Or.inr (Or.inr (Or.inr u5))))]
            · rw [if_pos u5, if_neg (fun y => by rcases y with y | y | y | y | y <;> contradiction)]
  have refM : ∀ (k : Int32), k = 1 ∨ k = 2 ∨ k = 3 → ∀ Hm, MS Hm B dw sl rs al os bs ig tl sy dr t → ∃ H2, p_X12_put_b76 (some (B + 95)) (I z) (I c) (some (B + 95)) k Hm = some (0, H2) ∧ KM Hm H2 B ∧ MS H2 B dw sl rs al os bs ig tl sy dr t ∧ zI H2 (B + 95) 58 = k := fun k hk Hm Mm => by
    have m := Mm.1.1
    refine ⟨hM Hm (zu (zI Hm) (B + 95) 58 k) (zL Hm), ?_, KM.pI _ _, Mm.pI (Or.inl rfl), zu_same _ _ _ _⟩
    have g1 : ¬ k ≤ 0 := by rcases hk with rfl | rfl | rfl <;> decide
    show p_X12_put_b76 _ _ _ _ _ (hM Hm (zI Hm) (zL Hm)) = _
    simp only [p_X12_put_b76, z_b, z_rt, ite_ap, m_pI m, m_gI m, zu_same, g1, if_false]
  have m32 : ∀ Hm, MS Hm B dw sl rs al os bs ig tl sy dr t → z_gI 13 32 (some (B + 95)) Hm = some (I t.length, Hm) := fun Hm Mm => (m_gI (f := zI Hm) (g := zL Hm) Mm.1.1 32).trans (by rw [Mm.2.2.2.2.2.2.2.2.2.2.2.1.1]; rfl)
  have c100 : (I (t.length : Int) < 100) ↔ t.length < 100 := by rw [lit, I_lt (by omega) (by decide)]; omega
  have c100' : (I (t.length : Int) = 100) ↔ t.length = 100 := I_eqN (k := 100) (by omega) (by decide)
  have vr5 : ∀ (α : Type) (k : ZM α) (f : FI), z_vr 10 (some (B + cRf 5)) k (hI H f) = k (hI H f) := fun α k f => o_vr C.1.ot k
  have vr6 : ∀ (α : Type) (k : ZM α) (f : FI), z_vr 10 (some (B + cRf 6)) k (hI H f) = k (hI H f) := fun α k f => o_vr C.1.ob k
  have g6 : p_X9_size (some (B + cRf 5)) (hI H (zI H)) = some (I t.length, hI H (zI H)) := by
    have gi : z_gI 10 6 (some (B + cRf 5)) (hI H (zI H)) = some (I t.length, hI H (zI H)) := (o_gI C.1.ot 6).trans (by rw [F.1.1])
    simp only [p_X9_size, z_b, z_rt, gi]
  by_cases q : 0 ≤ z ∧ z ≤ t.length
  · obtain ⟨p, rfl⟩ : ∃ i : Nat, z = i := ⟨z.toNat, by omega⟩
    by_cases sg : (97 ≤ c ∧ c ≤ 104) ∨ c = 32 ∨ c = 46 ∨ c = 60 ∨ c = 62
    · by_cases l1 : t.length < 100
      · have hsg : isSg c := sg
        have hs' := insT_sg (p := p) hs hsg
        obtain ⟨f1, f2, f', p1, p2, p3, p4, p5⟩ := cedit C ok hs' (ed := p_X9_insertSign (some (B + 48)) (I p) (I c)) (fun f T W => ins_eq C.1.ot T l1 (show p ≤ t.length by omega) c)
        have ok' : AbOk dw sl rs os bs ig sy dr (insT t p c) (nc + 1) := by
          have u := ok.up hnc
          exact ⟨u.1, u.2.1, u.2.2.1, u.2.2.2.1, u.2.2.2.2.1, u.2.2.2.2.2.1, hs', u.2.2.2.2.2.2.2⟩
        refine call_ok (H1 := hI H f') (v := I (chkF (insT t p c) t)) rfl hnc C M hT hN ?_ p5 p4 ok' (fun Hm Mm => ?_)
        · have p1' : p_X9_becomeLike (some (B + cRf 6)) (some (B + cRf 5)) (hI H (zI H)) = some ((), hI H f1) := p1
          have p2' : p_X9_insertSign (some (B + cRf 5)) (I p) (I c) (hI H f1) = some ((), hI H f2) := p2
          show p_X11_put (some B) (I (p : Int)) (I (c : Int)) (hI H (zI H)) = some (Sum.inl _, _)
          simp only [p_X11_put, z_b, z_rt, ite_ap, x_gR C.1 5 (by decide), vr5, g6, isIn_eq, e2]
          rw [if_pos q, if_pos n1]
          simp only [cs]
          rw [if_pos sg, if_pos n1]
          simp only [x_gR C.1 5 (by decide), vr5, g6, c100]
          rw [if_pos l1]
          simp only [x_gR C.1 6 (by decide), x_gR C.1 5 (by decide), vr6, p1', vr5, p2', x_vr C.1, p3, z_xrt]
        · have m := Mm.1.1
          have M0 : MS (hM Hm (zu (zI Hm) (B + 95) 58 0) (zL Hm)) B dw sl rs al os bs ig tl sy dr t := Mm.pI (Or.inl rfl)
          have T0 : TxM (zu (zI Hm) (B + 95) 58 0) (arM B) (B + 95) t := M0.2.2.2.2.2.2.2.2.2.2.2.1
          obtain ⟨fa, a1, a2, a3, a4⟩ := mrem_eq (h := Hm) (g := zL Hm) m T0
          have T1 : TxM fa (arM B) (B + 95) t := T0.fr a4 m (by decide) (by decide) (by decide)
          obtain ⟨fb, gb, b1, b2, b3, b4⟩ := put98 (h := Hm) m (zL Hm) (p := p) (c := c) (t := t) (by omega) l1 hs hsg (b := t) hs ht (t.length - p) t.length zFuel fa (by omega) (Nat.le_refl _) (by unfold zFuel; omega) T1.1 ⟨a2, a3⟩ (fun i h1 h2 => T1.2.2 i _ (getD_some h2)) (fun i h1 h2 => absurd h1 (by omega))
          have FF : MFr (zu (zI Hm) (B + 95) 58 0) fb (zL Hm) gb (arM B) (B + 95) [32, 56, 40] [33, 55, 41, 42, 43, 44, 57] := (a4.mono (by simp) (by simp)).trans (b4.mono (by simp) (by simp))
          refine ⟨hM Hm fb gb, ?_, (KM.pI 58 0).trans (KM.mk_ (H := hM Hm (zu (zI Hm) (B + 95) 58 0) (zL Hm)) m FF (by decide)), ⟨Mm.1, MC.tx (ss := []) (as := []) Mm.1 M0.2 FF b2⟩, ?_⟩
          · have g00 : (0 : Int32) ≤ 0 := by decide
            have nl : ¬ t.length = 100 := by omega
            rw [mput, if_pos sg]
            simp only [p_X12_put_b36, z_b, ite_ap, m32 Hm Mm, min_eq, e2]
            rw [if_pos q, if_pos n1, if_pos n1]
            simp only [m32 Hm Mm, c100']
            rw [if_pos nl]
            show p_X12_put_b76 _ _ _ _ _ (hM Hm (zI Hm) (zL Hm)) = _
            simp only [p_X12_put_b76, z_b, ite_ap, m_pI m, m_gI m, zu_same, g00, if_true, m_vr m, a1, T1.1]
            exact b1
          · show fb (B + 95) 58 = 0
            rw [(FF.1 58 (by decide)).1, zu_same]
      · refine call_th (kk := 3) hnc C M ok hT hN (n := 1) ?_ rfl (by decide) (fun Hm Mm => ?_)
        · show p_X11_put (some B) (I (p : Int)) (I (c : Int)) (hI H (zI H)) = _
          simp only [p_X11_put, z_b, z_rt, ite_ap, x_gR C.1 5 (by decide), vr5, g6, isIn_eq, e2]
          rw [if_pos q, if_pos n1]
          simp only [cs]
          rw [if_pos sg, if_pos n1]
          simp only [x_gR C.1 5 (by decide), vr5, g6, c100]
          rw [if_neg l1]; rfl
        · obtain ⟨H2, p1, p2, p3, p4⟩ := refM 3 (Or.inr (Or.inr rfl)) Hm Mm
          refine ⟨H2, 0, ?_, p2, p3, p4⟩
          have nl : t.length = 100 := by omega
          rw [mput, if_pos sg]
          simp only [p_X12_put_b36, z_b, ite_ap, m32 Hm Mm, min_eq, e2]
          rw [if_pos q, if_pos n1, if_pos n1]
          simp only [m32 Hm Mm, c100']
          rw [if_neg (fun y => y nl)]
          exact p1
    · refine call_th (kk := 2) hnc C M ok hT hN (n := 0) ?_ rfl (by decide) (fun Hm Mm => ?_)
      · show p_X11_put (some B) (I (p : Int)) (I (c : Int)) (hI H (zI H)) = _
        simp only [p_X11_put, z_b, z_rt, ite_ap, x_gR C.1 5 (by decide), vr5, g6, isIn_eq, e2]
        rw [if_pos q, if_pos n1]
        simp only [cs]
        rw [if_neg sg, if_neg (fun y => y rfl)]; rfl
      · obtain ⟨H2, p1, p2, p3, p4⟩ := refM 2 (Or.inr (Or.inl rfl)) Hm Mm
        refine ⟨H2, 0, ?_, p2, p3, p4⟩
        rw [mput, if_neg sg]
        simp only [p_X12_put_b36, z_b, ite_ap, m32 Hm Mm, min_eq, e2]
        rw [if_pos q, if_pos n1]
        simp only [not_true_eq_false, if_false]
        exact p1
  · refine call_th (kk := 1) hnc C M ok hT hN (n := 2) ?_ rfl (by decide) (fun Hm Mm => ?_)
    · show p_X11_put (some B) (I z) (I (c : Int)) (hI H (zI H)) = _
      simp only [p_X11_put, z_b, z_rt, ite_ap, x_gR C.1 5 (by decide), vr5, g6, isIn_eq, e2]
      rw [if_neg q, if_neg (fun y => y rfl)]; rfl
    · obtain ⟨H2, p1, p2, p3, p4⟩ := refM 1 (Or.inl rfl) Hm Mm
      refine ⟨H2, 0, ?_, p2, p3, p4⟩
      rw [mput]
      simp only [p_X12_put_b36, z_b, ite_ap, m32 Hm Mm, min_eq, e2]
      rw [if_neg q, if_neg (fun y => y rfl)]
      exact p1
theorem call_take (S : ST H B nc (dw, sl, rs, al, os, bs, ig, tl, sy, dr, t)) (hnc : nc < 512) (x : Int32) : Call H B nc (p_L_take (some B) x (some (B + 141))) (p_X12_take (some (B + 95)) x) := by
  obtain ⟨⟨lo, lb, li, wl, C⟩, M, ok, hT, hN⟩ := S
  obtain ⟨z, rfl, hz⟩ := int_of x
  have cc := C.2.2.2.1
  have F : FoC (zI H) (B + 48) (arL (B + 48)) t := cc.2.2.2.2.2.2.1
  have ht := F.1.2.1
  have hs := ok.2.2.2.2.2.2.1
  have n1 : ¬ ((1 : Int32) = 0) := by decide
  have e1 : I (t.length : Int) - 1 = I ((t.length : Int) - 1) := by rw [show (1 : Int32) = I 1 from rfl, I_sub]
  have e2 : ((0 : Int32) ≤ I z ∧ I z ≤ I ((t.length : Int) - 1)) ↔ (0 ≤ z ∧ z < t.length) := by
    rw [lit, I_le (by decide) (by omega), I_le (by omega) (by omega)]; omega
  have refM : ∀ Hm, MS Hm B dw sl rs al os bs ig tl sy dr t → ∃ H2, p_X12_take_b20 (some (B + 95)) (I z) (some (B + 95)) 1 Hm = some (0, H2) ∧ KM Hm H2 B ∧ MS H2 B dw sl rs al os bs ig tl sy dr t ∧ zI H2 (B + 95) 58 = 1 := fun Hm Mm => by
    have m := Mm.1.1
    refine ⟨hM Hm (zu (zI Hm) (B + 95) 58 1) (zL Hm), ?_, KM.pI _ _, Mm.pI (Or.inl rfl), zu_same _ _ _ _⟩
    have g1 : ¬ (1 : Int32) ≤ 0 := by decide
    show p_X12_take_b20 _ _ _ _ (hM Hm (zI Hm) (zL Hm)) = _
    simp only [p_X12_take_b20, z_b, z_rt, ite_ap, m_pI m, m_gI m, zu_same, g1, if_false]
  have m32 : ∀ Hm, MS Hm B dw sl rs al os bs ig tl sy dr t → z_gI 13 32 (some (B + 95)) Hm = some (I t.length, Hm) := fun Hm Mm => (m_gI (f := zI Hm) (g := zL Hm) Mm.1.1 32).trans (by rw [Mm.2.2.2.2.2.2.2.2.2.2.2.1.1]; rfl)
  have vr5 : ∀ (α : Type) (k : ZM α) (f : FI), z_vr 10 (some (B + cRf 5)) k (hI H f) = k (hI H f) := fun α k f => o_vr C.1.ot k
  have vr6 : ∀ (α : Type) (k : ZM α) (f : FI), z_vr 10 (some (B + cRf 6)) k (hI H f) = k (hI H f) := fun α k f => o_vr C.1.ob k
  have g6 : p_X9_size (some (B + cRf 5)) (hI H (zI H)) = some (I t.length, hI H (zI H)) := by
    have gi : z_gI 10 6 (some (B + cRf 5)) (hI H (zI H)) = some (I t.length, hI H (zI H)) := (o_gI C.1.ot 6).trans (by rw [F.1.1])
    simp only [p_X9_size, z_b, z_rt, gi]
  by_cases q : 0 ≤ z ∧ z < t.length
  · obtain ⟨p, rfl⟩ : ∃ i : Nat, z = i := ⟨z.toNat, by omega⟩
    have hp : p < t.length := by omega
    have hs' := remT_sg (p := p) hs
    obtain ⟨f1, f2, f', p1, p2, p3, p4, p5⟩ := cedit C ok hs' (ed := p_X9_removeSign (some (B + 48)) (I p)) (fun f T W => rem_eq C.1.ot T hp)
    have ok' : AbOk dw sl rs os bs ig sy dr (remT t p) (nc + 1) := by
      have u := ok.up hnc
      exact ⟨u.1, u.2.1, u.2.2.1, u.2.2.2.1, u.2.2.2.2.1, u.2.2.2.2.2.1, hs', u.2.2.2.2.2.2.2⟩
    refine call_ok (H1 := hI H f') (v := I (chkF (remT t p) t)) rfl hnc C M hT hN ?_ p5 p4 ok' (fun Hm Mm => ?_)
    · have p1' : p_X9_becomeLike (some (B + cRf 6)) (some (B + cRf 5)) (hI H (zI H)) = some ((), hI H f1) := p1
      have p2' : p_X9_removeSign (some (B + cRf 5)) (I p) (hI H f1) = some ((), hI H f2) := p2
      show p_X11_take (some B) (I (p : Int)) (hI H (zI H)) = some (Sum.inl _, _)
      simp only [p_X11_take, z_b, z_rt, ite_ap, x_gR C.1 5 (by decide), vr5, g6, e1, isIn_eq, e2]
      rw [if_pos q, if_pos n1]
      simp only [x_gR C.1 6 (by decide), x_gR C.1 5 (by decide), vr6, p1', vr5, p2', x_vr C.1, p3, z_xrt]
    · have m := Mm.1.1
      have M0 : MS (hM Hm (zu (zI Hm) (B + 95) 58 0) (zL Hm)) B dw sl rs al os bs ig tl sy dr t := Mm.pI (Or.inl rfl)
      have T0 : TxM (zu (zI Hm) (B + 95) 58 0) (arM B) (B + 95) t := M0.2.2.2.2.2.2.2.2.2.2.2.1
      obtain ⟨fa, a1, a2, a3, a4⟩ := mrem_eq (h := Hm) (g := zL Hm) m T0
      have T1 : TxM fa (arM B) (B + 95) t := T0.fr a4 m (by decide) (by decide) (by decide)
      have F2 : MFr fa (zu fa (B + 95) 32 (I ((t.length - 1 : Nat) : Int))) (zL Hm) (zL Hm) (arM B) (B + 95) [32] [] := MFr.pI 32 _ (by simp)
      have a33 : zu fa (B + 95) 32 (I ((t.length - 1 : Nat) : Int)) (arM B 33) = fa (arM B 33) := zu_ne (m.2.1 33 (by decide)).2.2 _ _
      have a55 : zu fa (B + 95) 32 (I ((t.length - 1 : Nat) : Int)) (arM B 55) = fa (arM B 55) := zu_ne (m.2.1 55 (by decide)).2.2 _ _
      obtain ⟨fb, gb, b1, b2, b3, b4⟩ := take48 (h := Hm) m (zL Hm) (p := p) (t := t) hp ht hs (b := t) hs ht (t.length - 1 - p) p zFuel (zu fa (B + 95) 32 (I ((t.length - 1 : Nat) : Int))) (by omega) (Nat.le_refl _) (by unfold zFuel; omega) (zu_same _ _ _ _) ⟨by rw [zu_cell, if_neg (by decide)]; exact a2, fun i c hc => by rw [a55]; exact a3 i c hc⟩ (fun i h1 => by rw [a33]; exact T1.2.2 i _ (getD_some (by omega))) (fun i h1 h2 => absurd h1 (by omega)) (fun i h1 h2 => by rw [a33]; exact T1.2.2 i _ (getD_some h2))
      have FF : MFr (zu (zI Hm) (B + 95) 58 0) fb (zL Hm) gb (arM B) (B + 95) [32, 56, 40] [33, 55, 41, 42, 43, 44, 57] := ((a4.mono (by simp) (by simp)).trans (F2.mono (by simp) (by simp))).trans (b4.mono (by simp) (by simp))
      refine ⟨hM Hm fb gb, ?_, (KM.pI 58 0).trans (KM.mk_ (H := hM Hm (zu (zI Hm) (B + 95) 58 0) (zL Hm)) m FF (by decide)), ⟨Mm.1, MC.tx (ss := []) (as := []) Mm.1 M0.2 FF b2⟩, ?_⟩
      · have g00 : (0 : Int32) ≤ 0 := by decide
        have es : I (t.length : Int) - 1 = I ((t.length - 1 : Nat) : Int) := by rw [show (1 : Int32) = I ((1 : Nat) : Int) from rfl, I_sn _ _ (by omega)]
        simp only [p_X12_take, z_b, ite_ap, m32 Hm Mm, e1, min_eq, e2]
        rw [if_pos q, if_neg n1]
        show p_X12_take_b20 _ _ _ _ (hM Hm (zI Hm) (zL Hm)) = _
        simp only [p_X12_take_b20, z_b, ite_ap, m_pI m, m_gI m, zu_same, g00, if_true, m_vr m, a1, T1.1, es]
        exact b1
      · show fb (B + 95) 58 = 0
        rw [(FF.1 58 (by decide)).1, zu_same]
  · refine call_th (kk := 1) hnc C M ok hT hN (n := 2) ?_ rfl (by decide) (fun Hm Mm => ?_)
    · show p_X11_take (some B) (I z) (hI H (zI H)) = _
      simp only [p_X11_take, z_b, z_rt, ite_ap, x_gR C.1 5 (by decide), vr5, g6, e1, isIn_eq, e2]
      rw [if_neg q, if_neg (fun y => y rfl)]; rfl
    · obtain ⟨H2, p1, p2, p3, p4⟩ := refM Hm Mm
      refine ⟨H2, 0, ?_, p2, p3, p4⟩
      simp only [p_X12_take, z_b, ite_ap, m32 Hm Mm, e1, min_eq, e2]
      rw [if_neg q, if_pos rfl]
      exact p1
end
