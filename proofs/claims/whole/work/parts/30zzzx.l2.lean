section
variable {H H' H1 : ZH} {B nc : Nat} {f f' : FI} {g g' : FL} {dw dw' : Wd} {sl sl' : List St} {rs rs' : List Ru} {al al' : Nat → Nat → Bool} {os bs ig os' bs' ig' : List Ow} {tl tl' : Nat → Nat} {sy sy' : List Sty} {dr dr' : List It} {t t' : List Nat} {lo lb li lo' lb' li' : Bk} {wl wl' : List Wd} {us : List (List Nat)}
theorem RaM.frm {ss as : List Nat} {R : Nat → Nat} (S : MSh H B) (r : RaM f g (arM B) (B + 95) t R tl sy) (F : MFr f f' g g' (arM B) (B + 95) ss as) (h40 : 40 ∉ ss) (h : ∀ j ∈ [41, 42, 43, 44, 45, 46, 47, 48], j ∉ as) (h3 : ∀ i ∈ as, (mSz i).1 ≠ 0) : RaM f' g' (arM B) (B + 95) t R tl sy := by
  refine ⟨r.1.fr F S.1 h40 (h 41 (by decide)) (h 42 (by decide)) (h 43 (by decide)) (h 44 (by decide)) h3, fun i hi => ?_⟩
  rw [(F.at_ S.1 (j := 45) (by decide) (h 45 (by decide)) h3).1, (F.at_ S.1 (j := 46) (by decide) (h 46 (by decide)) h3).1, (F.at_ S.1 (j := 47) (by decide) (h 47 (by decide)) h3).1, (F.at_ S.1 (j := 48) (by decide) (h 48 (by decide)) h3).1]
  exact r.2 i hi
/-- a word becomes another one: the reference -/
theorem mword (S : MSh H B) (T : TxM f (arM B) (B + 95) t) (W : WsM f g (arM B) (B + 95) (wsOf t)) {j : Nat} (hj : j < (wsOf t).length) {w : Wd} (hw : WdOk w) :
    ∃ f', p_X12_changes (some (B + 95)) (I j) (J (mN w)) (hM H f g) = some (bO (chT t j w), hM H f' g) ∧ TxM f' (arM B) (B + 95) ((chT t j w).getD t) ∧ MFr f f' g g (arM B) (B + 95) [32, 56] [33, 55] := by
  have w50 := ws_100 T.2.1
  obtain ⟨w0, v1, v2, v3, v4, v5, v6⟩ := ws_at hj
  have vin : w0.1 + w0.2.1.length ≤ t.length := ((scan_ok t).2.2.2.1 j w0 v1).2.2.1
  have vd : (wsOf t).getD j (0, [], 0) = w0 := by rw [List.getD_eq_getElem?_getD, v1]; rfl
  obtain ⟨c1, c2⟩ := chg_eq (h := H) S.1 T W v1 (show j < 101 by omega) vin hw.1 hw.2.2
  by_cases q : t.length - w0.2.1.length + w.length ≤ 100
  · have ec : chT t j w = some (repT t w0.1 w0.2.1.length w) := by unfold chT; rw [v2, vd, if_pos q]
    obtain ⟨f', p1, p2, p3⟩ := c1 q
    rw [ec]
    exact ⟨f', p1, p2, p3⟩
  · have ec : chT t j w = none := by unfold chT; rw [v2, vd, if_neg q]
    rw [ec]
    exact ⟨f, c2 q, T, MFr.refl _ _ _ _ _ _⟩
/-- the styles: the reference -/
theorem mch55 (S : MSh H B) (ok : AbOk dw sl rs os bs ig sy dr t nc) (T : TxM f (arM B) (B + 95) t) (Y : SyM f g (arM B) (B + 95) sy) (R : RaM f g (arM B) (B + 95) t (Rof rs sl lo lb t) tl sy) :
    ∀ (c i n : Nat), i + c = (wsOf t).length → c < n →
      ∃ f', p_X12_correctsOnce_l55 n (some (B + 95)) (I i) (hM H f g) = some (bO (coS sy t (fiS (Tof rs sl lo lb tl sy t) c i)), hM H f' g) ∧ TxM f' (arM B) (B + 95) ((coS sy t (fiS (Tof rs sl lo lb tl sy t) c i)).getD t) ∧ MFr f f' g g (arM B) (B + 95) [32, 56] [33, 55] := by
  have m := S.1
  have ht := T.2.1
  have w50 := ws_100 ht
  intro c
  induction c with
  | zero =>
    intro i n hi hn
    obtain ⟨n, rfl⟩ := Nat.exists_eq_add_of_lt hn
    have e1 : I ((wsOf t).length : Int) ≤ I (i : Int) := by rw [I_le (by omega) (by omega)]; omega
    refine ⟨f, ?_, T, MFr.refl _ _ _ _ _ _⟩
    show p_X12_correctsOnce_c55 _ _ _ _ = _
    simp only [p_X12_correctsOnce_c55, z_b, z_rz, ite_ap, m_gI m, R.1.1, e1, if_true, true_or]
    rfl
  | succ c ih =>
    intro i n hi hn
    cases n with
    | zero => exact absurd hn (Nat.not_lt_zero _)
    | succ n =>
      have e1 : ¬ I ((wsOf t).length : Int) ≤ I (i : Int) := by rw [I_le (by omega) (by omega)]; omega
      have e2 : I (i : Int) + 1 = I ((i + 1 : Nat) : Int) := I_add _ 1
      have v48 : f (arM B 48) i = I (tk1 (Tof rs sl lo lb tl sy t i)) := (R.2 i (by omega)).2.2.2
      cases hk : Tof rs sl lo lb tl sy t i with
      | none =>
        obtain ⟨f', p1, p2, p3⟩ := ih (i + 1) n (by omega) (by omega)
        have ef : fiS (Tof rs sl lo lb tl sy t) (c + 1) i = fiS (Tof rs sl lo lb tl sy t) c (i + 1) := by
          show (match Tof rs sl lo lb tl sy t i with | none => _ | some r => _) = _
          rw [hk]
        rw [ef]
        refine ⟨f', ?_, p2, p3⟩
        rw [← p1]
        rw [hk] at v48
        have z0 : I ((tk1 none : Nat) : Int) ≤ 0 := by decide
        show p_X12_correctsOnce_c55 (p_X12_correctsOnce_l55 n) _ _ _ = _
        simp only [p_X12_correctsOnce_c55, z_b, z_n, ite_ap, m_gI m, R.1.1, e1, if_false, m_gR m 48 (by decide), m_aI m 48 101 (by decide) (show i < 101 by omega) (by decide), v48, z0, if_true, e2]
      | some r =>
        obtain ⟨s, x1, x2, x3, x4, x5⟩ := low_fit (tof_lt hk)
        obtain ⟨⟨y1, y2, y3, y4⟩, t3⟩ := Y.2.2 r s x1
        have bn1 : bnT t i ≤ (wsOf t).length := (sn_ok t ht i (by omega)).2.1
        have hj : i + s.2.1 < (wsOf t).length := by have := t3.2.2.1; omega
        have r8 : r < 8 := by have := Y.2.1; omega
        have ef : coS sy t (fiS (Tof rs sl lo lb tl sy t) (c + 1) i) = chT t (i + s.2.1) s.2.2 := by
          have : fiS (Tof rs sl lo lb tl sy t) (c + 1) i = some (i, r) := by
            show (match Tof rs sl lo lb tl sy t i with | none => _ | some r => _) = _
            rw [hk]
          rw [this]
          show chT t (i + (sy.getD r ([], 0, [])).2.1) (sy.getD r ([], 0, [])).2.2 = _
          rw [x5]
        rw [ef]
        obtain ⟨f', p1, p2, p3⟩ := mword S T R.1 hj t3.2.2.2.1
        refine ⟨f', ?_, p2, p3⟩
        rw [hk] at v48
        have z0 : ¬ I ((tk1 (some r) : Nat) : Int) ≤ 0 := by
          show ¬ I ((r + 1 : Nat) : Int) ≤ 0
          rw [lit, I_le (by omega) (by decide)]; omega
        have e3 : I ((tk1 (some r) : Nat) : Int) - 1 = I (r : Int) := by
          show I ((r + 1 : Nat) : Int) - I ((1 : Nat) : Int) = _
          rw [I_sn _ _ (by omega), Nat.add_sub_cancel]
        have e4 : I (i : Int) + I (s.2.1 : Int) = I ((i + s.2.1 : Nat) : Int) := I_an _ _
        have rz : ∀ h, z_rz (bO (chT t (i + s.2.1) s.2.2)) h = some (bO (chT t (i + s.2.1) s.2.2), h) := fun h => by
          cases chT t (i + s.2.1) s.2.2 <;> rfl
        show p_X12_correctsOnce_c55 (p_X12_correctsOnce_l55 n) _ _ _ = _
        simp only [p_X12_correctsOnce_c55, p_X12_correctsOnce_b72, z_b, ite_ap, m_gI m, R.1.1, e1, if_false, m_gR m 48 (by decide), m_aI m 48 101 (by decide) (show i < 101 by omega) (by decide), v48, z0, m_gR m 30 (by decide), m_gR m 31 (by decide), e3, m_aI m 30 9 (by decide) (show r < 9 by omega) (by decide), m_aL m 31 9 (by decide) (show r < 9 by omega) (by decide), y2, y3, e4, m_vr m, p1, rz]
/-- the words that are not right: the reference -/
theorem mch6 (S : MSh H B) (ok : AbOk dw sl rs os bs ig sy dr t nc) (Ro : OwR lo os) (Rb : OwR lb bs) (hW : BkW (sugO lo (sugM lb (madeOf rs sl []) [])) wl) (hl : ∀ i, (Sug wl al t i).length ≤ 1558) :
    ∀ (c i n : Nat) (f : FI) (g : FL), i + c = (wsOf t).length → c < n → MC f g B dw sl rs al os bs ig tl sy dr t → RaM f g (arM B) (B + 95) t (Rof rs sl lo lb t) tl sy → (f (B + 95) 34 = 1 ∧ TC f g (arM B) (B + 95) (madeOf rs sl [])) →
      ∃ f' g', p_X12_correctsOnce_l6 n (some (B + 95)) (I i) (hM H f g) = some (bO (coW t (coS sy t (fiS (Tof rs sl lo lb tl sy t) (wsOf t).length 0)) (fiW (Rof rs sl lo lb t) (Sug wl al t) c i)), hM H f' g') ∧
        TxM f' (arM B) (B + 95) ((coW t (coS sy t (fiS (Tof rs sl lo lb tl sy t) (wsOf t).length 0)) (fiW (Rof rs sl lo lb t) (Sug wl al t) c i)).getD t) ∧ MFr f f' g g' (arM B) (B + 95) [32, 52, 56] [33, 50, 51, 53, 54, 55] := by
  have m := S.1
  intro c
  induction c with
  | zero =>
    intro i n f g hi hn m0 R TT
    have T : TxM f (arM B) (B + 95) t := m0.2.2.2.2.2.2.2.2.2.2.1
    have w50 := ws_100 T.2.1
    obtain ⟨n, rfl⟩ := Nat.exists_eq_add_of_lt hn
    have e1 : I ((wsOf t).length : Int) ≤ I (i : Int) := by rw [I_le (by omega) (by omega)]; omega
    obtain ⟨f', p1, p2, p3⟩ := mch55 (g := g) S ok T m0.2.2.2.2.2.2.2.2.1 R (wsOf t).length 0 zFuel (by omega) (by unfold zFuel; omega)
    refine ⟨f', g, ?_, p2, p3.mono (by simp) (by simp)⟩
    have p1' : p_X12_correctsOnce_l55 zFuel (some (B + 95)) 0 (hM H f g) = some (bO (coS sy t (fiS (Tof rs sl lo lb tl sy t) (wsOf t).length 0)), hM H f' g) := p1
    show p_X12_correctsOnce_c6 _ _ _ _ = _
    simp only [p_X12_correctsOnce_c6, p_X12_correctsOnce_b53, z_b, ite_ap, m_gI m, R.1.1, e1, if_true, p1']
    rfl
  | succ c ih =>
    intro i n f g hi hn m0 R TT
    cases n with
    | zero => exact absurd hn (Nat.not_lt_zero _)
    | succ n =>
      have T : TxM f (arM B) (B + 95) t := m0.2.2.2.2.2.2.2.2.2.2.1
      have w50 := ws_100 T.2.1
      have hi' : i < (wsOf t).length := by omega
      have e1 : ¬ I ((wsOf t).length : Int) ≤ I (i : Int) := by rw [I_le (by omega) (by omega)]; omega
      have e2 : I (i : Int) + 1 = I ((i + 1 : Nat) : Int) := I_add _ 1
      have v45 : f (arM B 45) i = I (Rof rs sl lo lb t i) := (R.2 i hi').1
      obtain ⟨w, w1, w2, w3, w4, w5, w6⟩ := ws_at hi'
      have hR : Rof rs sl lo lb t i < 256 := by
        show rdW _ _ _ (wdT t i) < 256
        rw [w2]; exact rdW_lt Ro w4 w5
      have r0 : (I (Rof rs sl lo lb t i : Int) = 0) ↔ Rof rs sl lo lb t i = 0 := I_eqN (k := 0) (by omega) (by decide)
      by_cases q : Rof rs sl lo lb t i = 0
      · have v0 : f (arM B 45) i = 0 := v45.trans (r0.mpr q)
        obtain ⟨b1, b2, b3⟩ := wl_of ok Ro Rb hW
        have A : AlM f (arM B) al := m0.2.2.2.1
        obtain ⟨f1, g1, p1, p2, p3⟩ := su_eq (h := H) m (made_le ok) Ro Rb ok.2.2.2.1.2.2.1 b1 b2 b3 w1 (f := f) (g := g) TT.2 m0.2.2.2.2.1 m0.2.2.2.2.2.1 A T R.1
        rw [← w2] at p2
        have p2' : FoM f1 g1 (arM B) (B + 95) (Sug wl al t i) := p2
        have tb : f1 (B + 95) 34 = 1 ∧ TC f1 g1 (arM B) (B + 95) (madeOf rs sl []) := ⟨by rw [(p3.1 34 (by decide)).1]; exact TT.1, TT.2.frM p3 m (by decide) (by decide) (by decide) (by decide) (by decide) (by decide)⟩
        have m1 : MC f1 g1 B dw sl rs al os bs ig tl sy dr t := m0.frame S p3 (by decide) (by decide) (by decide) (Or.inl tb)
        have R1 := R.frm S p3 (by decide) (by decide) (by decide)
        have T1 : TxM f1 (arM B) (B + 95) t := m1.2.2.2.2.2.2.2.2.2.2.1
        have l2 := hl i
        cases hk : Sug wl al t i with
        | nil =>
          obtain ⟨f', g', x1, x2, x3⟩ := ih (i + 1) n f1 g1 (by omega) (by omega) m1 R1 tb
          have ef : fiW (Rof rs sl lo lb t) (Sug wl al t) (c + 1) i = fiW (Rof rs sl lo lb t) (Sug wl al t) c (i + 1) := by
            show (if Rof rs sl lo lb t i = 0 then (match Sug wl al t i with | [] => _ | e :: _ => _) else _) = _
            rw [if_pos q, hk]
          rw [ef]
          refine ⟨f', g', ?_, x2, (p3.mono (by simp) (by simp)).trans x3⟩
          rw [← x1]
          have c0 : I ((Sug wl al t i).length : Int) ≤ 0 := by rw [hk]; decide
          show p_X12_correctsOnce_c6 (p_X12_correctsOnce_l6 n) _ _ _ = _
          simp only [p_X12_correctsOnce_c6, p_X12_correctsOnce_b47, z_b, z_n, ite_ap, m_gI m, R.1.1, e1, if_false, m_gR m 45 (by decide), m_aI m 45 101 (by decide) (show i < 101 by omega) (by decide), v0, not_true_eq_false, m_vr m, p1, p2'.1, c0, if_true, e2]
        | cons e es =>
          have he : (Sug wl al t i)[0]? = some e := by rw [hk]; rfl
          have we := sug_wd (al := al) (t := t) hW he
          have g53 := (p2'.2 0 e he).1
          have ef : fiW (Rof rs sl lo lb t) (Sug wl al t) (c + 1) i = some (i, e.2) := by
            show (if Rof rs sl lo lb t i = 0 then (match Sug wl al t i with | [] => _ | e :: _ => _) else _) = _
            rw [if_pos q, hk]
          rw [ef]
          show ∃ f' g', _ = some (bO (chT t i e.2), _) ∧ TxM f' (arM B) (B + 95) ((chT t i e.2).getD t) ∧ _
          obtain ⟨f', x1, x2, x3⟩ := mword (g := g1) S T1 R1.1 hi' we
          refine ⟨f', g1, ?_, x2, (p3.mono (by simp) (by simp)).trans (x3.mono (by simp) (by simp))⟩
          have rz : ∀ h, z_rz (bO (chT t i e.2)) h = some (bO (chT t i e.2), h) := fun h => by
            cases chT t i e.2 <;> rfl
          have c0 : ¬ I ((Sug wl al t i).length : Int) ≤ 0 := by
            rw [lit, I_le (by omega) (by decide)]
            have : 0 < (Sug wl al t i).length := by rw [hk]; exact Nat.succ_pos _
            omega
          have a53 : z_aL (some (arM B 53)) 0 (hM H f1 g1) = some (g1 (arM B 53) 0, hM H f1 g1) := m_aL m 53 8200 (by decide) (i := 0) (by decide) (by decide)
          show p_X12_correctsOnce_c6 (p_X12_correctsOnce_l6 n) _ _ _ = _
          simp only [p_X12_correctsOnce_c6, p_X12_correctsOnce_b35, z_b, z_n, ite_ap, m_gI m, R.1.1, e1, if_false, m_gR m 45 (by decide), m_aI m 45 101 (by decide) (show i < 101 by omega) (by decide), v0, not_true_eq_false, m_vr m, p1, p2'.1, c0, m_gR m 53 (by decide), a53, g53, x1, rz]
      · have v0 : ¬ f (arM B 45) i = 0 := fun z => q (r0.mp (v45.symm.trans z))
        obtain ⟨f', g', x1, x2, x3⟩ := ih (i + 1) n f g (by omega) (by omega) m0 R TT
        have ef : fiW (Rof rs sl lo lb t) (Sug wl al t) (c + 1) i = fiW (Rof rs sl lo lb t) (Sug wl al t) c (i + 1) := by
          show (if Rof rs sl lo lb t i = 0 then (match Sug wl al t i with | [] => _ | e :: _ => _) else _) = _
          rw [if_neg q]
        rw [ef]
        refine ⟨f', g', ?_, x2, x3⟩
        rw [← x1]
        show p_X12_correctsOnce_c6 (p_X12_correctsOnce_l6 n) _ _ _ = _
        simp only [p_X12_correctsOnce_c6, p_X12_correctsOnce_b47, z_b, z_n, ite_ap, m_gI m, R.1.1, e1, if_false, m_gR m 45 (by decide), m_aI m 45 101 (by decide) (show i < 101 by omega) (by decide), v0, not_false_eq_true, if_true, e2]
/-- the reference's state with another text -/
theorem MC.tx2 (S : MSh H B) (m : MC f g B dw sl rs al os bs ig tl sy dr t) (F : MFr f f' g g' (arM B) (B + 95) [32, 52, 56] [33, 50, 51, 53, 54, 55]) (T : TxM f' (arM B) (B + 95) t') : MC f' g' B dw sl rs al os bs ig tl sy dr t' := by
  obtain ⟨k1, k2, k3, k4, k5, k6, k7, k8, k9, k10, k11, k12⟩ := MC.comps S m F (by decide)
  exact ⟨k1 (by decide), k2 (by decide) (by decide), k3 (by decide) (by decide), k4 (by decide), k5 (by decide) (by decide), k6 (by decide) (by decide), k7 (by decide) (by decide), k8 (by decide), k9 (by decide) (by decide), k10 (by decide), T, k12 (by decide) (by decide) (by decide)⟩
theorem arM_mem {b j : Nat} {as : List Nat} (hj : (mSz j).1 ≠ 0) (h3 : ∀ i ∈ as, (mSz i).1 ≠ 0) (hn : j ∉ as) : arM b j ∉ as.map (arM b) := fun q => by
  obtain ⟨i, i1, i2⟩ := List.mem_map.mp q
  have a := (mSz_fl j (mSz_lt hj) hj).2
  have c := (mSz_fl i (mSz_lt (h3 i i1)) (h3 i i1)).2
  have : mIx i = mIx j := by unfold arM at i2; omega
  rw [this, a] at c
  exact hn (c ▸ i1)
/-- one change: the reference -/
theorem mch (S : MSh H B) (ok : AbOk dw sl rs os bs ig sy dr t nc) (Ro : OwR lo os) (Rb : OwR lb bs) (hW : BkW (sugO lo (sugM lb (madeOf rs sl []) [])) wl) (hl : ∀ i, (Sug wl al t i).length ≤ 1558) {f : FI} {g : FL} (m0 : MC f g B dw sl rs al os bs ig tl sy dr t) :
    ∃ f' g', p_X12_correctsOnce (some (B + 95)) (hM H f g) = some (bO (nxT rs sl al lo lb tl sy wl t), hM H f' g') ∧ MC f' g' B dw sl rs al os bs ig tl sy dr ((nxT rs sl al lo lb tl sy wl t).getD t) ∧ MFr f f' g g' (arM B) (B + 95) [32, 34, 35, 40, 52, 56] [33, 36, 37, 38, 39, 41, 42, 43, 44, 45, 46, 47, 48, 49, 50, 51, 53, 54, 55] := by
  have m := S.1
  obtain ⟨m1, m2, m3, m4, m5, m6, m7, m8, m9, m10, m11, m12⟩ := m0
  obtain ⟨f1, g1, p1, p2, p3, p4, p5⟩ := reads_eq (h := H) (f := f) (g := g) m (made_le ok) Ro Rb m3 m2 m12 m5 m6 m11 ok.2.2.2.2.2.2.1 m8 m9
  have mc1 : MC f1 g1 B dw sl rs al os bs ig tl sy dr t := MC.frame S ⟨m1, m2, m3, m4, m5, m6, m7, m8, m9, m10, m11, m12⟩ p5 (by decide) (by decide) (by decide) (Or.inl ⟨p3, p4⟩)
  obtain ⟨f', g', x1, x2, x3⟩ := mch6 S ok Ro Rb hW hl (wsOf t).length 0 zFuel f1 g1 (by omega) (by have := ws_100 m11.2.1; unfold zFuel; omega) mc1 p2 ⟨p3, p4⟩
  refine ⟨f', g', ?_, MC.tx2 S mc1 x3 x2, (p5.mono (by simp) (by simp)).trans (x3.mono (by simp) (by simp))⟩
  have x1' : p_X12_correctsOnce_l6 zFuel (some (B + 95)) 0 (hM H f1 g1) = some (bO (nxT rs sl al lo lb tl sy wl t), hM H f' g') := x1
  simp only [p_X12_correctsOnce, z_b, m_vr m, p1, x1']
/-- all changes: the reference -/
theorem mcor12 (S : MSh H B) (Ro : OwR lo os) (Rb : OwR lb bs) (hW : BkW (sugO lo (sugM lb (madeOf rs sl []) [])) wl) (hl : ∀ t i, (Sug wl al t i).length ≤ 1558) (hnx : ∀ t, (∀ d ∈ t, isSg d) → t.length ≤ 100 → ∀ d ∈ (nxT rs sl al lo lb tl sy wl t).getD t, isSg d) :
    ∀ (c k n : Nat) (t : List Nat) (us : List (List Nat)) (f : FI) (g : FL), k + c = 20 → c < n → us.length = k + 1 → UsOk us → AbOk dw sl rs os bs ig sy dr t nc → MC f g B dw sl rs al os bs ig tl sy dr t → HiM f (arM B) us →
      ∃ f' g', p_X12_correct_l12 n (some (B + 95)) (I ((k + 1 : Nat) : Int)) (hM H f g) = some (I (coL (nxT rs sl al lo lb tl sy wl) c us t).1, hM H f' g') ∧ MC f' g' B dw sl rs al os bs ig tl sy dr (coL (nxT rs sl al lo lb tl sy wl) c us t).2 ∧ ∀ b, b < B + 95 ∨ B + 141 ≤ b → f' b = f b ∧ g' b = g b := by
  have m := S.1
  have fr0 : ∀ {f f' : FI} {g g' : FL} {ss as : List Nat}, MFr f f' g g' (arM B) (B + 95) ss as → (∀ i ∈ as, (mSz i).1 ≠ 0) → ∀ b, b < B + 95 ∨ B + 141 ≤ b → f' b = f b ∧ g' b = g b := by
    intro f f' g g' ss as F h3 b hb
    refine F.2 b (by omega) (fun q => ?_)
    obtain ⟨j, j1, j2⟩ := List.mem_map.mp q
    have := arM_in (B := B) (h3 j j1)
    omega
  intro c
  induction c with
  | zero =>
    intro k n t us f g hk hn hu ul ok m0 A
    obtain ⟨n, rfl⟩ := Nat.exists_eq_add_of_lt hn
    have e1 : (20 : Int32) < I ((k + 1 : Nat) : Int) := by rw [lit, I_lt (by decide) (by omega)]; omega
    refine ⟨f, g, ?_, m0, fun _ _ => ⟨rfl, rfl⟩⟩
    show p_X12_correct_c12 _ _ _ _ = some (I ((us.length : Int) - 1), _)
    rw [hu, show ((k + 1 : Nat) : Int) - 1 = 20 by omega]
    simp only [p_X12_correct_c12, z_rt, ite_ap, e1, if_true]
    rfl
  | succ c ih =>
    intro k n t us f g hk hn hu ul ok m0 A
    cases n with
    | zero => exact absurd hn (Nat.not_lt_zero _)
    | succ n =>
      have e1 : ¬ (20 : Int32) < I ((k + 1 : Nat) : Int) := by rw [lit, I_lt (by decide) (by omega)]; omega
      have n1 : ¬ ((1 : Int32) = 0) := by decide
      have T : TxM f (arM B) (B + 95) t := m0.2.2.2.2.2.2.2.2.2.2.1
      obtain ⟨f1, g1, p1, p2, p3⟩ := mch S ok Ro Rb hW (hl t) m0
      have A1 : HiM f1 (arM B) us := A.congr (p3.at_ m (j := 57) (by decide) (by decide) (by decide)).1
      have hg := hnx t ok.2.2.2.2.2.2.1 T.2.1
      cases hx : nxT rs sl al lo lb tl sy wl t with
      | none =>
        rw [hx] at p1 p2
        have ec : coL (nxT rs sl al lo lb tl sy wl) (c + 1) us t = ((us.length : Int) - 1, t) := by
          show (match nxT rs sl al lo lb tl sy wl t with | none => _ | some t' => _) = _
          rw [hx]
        rw [ec]
        refine ⟨f1, g1, ?_, p2, fr0 p3 (by decide)⟩
        show p_X12_correct_c12 (p_X12_correct_l12 n) _ _ _ = some (I ((us.length : Int) - 1), _)
        have e3 : I ((k + 1 : Nat) : Int) - 1 = I (((k + 1 : Nat) : Int) - 1) := by rw [show (1 : Int32) = I 1 from rfl, I_sub]
        rw [hu]
        simp only [p_X12_correct_c12, p_X12_correct_b25, z_b, z_rt, ite_ap, e1, if_false, m_vr m, p1, bO, not_true_eq_false, e3]
      | some t' =>
        rw [hx] at p1 p2 hg
        have p2' : MC f1 g1 B dw sl rs al os bs ig tl sy dr t' := p2
        have hg' : ∀ d ∈ t', isSg d := hg
        have T1 : TxM f1 (arM B) (B + 95) t' := p2'.2.2.2.2.2.2.2.2.2.2.1
        have c31 := cor31 (h := H) (g := g1) m (p_X12_correct_l12 n) T1 hg' (by omega) ul A1 us.length 0 zFuel (by omega) (by unfold zFuel; omega)
        rw [List.drop_zero] at c31
        have c31' : p_X12_correct_l31 (p_X12_correct_l12 n) zFuel (some (B + 95)) (I ((k + 1 : Nat) : Int)) 0 (hM H f1 g1) = if t' ∈ us then some (-1, hM H f1 g1) else p_X12_correct_b52 (p_X12_correct_l12 n) (some (B + 95)) (I ((k + 1 : Nat) : Int)) (hM H f1 g1) := by
          rw [← hu]; exact c31
        by_cases q : t' ∈ us
        · have ec : coL (nxT rs sl al lo lb tl sy wl) (c + 1) us t = (-1, t') := by
            show (match nxT rs sl al lo lb tl sy wl t with | none => _ | some t' => _) = _
            rw [hx]
            show (if t' ∈ us then _ else _) = _
            rw [if_pos q]
          rw [ec]
          refine ⟨f1, g1, ?_, p2', fr0 p3 (by decide)⟩
          show p_X12_correct_c12 (p_X12_correct_l12 n) _ _ _ = some (I (-1), _)
          simp only [p_X12_correct_c12, z_b, ite_ap, e1, if_false, m_vr m, p1, bO, n1, not_false_eq_true, if_true, c31', q]
          rfl
        · have ec : coL (nxT rs sl al lo lb tl sy wl) (c + 1) us t = coL (nxT rs sl al lo lb tl sy wl) c (us ++ [t']) t' := by
            show (match nxT rs sl al lo lb tl sy wl t with | none => _ | some t' => _) = _
            rw [hx]
            show (if t' ∈ us then _ else _) = _
            rw [if_neg q]
          rw [ec]
          obtain ⟨f2, k1, k2, k3⟩ := kst_eq (h := H) (g := g1) m hg' (by omega) ul T1 A1
          rw [hu] at k1
          have ul' : UsOk (us ++ [t']) := fun u hu => by
            rcases List.mem_append.mp hu with z | z
            · exact ul u z
            · rw [List.mem_singleton.mp z]; exact ⟨T1.2.1, hg'⟩
          have e2 : I ((k + 1 : Nat) : Int) + 1 = I ((k + 1 + 1 : Nat) : Int) := I_add _ 1
          have mc2 : MC f2 g1 B dw sl rs al os bs ig tl sy dr t' := by
            obtain ⟨z1, z2, z3, z4, z5, z6, z7, z8, z9, z10, z11, z12⟩ := MC.comps S p2' k3 (by decide)
            exact ⟨z1 (by decide), z2 (by decide) (by decide), z3 (by decide) (by decide), z4 (by decide), z5 (by decide) (by decide), z6 (by decide) (by decide), z7 (by decide) (by decide), z8 (by decide), z9 (by decide) (by decide), z10 (by decide), z11 (by decide) (by decide), z12 (by decide) (by decide) (by decide)⟩
          obtain ⟨f', g', y1, y2, y3⟩ := ih (k + 1) n t' (us ++ [t']) f2 g1 (by omega) (by omega) (by rw [List.length_append, hu]; rfl) ul' (ok.tx hg') mc2 k2
          refine ⟨f', g', ?_, y2, fun b hb => ?_⟩
          · rw [← y1]
            show p_X12_correct_c12 (p_X12_correct_l12 n) _ _ _ = _
            simp only [p_X12_correct_c12, p_X12_correct_b52, z_b, z_n, ite_ap, e1, if_false, m_vr m, p1, bO, n1, not_false_eq_true, if_true, c31', q, k1, e2]
          · have a1 := y3 b hb
            have a2 := fr0 k3 (by decide) b hb
            have a3 := fr0 p3 (by decide) b hb
            exact ⟨a1.1.trans (a2.1.trans a3.1), a1.2.trans (a2.2.trans a3.2)⟩
theorem fiW_some {R : Nat → Nat} {S : Nat → List (Nat × Wd)} : ∀ {c i j : Nat} {w : Wd}, fiW R S c i = some (j, w) → ∃ e, e ∈ S j ∧ e.2 = w
  | 0, _, _, _, h => by cases h
  | c + 1, i, j, w, h => by
    unfold fiW at h
    by_cases q : R i = 0
    · rw [if_pos q] at h
      cases hk : S i with
      | nil => rw [hk] at h; exact fiW_some h
      | cons e es => rw [hk] at h; cases h; exact ⟨e, by rw [hk]; exact List.mem_cons_self, rfl⟩
    · rw [if_neg q] at h; exact fiW_some h
theorem nxT_sg (hs : ∀ d ∈ t, isSg d) (hy : ∀ s ∈ sy, SyOk s) (hW : BkW (sugO lo (sugM lb (madeOf rs sl []) [])) wl) : ∀ d ∈ (nxT rs sl al lo lb tl sy wl t).getD t, isSg d := by
  unfold nxT co1
  cases hk : fiW (Rof rs sl lo lb t) (Sug wl al t) (wsOf t).length 0 with
  | none => exact coS_sg hs hy (fun i r h => tkF_lt (fiS_some h))
  | some p =>
    obtain ⟨e, e1, e2⟩ := fiW_some (show fiW (Rof rs sl lo lb t) (Sug wl al t) (wsOf t).length 0 = some (p.1, p.2) from hk)
    have we := hW.2 e.2 (catE_mem.mp e1).1
    rw [e2] at we
    exact chT_sg hs we.1
/-- correct -/
theorem call_correct (S : ST H B nc (dw, sl, rs, al, os, bs, ig, tl, sy, dr, t)) (hnc : nc < 512) : Call2 H B nc (p_X11_correct (some B)) (p_X12_correct (some (B + 95))) := by
  obtain ⟨⟨lo, lb, li, wl, C⟩, M, ok, hT, hN⟩ := S
  have cc := C.2.2.2.1
  have F : FoC (zI H) (B + 48) (arL (B + 48)) t := cc.2.2.2.2.2.2.1
  have hs := ok.2.2.2.2.2.2.1
  have ul : UsOk [t] := fun u hu => by rw [List.mem_singleton.mp hu]; exact ⟨F.1.2.1, hs⟩
  obtain ⟨f1, a1, a2, a3⟩ := hbegin_eq (h := H) (f := zI H) C.1.oh C.1.ot (d_ht B) hs F.1
  have n3 : ∀ b, b ≠ B + 74 → b ≠ B + 76 → b ≠ B + 78 → f1 b = zI H b := fun b h1 h2 h3 => a3.2 b h1 (by simp only [List.map_cons, List.map_nil, List.mem_cons, List.not_mem_nil, or_false, not_or, arL]; omega)
  have S1 : CS (hI H f1) B dw sl rs al os bs ig tl sy dr t lo lb li wl := by
    obtain ⟨s1, s2, s3, ⟨c1, c2, c3, c4, c5, c6, c7, c8, c9, c10⟩, cd⟩ := C
    refine ⟨s1, s2, s3, ⟨by rw [show zI (hI H f1) = f1 from rfl, n3 B (by omega) (by omega) (by omega)]; exact c1, c2.fr (fun a h1 h2 => n3 a (by omega) (by omega) (by omega)), c3, c4, ?_, ?_, c7.fr (fun a h1 h2 => n3 a (by omega) (by omega) (by omega)), ?_, ?_, ?_⟩, CD.fr cd (fun b hb => n3 b (fun z => hb (AA_mem.mpr (by omega))) (fun z => hb (AA_mem.mpr (by omega))) (fun z => hb (AA_mem.mpr (by omega))))⟩
    · have e : f1 (B + 26) = zI H (B + 26) := n3 _ (by omega) (by omega) (by omega)
      unfold AlC at *; rw [show zI (hI H f1) = f1 from rfl, e]; exact c5
    · have e : f1 (B + 39) = zI H (B + 39) := n3 _ (by omega) (by omega) (by omega)
      unfold ToldC at *; rw [show zI (hI H f1) = f1 from rfl, e]; exact c6
    · rw [show zI (hI H f1) = f1 from rfl, n3 _ (by omega) (by omega) (by omega), n3 _ (by omega) (by omega) (by omega)]; exact c8
    · rw [show zI (hI H f1) = f1 from rfl, n3 B (by omega) (by omega) (by omega)]
      rcases c9 with z | ⟨z1, z2⟩
      · exact Or.inl z
      · exact Or.inr ⟨z1, z2.congr (fun b h1 h2 => n3 b (by omega) (by omega) (by omega))⟩
    · rw [show zI (hI H f1) = f1 from rfl, n3 B (by omega) (by omega) (by omega)]
      rcases c10 with z | ⟨i, z1, z2, z3⟩
      · exact Or.inl z
      · exact Or.inr ⟨i, z1, z2, z3.congr (fun b h1 h2 => n3 b (by omega) (by omega) (by omega))⟩
  obtain ⟨f', b1, b2, b3, b4⟩ := ccor13 (H := H) 20 0 zFuel t [t] f1 (by omega) (by unfold zFuel; omega) rfl ul ok S1 a2
  refine call2_ok (H1 := hI H f') (v := I (coL (nxT rs sl al lo lb tl sy wl) 20 [t] t).1) hnc C M hT hN ?_ (KC.ints (fun b h1 h2 => (b3 b h1).trans (n3 b (by omega) (by omega) (by omega)))) b2 ((ok.tx b4).up hnc) (fun Hm Mm => ?_)
  · have a1' : p_X1_begin (some (B + cRf 7)) (some (B + cRf 5)) (hI H (zI H)) = some ((), hI H f1) := a1
    have b1' : p_X11_correct_l13 zFuel (some B) 0 (hI H f1) = some (I (coL (nxT rs sl al lo lb tl sy wl) 20 [t] t).1, hI H f') := b1
    have vr7 : ∀ (α : Type) (k : ZM α) (f : FI), z_vr 2 (some (B + cRf 7)) k (hI H f) = k (hI H f) := fun α k f => o_vr C.1.oh k
    show p_X11_correct (some B) (hI H (zI H)) = _
    simp only [p_X11_correct, z_b, x_gR C.1 7 (by decide), x_gR C.1 5 (by decide), vr7, a1', b1']
  · have M0 : MS (hM Hm (zu (zI Hm) (B + 95) 58 0) (zL Hm)) B dw sl rs al os bs ig tl sy dr t := Mm.pI (Or.inl rfl)
    have m := Mm.1.1
    have T0 : TxM (zu (zI Hm) (B + 95) 58 0) (arM B) (B + 95) t := M0.2.2.2.2.2.2.2.2.2.2.2.1
    obtain ⟨fa, k1, k2, k3⟩ := kst_eq (h := Hm) (f := zu (zI Hm) (B + 95) 58 0) (g := zL Hm) m hs (us := []) (Nat.zero_le _) (fun u hu => absurd hu List.not_mem_nil) T0 (fun i u hi => by cases hi)
    have mc2 : MC fa (zL Hm) B dw sl rs al os bs ig tl sy dr t := by
      obtain ⟨z1, z2, z3, z4, z5, z6, z7, z8, z9, z10, z11, z12⟩ := MC.comps Mm.1 M0.2 k3 (by decide)
      exact ⟨z1 (by decide), z2 (by decide) (by decide), z3 (by decide) (by decide), z4 (by decide), z5 (by decide) (by decide), z6 (by decide) (by decide), z7 (by decide) (by decide), z8 (by decide), z9 (by decide) (by decide), z10 (by decide), z11 (by decide) (by decide), z12 (by decide) (by decide) (by decide)⟩
    have hW := cc.2.2.2.1
    have hl : ∀ t i, (Sug wl al t i).length ≤ 1558 := fun t i => by
      have h1 := sug_len C i (al := al)
      have hB := cc.2.1.2.2.2.1.2.2.1
      have e1 : (sugO lo (sugM lb (madeOf rs sl []) [])).length = wl.length := by
        have := congrArg List.length hW.1
        simpa using this
      have e2 := catW_le (cst (ltr (wdT t i)) al (wdT t i).length) wl
      have e3 : (Sug wl al t i).length = (catW (cst (ltr (wdT t i)) al (wdT t i).length) wl).length := by unfold Sug catE; rw [List.length_map]
      omega
    have hnx : ∀ t, (∀ d ∈ t, isSg d) → t.length ≤ 100 → ∀ d ∈ (nxT rs sl al lo lb tl sy wl t).getD t, isSg d := fun t h1 h2 => nxT_sg h1 ok.2.2.2.2.1.2 hW
    obtain ⟨fb, gb, y1, y2, y3⟩ := mcor12 (H := Hm) Mm.1 cc.2.2.1.1 cc.2.2.1.2.1 hW hl hnx 20 0 zFuel t [t] fa (zL Hm) (by omega) (by unfold zFuel; omega) rfl ul ok mc2 k2
    refine ⟨hM Hm fb gb, ?_, ⟨fb, gb, rfl, fun b hb => ?_⟩, ⟨Mm.1, y2⟩⟩
    · have k1' : p_X12_keepsState (some (B + 95)) 0 (hM Hm (zu (zI Hm) (B + 95) 58 0) (zL Hm)) = some ((), hM Hm fa (zL Hm)) := k1
      have y1' : p_X12_correct_l12 zFuel (some (B + 95)) 1 (hM Hm fa (zL Hm)) = some (I (coL (nxT rs sl al lo lb tl sy wl) 20 [t] t).1, hM Hm fb gb) := y1
      show p_X12_correct (some (B + 95)) (hM Hm (zI Hm) (zL Hm)) = _
      simp only [p_X12_correct, z_b, m_pI m, m_vr m, k1', y1']
    · have a1 := y3 b hb
      have a2 := k3.2 b (by omega) (fun q => by
        obtain ⟨j, j1, j2⟩ := List.mem_map.mp q
        rw [List.mem_singleton.mp j1] at j2
        have := arM_in (B := B) (j := 57) (by decide)
        omega)
      exact ⟨a1.1.trans (a2.1.trans (by rw [zu_ne (by omega)])), a1.2⟩
end
