section
variable {h : ZH} {M : Nat} {ar : Nat → Nat} {u : Nat → Nat} {al : Nat → Nat → Bool}
theorem co18_l (m : MAt h M ar) (g : FL) {w : Wd} (hw : isW w) (hw10 : w.length ≤ 10) {n i : Nat} (hn : n ≤ 12) (hi : i ≤ n) (r9 : Option Nat → Int32 → Int64 → Int32 → Int32 → ZM Int32) :
    ∀ (c j k : Nat) (f : FI), j + c = w.length + 1 → c < k → SgM f ar u al n → TaM f ar u (ltr w) al w.length i j →
      ∃ f', p_X12_costOf_l18 r9 k (some M) (I n) (J (mN w)) (I w.length) (I i) (I j) (hM h f g) = r9 (some M) (I n) (J (mN w)) (I w.length) (I ((i + 1 : Nat) : Int)) (hM h f' g) ∧ TaM f' ar u (ltr w) al w.length (i + 1) 0 ∧ MFr f f' g g ar M [] [50] := by
  intro c
  induction c with
  | zero =>
    intro j k f hj hk S T
    obtain ⟨k, rfl⟩ := Nat.exists_eq_add_of_lt hk
    have e1 : I (w.length : Int) < I (j : Int) := by rw [I_lt (by omega) (by omega)]; omega
    have ei : I (i : Int) + 1 = I ((i + 1 : Nat) : Int) := I_add _ 1
    refine ⟨f, ?_, fun i' j' h1 h2 => T i' j' h1 (by omega), MFr.refl _ _ _ _ _ _⟩
    show p_X12_costOf_c18 _ _ _ _ _ _ _ _ _ = _
    simp only [p_X12_costOf_c18, p_X12_costOf_b312, z_n, ite_ap, e1, if_true, ei]
  | succ c ih =>
    intro j k f hj hk S T
    cases k with
    | zero => exact absurd hk (Nat.not_lt_zero _)
    | succ k =>
      have ce := co18_cell (f := f) (g := g) m hw hw10 hn hi (j := j) (by omega) S T r9 (p_X12_costOf_l18 r9 k)
      have F1 : MFr f (zu f (ar 50) (13 * i + j) (I (CF u (ltr w) al i j))) g g ar M [] [50] := MFr.sI m 50 _ _ (by decide) (by simp)
      obtain ⟨f', p1, p2, p3⟩ := ih (j + 1) k (zu f (ar 50) (13 * i + j) (I (CF u (ltr w) al i j))) (by omega) (by omega) (S.fr F1 m (by simp) (by simp) (by decide)) (fun i' j' h1 h2 => by
        rw [zu_cell]
        by_cases q : i' = i ∧ j' = j
        · rw [if_pos (by rw [q.1, q.2]), q.1, q.2]
        · rw [if_neg (by omega)]; exact T i' j' h1 (by omega))
      exact ⟨f', ce.trans p1, p2, F1.trans p3⟩
theorem co9_l (m : MAt h M ar) (g : FL) {w : Wd} (hw : isW w) (hw10 : w.length ≤ 10) {n : Nat} (hn : n ≤ 12) :
    ∀ (c i k : Nat) (f : FI), i + c = n + 1 → c < k → SgM f ar u al n → TaM f ar u (ltr w) al w.length i 0 →
      ∃ f', p_X12_costOf_l9 k (some M) (I n) (J (mN w)) (I w.length) (I i) (hM h f g) = some (I (CF u (ltr w) al n w.length), hM h f' g) ∧ MFr f f' g g ar M [] [50] := by
  intro c
  induction c with
  | zero =>
    intro i k f hi hk S T
    obtain ⟨k, rfl⟩ := Nat.exists_eq_add_of_lt hk
    have e1 : I (n : Int) < I (i : Int) := by rw [I_lt (by omega) (by omega)]; omega
    have e3 : 13 * I (n : Int) + I (w.length : Int) = I ((13 * n + w.length : Nat) : Int) := by
      rw [show (13 : Int32) = I ((13 : Nat) : Int) from rfl, I_mn, I_an]
    have t := T n w.length (Nat.le_refl _) (Or.inl (by omega))
    refine ⟨f, ?_, MFr.refl _ _ _ _ _ _⟩
    show p_X12_costOf_c9 _ _ _ _ _ _ _ = _
    simp only [p_X12_costOf_c9, p_X12_costOf_b318, z_b, z_rt, ite_ap, e1, if_true, m_gR m 50 (by decide), e3, m_aI m 50 169 (by decide) (show 13 * n + w.length < 169 by omega) (by decide), t]
  | succ c ih =>
    intro i k f hi hk S T
    cases k with
    | zero => exact absurd hk (Nat.not_lt_zero _)
    | succ k =>
      have e1 : ¬ I (n : Int) < I (i : Int) := by rw [I_lt (by omega) (by omega)]; omega
      obtain ⟨f1, v1, v2, v3⟩ := co18_l (u := u) (al := al) m g hw hw10 hn (i := i) (by omega) (p_X12_costOf_l9 k) (w.length + 1) 0 zFuel f (by omega) (by unfold zFuel; omega) S T
      obtain ⟨f', p1, p2⟩ := ih (i + 1) k f1 (by omega) (by omega) (S.fr v3 m (by simp) (by simp) (by decide)) v2
      refine ⟨f', ?_, v3.trans p2⟩
      rw [← p1, ← v1]
      show p_X12_costOf_c9 (p_X12_costOf_l9 k) _ _ _ _ _ _ = _
      simp only [p_X12_costOf_c9, ite_ap, e1, if_false]
      rfl
theorem co_eq (m : MAt h M ar) (g : FL) {w : Wd} (hw : isW w) (hw10 : w.length ≤ 10) {n : Nat} (hn : n ≤ 12) {f : FI} (S : SgM f ar u al n) :
    ∃ f', p_X12_costOf (some M) (I n) (J (mN w)) (hM h f g) = some (I (cst u al n w), hM h f' g) ∧ MFr f f' g g ar M [] [50] := by
  obtain ⟨f', p1, p2⟩ := co9_l (u := u) (al := al) m g hw hw10 hn (n + 1) 0 zFuel f (by omega) (by unfold zFuel; omega) S (fun i' j' _ h2 => absurd h2 (by omega))
  refine ⟨f', ?_, p2⟩
  have p1' : p_X12_costOf_l9 zFuel (some M) (I n) (J (mN w)) (I w.length) 0 (hM h f g) = _ := p1
  simp only [p_X12_costOf, z_b, lengthOf_eq _ hw (show w.length ≤ 12 by omega), p1']
  rfl
/-- what is found so far -/
def FoM (f : FI) (g : FL) (ar : Nat → Nat) (M : Nat) (l : List (Nat × Wd)) : Prop := f M 52 = I l.length ∧ ∀ (i : Nat) (e : Nat × Wd), l[i]? = some e → g (ar 53) i = J (mN e.2) ∧ f (ar 54) i = I e.1
/-- a word is offered -/
def ofs (bs : List Ow) (uw : Wd) (cs : Wd → Nat) (l : List (Nat × Wd)) (w : Wd) : List (Nat × Wd) := if w ≠ uw ∧ fnx w bs 0 = none ∧ cs w ≤ 4 then l ++ [(cs w, w)] else l
theorem ofs_len (bs : List Ow) (uw : Wd) (cs : Wd → Nat) (l : List (Nat × Wd)) (w : Wd) : (ofs bs uw cs l w).length ≤ l.length + 1 := by
  unfold ofs
  split
  · rw [List.length_append]; exact Nat.le_refl _
  · exact Nat.le_succ _
variable {bs os : List Ow} {f : FI} {g : FL}
/-- what offering asks for -/
def OfM (f : FI) (g : FL) (ar : Nat → Nat) (M : Nat) (bs : List Ow) (uw : Wd) (al : Nat → Nat → Bool) (j : Nat) : Prop := BaM f g ar M bs ∧ SgM f ar (ltr uw) al uw.length ∧ f (ar 42) j = I uw.length ∧ g (ar 44) j = J (mC uw)
theorem OfM.fr {f f' : FI} {g g' : FL} {ss as : List Nat} {uw : Wd} {j : Nat} (O : OfM f g ar M bs uw al j) (F : MFr f f' g g' ar M ss as) (m : MAt h M ar) (h20 : 20 ∉ ss) (h21 : 21 ∉ as) (h16 : 16 ∉ as) (h51 : 51 ∉ as) (h42 : 42 ∉ as) (h44 : 44 ∉ as) (h3 : ∀ i ∈ as, (mSz i).1 ≠ 0) : OfM f' g' ar M bs uw al j := by
  obtain ⟨o1, o2, o3, o4⟩ := O
  refine ⟨⟨by rw [(F.1 20 h20).1]; exact o1.1, o1.2.1, fun i p hp => by rw [(F.at_ m (j := 21) (by decide) h21 h3).2]; exact o1.2.2 i p hp⟩, o2.fr F m h16 h51 h3, ?_, ?_⟩
  · rw [(F.at_ m (j := 42) (by decide) h42 h3).1]; exact o3
  · rw [(F.at_ m (j := 44) (by decide) h44 h3).2]; exact o4
theorem of_eq (m : MAt h M ar) (Rb : ∀ p ∈ bs, WdOk p.1) {uw : Wd} (hu : isW uw) (hn : uw.length ≤ 12) {j : Nat} (hj : j < 101) (O : OfM f g ar M bs uw al j) {l : List (Nat × Wd)} (L : FoM f g ar M l) (hl : l.length < 8200) {w : Wd} (hw : WdOk w) :
    ∃ f' g', p_X12_offers (some M) (I j) (J (mN w)) (hM h f g) = some ((), hM h f' g') ∧ FoM f' g' ar M (ofs bs uw (cst (ltr uw) al uw.length) l w) ∧ MFr f f' g g' ar M [52] [50, 53, 54] := by
  obtain ⟨o1, o2, o3, o4⟩ := O
  have hw10 : w.length ≤ 10 := hw.2.2
  have qn : (J (mN w : Int) = J (mC uw)) ↔ uw = w := by
    rw [← mC_eq hu hw]; exact eq_comm
  have bo := barOf_eq (f := f) (g := g) m Rb o1 hw
  have om := oz_m1 (fnx_bd (w := w) o1.2.1)
  -- nothing is added
  have no : ∀ f1 : FI, MFr f f1 g g ar M [52] [50, 53, 54] → FoM f1 g ar M l → ¬ (w ≠ uw ∧ fnx w bs 0 = none ∧ cst (ltr uw) al uw.length w ≤ 4) → ∀ c : Nat, 4 < c → c < 1000 → ∃ f' g', p_X12_offers_b66 (some M) (J (mN w)) (I c) (hM h f1 g) = some ((), hM h f' g') ∧ FoM f' g' ar M (ofs bs uw (cst (ltr uw) al uw.length) l w) ∧ MFr f f' g g' ar M [52] [50, 53, 54] := by
    intro f1 F1 L1 hno c hc hc2
    refine ⟨f1, g, ?_, by unfold ofs; rw [if_neg hno]; exact L1, F1⟩
    have : (4 : Int32) < I (c : Int) := by rw [lit, I_lt (by decide) (by omega)]; omega
    simp only [p_X12_offers_b66, ite_ap, this, if_true, z_rt]
  have no42 : ¬ (w ≠ uw ∧ fnx w bs 0 = none ∧ cst (ltr uw) al uw.length w ≤ 4) → ∃ f' g', p_X12_offers_b42 (some M) (I j) (J (mN w)) (hM h f g) = some ((), hM h f' g') ∧ FoM f' g' ar M (ofs bs uw (cst (ltr uw) al uw.length) l w) ∧ MFr f f' g g' ar M [52] [50, 53, 54] := by
    intro hno
    obtain ⟨f', g', p1, p2, p3⟩ := no f (MFr.refl _ _ _ _ _ _) L hno 99 (by decide) (by decide)
    refine ⟨f', g', ?_, p2, p3⟩
    rw [← p1]
    simp only [p_X12_offers_b42, p_X12_offers_b43, ite_ap, if_true]
    rfl
  simp only [p_X12_offers, z_b, ite_ap, m_gR m 44 (by decide), m_aL m 44 101 (by decide) hj (by decide), o4, lgc_eq0, qn, m_vr m, bo, om]
  by_cases z1 : uw = w
  · rw [if_pos z1]
    exact no42 (fun y => y.1 z1.symm)
  · rw [if_neg z1]
    by_cases z2 : fnx w bs 0 = none
    · rw [if_neg (fun y => y z2)]
      have ea : p_X12_away (I (w.length : Int) - I (uw.length : Int)) (hM h f g) = some (I (((if uw.length ≤ w.length then w.length - uw.length else uw.length - w.length : Nat)) : Int), hM h f g) := by
        have q : ((0 : Int32) ≤ I ((w.length : Int) - (uw.length : Int))) ↔ uw.length ≤ w.length := by rw [lit, I_le (by decide) (by omega)]; omega
        simp only [p_X12_away, I_sgn, ite_ap, q, z_rt]
        by_cases y : uw.length ≤ w.length
        · rw [if_pos y, if_pos y, show (w.length : Int) - (uw.length : Int) = ((w.length - uw.length : Nat) : Int) by omega]
        · rw [if_neg y, if_neg y, I_neg, show -((w.length : Int) - (uw.length : Int)) = ((uw.length - w.length : Nat) : Int) by omega]
      have e2 : ((2 : Int32) < I (((if uw.length ≤ w.length then w.length - uw.length else uw.length - w.length : Nat)) : Int)) ↔ (uw.length + 2 < w.length ∨ w.length + 2 < uw.length) := by
        have : (if uw.length ≤ w.length then w.length - uw.length else uw.length - w.length) ≤ 1000 := by split <;> omega
        rw [lit, I_lt (by decide) (by omega)]
        split <;> omega
      simp only [lengthOf_eq _ hw.1 (show w.length ≤ 12 by omega), m_gR m 42 (by decide), m_aI m 42 101 (by decide) hj (by decide), o3, ea, e2]
      by_cases z3 : uw.length + 2 < w.length ∨ w.length + 2 < uw.length
      · rw [if_pos z3]
        have far : 4 < cst (ltr uw) al uw.length w := CF_far z3
        exact no42 (fun y => absurd y.2.2 (by omega))
      · rw [if_neg z3]
        obtain ⟨f1, v1, v2⟩ := co_eq (u := ltr uw) (al := al) m g hw.1 hw10 hn o2
        have n10 : ¬ ((1 : Int32) = 0) := by decide
        have cle := (CF_lo (u := ltr uw) (v := ltr w) (al := al) (uw.length + w.length) uw.length w.length (Nat.le_refl _)).2.2
        have cle' : cst (ltr uw) al uw.length w ≤ 2 * (uw.length + w.length) := cle
        have F1 : MFr f f1 g g ar M [52] [50, 53, 54] := v2.mono (by simp) (by simp)
        have L1 : FoM f1 g ar M l := ⟨by rw [(v2.1 52 (by simp)).1]; exact L.1, fun i e he => by rw [(v2.at_ m (j := 54) (by decide) (by simp) (by decide)).1]; exact L.2 i e he⟩
        simp only [p_X12_offers_b43, z_b, ite_ap, n10, if_false, m_gR m 42 (by decide), m_aI m 42 101 (by decide) hj (by decide), o3, m_vr m, v1]
        by_cases z4 : cst (ltr uw) al uw.length w ≤ 4
        · have n53 := (m.2.1 53 (by decide)).2.2
          have n54 := (m.2.1 54 (by decide)).2.2
          have e4 : ¬ (4 : Int32) < I (cst (ltr uw) al uw.length w : Int) := by rw [lit, I_lt (by decide) (by omega)]; omega
          have e5 : I (l.length : Int) + 1 = I ((l.length + 1 : Nat) : Int) := I_add _ 1
          have e6 : zu f1 (ar 54) l.length (I (cst (ltr uw) al uw.length w)) M 52 = I l.length := by rw [zu_ne n54.symm]; exact L1.1
          refine ⟨zu (zu f1 (ar 54) l.length (I (cst (ltr uw) al uw.length w))) M 52 (I ((l.length + 1 : Nat) : Int)), zu g (ar 53) l.length (J (mN w)), ?_, ?_, F1.trans (((MFr.sL m 53 _ _ (by decide) (by simp)).trans (MFr.sI m 54 _ _ (by decide) (by simp))).trans (MFr.pI 52 _ (by simp)))⟩
          · simp only [p_X12_offers_b66, z_b, z_rt, ite_ap, e4, if_false, m_gR m 53 (by decide), m_gI m, L1.1, m_sL m 53 8200 (by decide) hl (by decide), m_gR m 54 (by decide), m_sI m 54 8200 (by decide) hl (by decide), e6, e5, m_pI m]
          · unfold ofs
            rw [if_pos ⟨fun y => z1 y.symm, z2, z4⟩]
            refine ⟨by rw [zu_same, List.length_append]; rfl, fun i e he => ?_⟩
            rw [zu_cell, zu_ne n54, zu_cell]
            rcases snoc_get.mp he with y | ⟨y1, y⟩
            · have := lt_of_get y
              rw [if_neg (by omega), if_neg (by omega)]
              exact L1.2 i e y
            · subst y
              subst y1
              rw [if_pos rfl, if_pos rfl]
              exact ⟨rfl, rfl⟩
        · exact no f1 F1 L1 (fun y => z4 y.2.2) _ (by omega) (by omega)
    · rw [if_pos z2]
      exact no42 (fun y => z2 y.2.1)
end
