/-! the reference finds the words -/
def mC (w : Wd) : Nat := if w.length ≤ 10 then mN w else 0
def WsM (f : FI) (g : FL) (ar : Nat → Nat) (M : Nat) (ws : List Wr) : Prop := f M 40 = I ws.length ∧ ∀ (i : Nat) (w : Wr), ws[i]? = some w → f (ar 41) i = I w.1 ∧ f (ar 42) i = I w.2.1.length ∧ f (ar 43) i = I w.2.2 ∧ g (ar 44) i = J (mC w.2.1)
def TxM (f : FI) (ar : Nat → Nat) (M : Nat) (t : List Nat) : Prop := f M 32 = I t.length ∧ t.length ≤ 100 ∧ ∀ (i : Nat) (c : Nat), t[i]? = some c → f (ar 33) i = I c
/-- only these fields, only these arrays may differ -/
def MFr (f f' : FI) (g g' : FL) (ar : Nat → Nat) (M : Nat) (ss as : List Nat) : Prop := (∀ j, j ∉ ss → f' M j = f M j ∧ g' M j = g M j) ∧ ∀ b, b ≠ M → b ∉ as.map ar → f' b = f b ∧ g' b = g b
theorem MFr.refl (f : FI) (g : FL) (ar : Nat → Nat) (M : Nat) (ss as : List Nat) : MFr f f g g ar M ss as := ⟨fun _ _ => ⟨rfl, rfl⟩, fun _ _ _ => ⟨rfl, rfl⟩⟩
theorem MFr.trans {f f1 f2 : FI} {g g1 g2 : FL} {ar : Nat → Nat} {M : Nat} {ss as : List Nat} (a : MFr f f1 g g1 ar M ss as) (b : MFr f1 f2 g1 g2 ar M ss as) : MFr f f2 g g2 ar M ss as :=
  ⟨fun j hj => ⟨(b.1 j hj).1.trans (a.1 j hj).1, (b.1 j hj).2.trans (a.1 j hj).2⟩, fun q h1 h2 => ⟨(b.2 q h1 h2).1.trans (a.2 q h1 h2).1, (b.2 q h1 h2).2.trans (a.2 q h1 h2).2⟩⟩
theorem MFr.mono {f f1 : FI} {g g1 : FL} {ar : Nat → Nat} {M : Nat} {ss as ss' as' : List Nat} (a : MFr f f1 g g1 ar M ss as) (h : ∀ j ∈ ss, j ∈ ss') (h2 : ∀ j ∈ as, j ∈ as') : MFr f f1 g g1 ar M ss' as' := by
  refine ⟨fun j hj => a.1 j (fun q => hj (h j q)), fun b h1 hb => a.2 b h1 (fun q => hb ?_)⟩
  obtain ⟨j, j1, j2⟩ := List.mem_map.mp q
  exact List.mem_map.mpr ⟨j, h2 j j1, j2⟩
section
variable {h : ZH} {M : Nat} {ar : Nat → Nat} {f f' : FI} {g g' : FL}
theorem MFr.at_ {ss as : List Nat} (a : MFr f f' g g' ar M ss as) (m : MAt h M ar) {j : Nat} (hj : (mSz j).1 ≠ 0) (hn : j ∉ as) (hfs : ∀ i ∈ as, (mSz i).1 ≠ 0) : f' (ar j) = f (ar j) ∧ g' (ar j) = g (ar j) := by
  refine a.2 _ (m.2.1 j hj).2.2 (fun z => ?_)
  obtain ⟨i, i1, i2⟩ := List.mem_map.mp z
  exact hn ((m.2.2 i j (hfs i i1) hj i2) ▸ i1)
theorem MFr.pI {ss as : List Nat} (j : Nat) (v : Int32) (hj : j ∈ ss) : MFr f (zu f M j v) g g ar M ss as :=
  ⟨fun i hi => ⟨by rw [zu_cell, if_neg (fun (q : i = j) => hi (q ▸ hj))], rfl⟩, fun b hb _ => ⟨zu_ne hb _ _, rfl⟩⟩
theorem MFr.pL {ss as : List Nat} (j : Nat) (v : Int64) (hj : j ∈ ss) : MFr f f g (zu g M j v) ar M ss as :=
  ⟨fun i hi => ⟨rfl, by rw [zu_cell, if_neg (fun (q : i = j) => hi (q ▸ hj))]⟩, fun b hb _ => ⟨rfl, zu_ne hb _ _⟩⟩
theorem MFr.sI (m : MAt h M ar) {ss as : List Nat} (j k : Nat) (v : Int32) (hz : (mSz j).1 ≠ 0) (hj : j ∈ as) : MFr f (zu f (ar j) k v) g g ar M ss as :=
  ⟨fun i _ => ⟨by rw [zu_ne (m.2.1 j hz).2.2.symm], rfl⟩, fun b _ hb => ⟨zu_ne (fun q => hb (by rw [q]; exact List.mem_map.mpr ⟨j, hj, rfl⟩)) _ _, rfl⟩⟩
theorem MFr.sL (m : MAt h M ar) {ss as : List Nat} (j k : Nat) (v : Int64) (hz : (mSz j).1 ≠ 0) (hj : j ∈ as) : MFr f f g (zu g (ar j) k v) ar M ss as :=
  ⟨fun i _ => ⟨rfl, by rw [zu_ne (m.2.1 j hz).2.2.symm]⟩, fun b _ hb => ⟨rfl, zu_ne (fun q => hb (by rw [q]; exact List.mem_map.mpr ⟨j, hj, rfl⟩)) _ _⟩⟩
theorem TxM.fr {ss as : List Nat} (a : MFr f f' g g' ar M ss as) (m : MAt h M ar) {t : List Nat} (T : TxM f ar M t) (h1 : 32 ∉ ss) (h2 : 33 ∉ as) (h3 : ∀ i ∈ as, (mSz i).1 ≠ 0) : TxM f' ar M t := by
  obtain ⟨t1, t2, t3⟩ := T
  refine ⟨by rw [(a.1 32 h1).1]; exact t1, t2, fun i c hc => ?_⟩
  rw [(a.at_ m (j := 33) (by decide) h2 h3).1]
  exact t3 i c hc
theorem J_or4 {u : Wd} {l : Nat} (hl : l < 8) : (J (mN u) <<< (Int32.toInt64 4 &&& 63)) ||| (I ((l + 1 : Nat) : Int)).toInt64 = J (mN (u ++ [l])) := by
  have e : (Int32.toInt64 4 &&& 63) = J ((4 : Nat) : Int) := by rw [show (4 : Int32) = I ((4 : Nat) : Int) from rfl]; exact J_msk' 4 (by decide)
  rw [e, J_shl (by decide), IJn (by omega), J_or, or_add (show l + 1 < 2 ^ 4 by omega), mN_snoc, Nat.mul_comm]
/-- the letter goes to the last word -/
theorem fin131 (m : MAt h M ar) (r14 : Option Nat → Int32 → Int32 → Int32 → Int32 → ZM Unit) (v1 v2 v6 : Int32) {k c : Nat} (hc : 97 ≤ c ∧ c ≤ 104) {u : List Wr} {w : Wr} (hu : u.length < 101) (hw : w.2.1.length < 101) (W : WsM f g ar M (u ++ [w])) :
    ∃ f' g', p_X12_finds_b131 r14 (some M) v1 v2 (I k) (I c) v6 1 (hM h f g) = p_X12_finds_b204 r14 (some M) v1 v2 (I k) (I c) v6 1 (hM h f' g') ∧ WsM f' g' ar M (u ++ [(w.1, w.2.1 ++ [c - 97], w.2.2)]) ∧ MFr f f' g g' ar M [40] [41, 42, 43, 44] := by
  obtain ⟨w1, w2⟩ := W
  obtain ⟨b1, b2, b3, b4⟩ := w2 u.length w (snoc_get.mpr (Or.inr ⟨rfl, rfl⟩))
  have hlen : (u ++ [w]).length = u.length + 1 := by simp
  have hlen' : (u ++ [(w.1, w.2.1 ++ [c - 97], w.2.2)]).length = u.length + 1 := by simp
  rw [hlen] at w1
  have n12 := ar_ne m (i := 41) (j := 42) (by decide) (by decide) (by decide)
  have n23 := ar_ne m (i := 42) (j := 43) (by decide) (by decide) (by decide)
  have n2x := (m.2.1 42 (by decide)).2.2
  have e0 : I (c : Int) - 97 = I ((c - 97 : Nat) : Int) := I_sn c 97 hc.1
  have e0' : I ((c - 97 : Nat) : Int) + 1 = I ((c - 97 + 1 : Nat) : Int) := I_add _ 1
  have e1 : I ((u.length + 1 : Nat) : Int) - 1 = I (u.length : Int) := I_sn (u.length + 1) 1 (by omega)
  have e2 : I (w.2.1.length : Int) + 1 = I ((w.2.1.length + 1 : Nat) : Int) := I_add _ 1
  have e3 : I ((w.2.1.length + 1 : Nat) : Int) ≤ (10 : Int32) ↔ w.2.1.length + 1 ≤ 10 := by rw [lit, I_le (by omega) (by decide)]; omega
  refine ⟨zu f (ar 42) u.length (I ((w.2.1.length + 1 : Nat) : Int)), zu g (ar 44) u.length (J (mC (w.2.1 ++ [c - 97]))), ?_, ⟨?_, fun i w' hw' => ?_⟩, (MFr.sI m 42 _ _ (by decide) (by simp)).trans (MFr.sL m 44 _ _ (by decide) (by simp))⟩
  · have x1 : zu f (ar 42) u.length (I ((w.2.1.length + 1 : Nat) : Int)) M 40 = I ((u.length + 1 : Nat) : Int) := by rw [zu_ne n2x.symm]; exact w1
    have x2 : zu f (ar 42) u.length (I ((w.2.1.length + 1 : Nat) : Int)) (ar 42) u.length = I ((w.2.1.length + 1 : Nat) : Int) := zu_same _ _ _ _
    have n1 : ¬ ((1 : Int32) = 0) := by decide
    simp only [p_X12_finds_b131, ite_ap, n1, if_false, z_b, m_gR m 42 (by decide), m_gI m, w1, e1, m_aI m 42 101 (by decide) hu (by decide), b2, e2, m_sI m 42 101 (by decide) hu (by decide), m_gR m 44 (by decide), x1, x2, e3]
    by_cases q : w.2.1.length + 1 ≤ 10
    · rw [if_pos q]
      have c1 : mC w.2.1 = mN w.2.1 := if_pos (by omega)
      have c2 : mC (w.2.1 ++ [c - 97]) = mN (w.2.1 ++ [c - 97]) := if_pos (by rw [List.length_append]; exact q)
      rw [c1] at b4
      simp only [m_gR m 44 (by decide), m_gI m, x1, e1, m_aL m 44 101 (by decide) hu (by decide), b4, e0, e0', J_or4 (show c - 97 < 8 by omega), p_X12_finds_b203, z_b, m_sL m 44 101 (by decide) hu (by decide), c2]
    · rw [if_neg q]
      have c2 : mC (w.2.1 ++ [c - 97]) = 0 := if_neg (by rw [List.length_append]; exact q)
      simp only [e1, p_X12_finds_b203, z_b, m_sL m 44 101 (by decide) hu (by decide), c2]
      rfl
  · rw [zu_ne n2x.symm, w1, hlen']
  · rw [zu_ne n12, zu_cell, zu_ne n23.symm, zu_cell]
    rcases snoc_get.mp hw' with z | ⟨z1, z⟩
    · have := lt_of_get z
      rw [if_neg (by omega), if_neg (by omega)]
      exact w2 i w' (snoc_get.mpr (Or.inl z))
    · subst z
      subst z1
      rw [if_pos rfl, if_pos rfl]
      refine ⟨b1, ?_, b3, rfl⟩
      show I _ = I ((w.2.1 ++ [c - 97]).length : Int)
      rw [List.length_append]; rfl
/-- a letter -/
theorem fin69 (m : MAt h M ar) (r14 : Option Nat → Int32 → Int32 → Int32 → Int32 → ZM Unit) (v2 v6 : Int32) {k c : Nat} (hc : 97 ≤ c ∧ c ≤ 104) (hk : k < 100) {t : List Nat} {inw : Bool} {ws : List Wr} {es : List (Nat × Nat)} (S : SOk t k (false, inw, ws, es)) (W : WsM f g ar M ws) :
    ∃ f' g', p_X12_finds_b69 r14 (some M) (I es.length) v2 (bI inw) (I k) (I c) v6 1 (hM h f g) = p_X12_finds_b204 r14 (some M) (I es.length) v2 (I k) (I c) v6 1 (hM h f' g') ∧ WsM f' g' ar M (addL (scW (false, inw, ws, es) k) (c - 97)) ∧ MFr f f' g g' ar M [40] [41, 42, 43, 44] := by
  have n1 : ¬ ((1 : Int32) = 0) := by decide
  obtain ⟨s1, s2, s3, s4, s5⟩ := S
  cases inw with
  | true =>
    obtain ⟨-, u, w, w1, w2, w3⟩ := s3 rfl
    have w1' : ws = u ++ [w] := w1
    subst w1'
    have s1' : 2 * (u ++ [w]).length ≤ k + 1 := s1
    rw [List.length_append] at s1'
    simp at s1'
    obtain ⟨f', g', v1, v2', v3⟩ := fin131 m r14 (I es.length) v2 v6 (k := k) hc (u := u) (w := w) (by omega) (by omega) W
    refine ⟨f', g', ?_, ?_, v3⟩
    · rw [← v1]
      simp only [p_X12_finds_b69, ite_ap, n1, if_false]
      rw [if_pos (show ¬ (bI true = 0) by decide)]
    · show WsM f' g' ar M (addL (u ++ [w]) (c - 97))
      rw [addL_snoc]; exact v2'
  | false =>
    have s1' : 2 * ws.length ≤ k + 0 := s1
    have lt : ws.length < 101 := by omega
    have n12 := ar_ne m (i := 41) (j := 42) (by decide) (by decide) (by decide)
    have n13 := ar_ne m (i := 41) (j := 43) (by decide) (by decide) (by decide)
    have n23 := ar_ne m (i := 42) (j := 43) (by decide) (by decide) (by decide)
    have n1x := (m.2.1 41 (by decide)).2.2
    have n2x := (m.2.1 42 (by decide)).2.2
    have n3x := (m.2.1 43 (by decide)).2.2
    have W1 : WsM (zu (zu (zu (zu f (ar 41) ws.length (I k)) (ar 42) ws.length 0) (ar 43) ws.length (I es.length)) M 40 (I ((ws.length + 1 : Nat) : Int))) (zu g (ar 44) ws.length 0) ar M (ws ++ [(k, [], es.length)]) := by
      refine ⟨?_, fun i w hw => ?_⟩
      · rw [zu_same, List.length_append]; rfl
      · rw [zu_ne n1x, zu_ne n13, zu_ne n12, zu_cell, zu_ne n2x, zu_ne n23, zu_cell, zu_ne n12.symm, zu_ne n3x, zu_cell, zu_ne n23.symm, zu_ne n13.symm, zu_cell]
        rcases snoc_get.mp hw with z | ⟨z1, z⟩
        · have := lt_of_get z
          rw [if_neg (by omega), if_neg (by omega), if_neg (by omega), if_neg (by omega)]
          exact W.2 i w z
        · subst z
          subst z1
          rw [if_pos rfl, if_pos rfl, if_pos rfl, if_pos rfl]
          exact ⟨rfl, rfl, rfl, rfl⟩
    obtain ⟨f', g', v1, v2', v3⟩ := fin131 m r14 (I es.length) v2 v6 (k := k) hc (u := ws) (w := (k, [], es.length)) lt (by simp) W1
    refine ⟨f', g', ?_, ?_, (((((MFr.sI m 41 _ _ (by decide) (by simp)).trans (MFr.sI m 42 _ _ (by decide) (by simp))).trans (MFr.sI m 43 _ _ (by decide) (by simp))).trans (MFr.sL m 44 _ _ (by decide) (by simp))).trans (MFr.pI 40 _ (by simp))).trans v3⟩
    · rw [← v1]
      have e1 : I (ws.length : Int) + 1 = I ((ws.length + 1 : Nat) : Int) := I_add _ 1
      have g1 : zu f (ar 41) ws.length (I k) M 40 = I ws.length := by rw [zu_ne n1x.symm]; exact W.1
      have g2 : zu (zu f (ar 41) ws.length (I k)) (ar 42) ws.length 0 M 40 = I ws.length := by rw [zu_ne n2x.symm]; exact g1
      have g3 : zu (zu (zu f (ar 41) ws.length (I k)) (ar 42) ws.length 0) (ar 43) ws.length (I es.length) M 40 = I ws.length := by rw [zu_ne n3x.symm]; exact g2
      have b0 : ¬ ¬ (bI false = 0) := by decide
      simp only [p_X12_finds_b69, ite_ap, n1, if_false, b0, z_b, m_gR m 41 (by decide), m_gI m, W.1, m_sI m 41 101 (by decide) lt (by decide), m_gR m 42 (by decide), g1, m_sI m 42 101 (by decide) lt (by decide), m_gR m 43 (by decide), g2, m_sI m 43 101 (by decide) lt (by decide), m_gR m 44 (by decide), g3, m_sL m 44 101 (by decide) lt (by decide), e1, m_pI m]
    · show WsM f' g' ar M (addL (ws ++ [(k, [], es.length)]) (c - 97))
      rw [addL_snoc]; exact v2'
theorem mIsLt_eq (h : ZH) {c : Nat} (hc : c < 1000) : p_X12_isLetter (I c) h = some (if 97 ≤ c ∧ c ≤ 104 then 1 else 0, h) := by
  have e1 : (97 : Int32) ≤ I (c : Int) ↔ 97 ≤ c := by rw [lit, I_le (by decide) (by omega)]; omega
  have e2 : I (c : Int) ≤ (104 : Int32) ↔ c ≤ 104 := by rw [lit, I_le (by omega) (by decide)]; omega
  simp only [p_X12_isLetter, z_b, min_eq, bI_rz, e1, e2]
end
