/-! ===== the reference reads the text ===== -/
/-- what a word of the text reads -/
def rdW (lm lo lb : Bk) (w : Wd) : Nat := if w.length ≤ 10 then readF lm lo lb w else 0
theorem lor_lt {a b n : Nat} (ha : a < 2 ^ n) (hb : b < 2 ^ n) : a ||| b < 2 ^ n := Nat.or_lt_two_pow ha hb
theorem jinF_lt {Jf : Nat → Nat → Nat} {b : Nat → Bool} {len k : Nat} (hJ : ∀ i j, Jf i j < 256) : ∀ c j acc, acc < 256 → jinF Jf b len k c j acc < 256 := by
  intro c
  induction c with
  | zero => intro j acc h; exact h
  | succ c ih =>
    intro j acc h
    simp only [jinF]
    refine ih _ _ ?_
    split
    · exact lor_lt (n := 8) h (hJ _ _)
    · exact h
theorem jouF_lt {Jf : Nat → Nat → Nat} {b : Nat → Bool} {len : Nat} (hJ : ∀ i j, Jf i j < 256) : ∀ c k acc, acc < 256 → jouF Jf b len c k acc < 256 := by
  intro c
  induction c with
  | zero => intro k acc h; exact h
  | succ c ih =>
    intro k acc h
    simp only [jouF]
    refine ih _ _ ?_
    split
    · exact jinF_lt hJ _ _ _ (lor_lt (n := 8) h (hJ _ _))
    · exact h
theorem readF_lt {lm lo lb : Bk} {os : List Ow} (Ro : OwR lo os) {w : Wd} (hw : WdOk w) : readF lm lo lb w < 256 := by
  unfold readF
  split
  · have h1 : bget lo (cN w) < 256 := by
      rw [ow_get Ro hw]
      cases q : fnx w os 0 with
      | none => exact Nat.zero_lt_succ _
      | some k =>
        obtain ⟨-, -, r, c⟩ := fnx_some q
        have c' : os[k]? = some (w, r) := c
        have hr : r ≤ 7 := (Ro.2.1 _ (List.mem_of_getElem? c')).2
        show 2 ^ (os.getD k ([], 0)).2 < 256
        rw [List.getD_eq_getElem?_getD, c']
        show 2 ^ r < 2 ^ 8
        exact Nat.pow_lt_pow_right (by decide) (by omega)
    exact lor_lt (n := 8) (lor_lt (n := 8) h1 (Nat.mod_lt _ (by decide))) (jouF_lt (fun i j => jOf_lt lm w i j) _ _ _ (by decide))
  · decide
theorem rdW_lt {lm lo lb : Bk} {os : List Ow} (Ro : OwR lo os) {w : Wd} (hw : isW w) (hn : w ≠ []) : rdW lm lo lb w < 256 := by
  unfold rdW
  split
  · rename_i hl; exact readF_lt Ro ⟨hw, hn, hl⟩
  · decide
section
variable {h : ZH} {M : Nat} {ar : Nat → Nat} {tl : Nat → Nat} {t : List Nat} {sl : List Sty} {lm lo lb : Bk} {os bs : List Ow}
theorem OwM.fr {f f' : FI} {g g' : FL} {ss as : List Nat} (O : OwM f g ar M os) (F : MFr f f' g g' ar M ss as) (m : MAt h M ar) (h1 : 17 ∉ ss) (h2 : 18 ∉ as) (h4 : 19 ∉ as) (h3 : ∀ i ∈ as, (mSz i).1 ≠ 0) : OwM f' g' ar M os :=
  ⟨by rw [(F.1 17 h1).1]; exact O.1, O.2.1, fun i p hp => by rw [(F.at_ m (j := 18) (by decide) h2 h3).2, (F.at_ m (j := 19) (by decide) h4 h3).1]; exact O.2.2 i p hp⟩
theorem BaM.fr {f f' : FI} {g g' : FL} {ss as : List Nat} (O : BaM f g ar M bs) (F : MFr f f' g g' ar M ss as) (m : MAt h M ar) (h1 : 20 ∉ ss) (h2 : 21 ∉ as) (h3 : ∀ i ∈ as, (mSz i).1 ≠ 0) : BaM f' g' ar M bs :=
  ⟨by rw [(F.1 20 h1).1]; exact O.1, O.2.1, fun i p hp => by rw [(F.at_ m (j := 21) (by decide) h2 h3).2]; exact O.2.2 i p hp⟩
theorem TC.frM {f f' : FI} {g g' : FL} {ss as : List Nat} {l : Bk} (T : TC f g ar M l) (F : MFr f f' g g' ar M ss as) (m : MAt h M ar) (h1 : 35 ∉ ss) (h6 : 36 ∉ as) (h7 : 37 ∉ as) (h8 : 38 ∉ as) (h9 : 39 ∉ as) (h3 : ∀ i ∈ as, (mSz i).1 ≠ 0) : TC f' g' ar M l :=
  T.same (F.1 35 h1).1 (F.at_ m (j := 36) (by decide) h6 h3).2 (F.at_ m (j := 37) (by decide) h7 h3).1 (F.at_ m (j := 38) (by decide) h8 h3).1 (F.at_ m (j := 39) (by decide) h9 h3).1
theorem WsM.fr {f f' : FI} {g g' : FL} {ss as : List Nat} {ws : List Wr} (W : WsM f g ar M ws) (F : MFr f f' g g' ar M ss as) (m : MAt h M ar) (h1 : 40 ∉ ss) (h41 : 41 ∉ as) (h42 : 42 ∉ as) (h43 : 43 ∉ as) (h44 : 44 ∉ as) (h3 : ∀ i ∈ as, (mSz i).1 ≠ 0) : WsM f' g' ar M ws := by
  refine ⟨by rw [(F.1 40 h1).1]; exact W.1, fun i w hw => ?_⟩
  rw [(F.at_ m (j := 41) (by decide) h41 h3).1, (F.at_ m (j := 42) (by decide) h42 h3).1, (F.at_ m (j := 43) (by decide) h43 h3).1, (F.at_ m (j := 44) (by decide) h44 h3).2]
  exact W.2 i w hw
theorem SyM.fr {f f' : FI} {g g' : FL} {ss as : List Nat} (Y : SyM f g ar M sl) (F : MFr f f' g g' ar M ss as) (m : MAt h M ar) (h1 : 26 ∉ ss) (h27 : 27 ∉ as) (h28 : 28 ∉ as) (h29 : 29 ∉ as) (h30 : 30 ∉ as) (h31 : 31 ∉ as) (h3 : ∀ i ∈ as, (mSz i).1 ≠ 0) : SyM f' g' ar M sl := by
  refine ⟨by rw [(F.1 26 h1).1]; exact Y.1, Y.2.1, fun k s hk => ?_⟩
  obtain ⟨S, ho⟩ := Y.2.2 k s hk
  refine ⟨?_, ho⟩
  unfold StyM at S ⊢
  rw [(F.at_ m (j := 27) (by decide) h27 h3).1, (F.at_ m (j := 28) (by decide) h28 h3).2, (F.at_ m (j := 29) (by decide) h29 h3).1, (F.at_ m (j := 30) (by decide) h30 h3).1, (F.at_ m (j := 31) (by decide) h31 h3).2]
  exact S
/-- readings of the words -/
theorem rd10 (m : MAt h M ar) (hlm : lm.length ≤ 1548) (Ro : OwR lo os) (Rb : OwR lb bs) (ht : t.length ≤ 100) (g : FL) {f0 : FI} :
    ∀ (c k n : Nat) (f : FI), k + c = (wsOf t).length → c < n → MFr f0 f g g ar M [] [45] → WsM f g ar M (wsOf t) → TC f g ar M lm → OwM f g ar M os → BaM f g ar M bs → (∀ i, i < k → f (ar 45) i = I (rdW lm lo lb (wdT t i))) →
      ∃ f', p_X12_reads_l10 n (some M) (I k) (hM h f g) = p_X12_reads_b40 (some M) (hM h f' g) ∧ (∀ i, i < (wsOf t).length → f' (ar 45) i = I (rdW lm lo lb (wdT t i))) ∧ MFr f0 f' g g ar M [] [45] := by
  have w50 := ws_100 ht
  intro c
  induction c with
  | zero =>
    intro k n f hk hn F0 W T O B X
    obtain ⟨n, rfl⟩ := Nat.exists_eq_add_of_lt hn
    have e1 : I ((wsOf t).length : Int) ≤ I (k : Int) := by rw [I_le (by omega) (by omega)]; omega
    refine ⟨f, ?_, fun i hi => X i (by omega), F0⟩
    show p_X12_reads_c10 _ _ _ _ = _
    simp only [p_X12_reads_c10, z_b, ite_ap, m_gI m, W.1, e1, if_true]
  | succ c ih =>
    intro k n f hk hn F0 W T O B X
    cases n with
    | zero => exact absurd hn (Nat.not_lt_zero _)
    | succ n =>
      have hkl : k < (wsOf t).length := by omega
      have e1 : ¬ I ((wsOf t).length : Int) ≤ I (k : Int) := by rw [I_le (by omega) (by omega)]; omega
      have e2 : I (k : Int) + 1 = I ((k + 1 : Nat) : Int) := I_add _ 1
      obtain ⟨w, w1, w2, w3, w4, w5, w6⟩ := ws_at hkl
      obtain ⟨-, -, -, d4⟩ := W.2 k w w1
      have rd : p_X12_readingsOf (some M) (J (mC w.2.1)) (hM h f g) = some (I (rdW lm lo lb (wdT t k)), hM h f g) := by
        rw [w2]
        unfold mC rdW
        by_cases hl : w.2.1.length ≤ 10
        · rw [if_pos hl, if_pos hl]
          exact mread_eq m T (by omega) Ro Rb O B ⟨w4, w5, hl⟩
        · rw [if_neg hl, if_neg hl]
          exact mread_0 _ _
      have F1 : MFr f (zu f (ar 45) k (I (rdW lm lo lb (wdT t k)))) g g ar M [] [45] := MFr.sI m 45 k _ (by decide) (by simp)
      obtain ⟨f', p1, p2, p3⟩ := ih (k + 1) n (zu f (ar 45) k (I (rdW lm lo lb (wdT t k)))) (by omega) (by omega) (F0.trans F1) (W.fr F1 m (by simp) (by simp) (by simp) (by simp) (by simp) (by decide)) (T.frM F1 m (by simp) (by simp) (by simp) (by simp) (by simp) (by decide)) (O.fr F1 m (by simp) (by simp) (by simp) (by decide)) (B.fr F1 m (by simp) (by simp) (by decide))
        (fun i hi => by
          rw [zu_cell]
          by_cases q : i = k
          · rw [if_pos q, q]
          · rw [if_neg q]; exact X i (by omega))
      refine ⟨f', ?_, p2, p3⟩
      rw [← p1]
      show p_X12_reads_c10 (p_X12_reads_l10 n) _ _ _ = _
      simp only [p_X12_reads_c10, z_b, z_n, ite_ap, m_gI m, W.1, e1, if_false, m_gR m 45 (by decide), m_gR m 44 (by decide), m_aL m 44 101 (by decide) (show k < 101 by omega) (by decide), d4, m_vr m, rd, m_sI m 45 101 (by decide) (show k < 101 by omega) (by decide), e2]
/-- all that reading finds -/
def RaM (f : FI) (g : FL) (ar : Nat → Nat) (M : Nat) (t : List Nat) (R : Nat → Nat) (tl : Nat → Nat) (sl : List Sty) : Prop :=
  WsM f g ar M (wsOf t) ∧ ∀ i, i < (wsOf t).length → f (ar 45) i = I (R i) ∧ f (ar 46) i = I (pr (chE tl R (snT t) (bnT t) i)) ∧ f (ar 47) i = I (bN (brB tl R (snT t) (bnT t) i)) ∧ f (ar 48) i = I (tk1 (tkF (wdT t) (chE tl R (snT t) (bnT t)) (bnT t) sl i))
theorem reads_eq (m : MAt h M ar) {rs : List Ru} {ss : List St} (hlm : (madeOf rs ss []).length ≤ 1548) (Ro : OwR lo os) (Rb : OwR lb bs) {f : FI} {g : FL} (hr : RsM f g ar M rs) (hs : SsM f g ar M ss) (hT : f M 34 = 1 ∧ TC f g ar M (madeOf rs ss []) ∨ f M 34 = 0) (O : OwM f g ar M os) (B : BaM f g ar M bs) (T : TxM f ar M t) (hsg : ∀ c ∈ t, isSg c) (L : ToldC f (ar 25) tl) (Y : SyM f g ar M sl) :
    ∃ f' g', p_X12_reads (some M) (hM h f g) = some ((), hM h f' g') ∧ RaM f' g' ar M t (fun i => rdW (madeOf rs ss []) lo lb (wdT t i)) tl sl ∧ f' M 34 = 1 ∧ TC f' g' ar M (madeOf rs ss []) ∧ MFr f f' g g' ar M [34, 35, 40] [36, 37, 38, 39, 41, 42, 43, 44, 45, 46, 47, 48, 49] := by
  have ht := T.2.1
  have w50 := ws_100 ht
  obtain ⟨f1, g1, a1, a2, a3, a4⟩ := makes_eq m hr hs hT
  have F1 : MFr f f1 g g1 ar M [34, 35] [36, 37, 38, 39] := by
    obtain ⟨x1, x2, x3⟩ := a3
    have nM : ∀ j, g1 M j = g M j := fun j => by rw [x3 M (m.2.1 36 (by decide)).2.2.symm]
    refine ⟨fun j hj => ⟨x1 j (fun q => hj (by simp [q])) (fun q => hj (by simp [q])), nM j⟩, fun b hb hn => ?_⟩
    simp only [List.map_cons, List.map_nil, List.mem_cons, List.not_mem_nil, or_false, not_or] at hn
    exact ⟨x2 b (by simp only [List.mem_cons, List.not_mem_nil, or_false, not_or]; exact ⟨hb, hn.2⟩), x3 b hn.1⟩
  have T1 := T.fr F1 m (by simp) (by simp) (by decide)
  obtain ⟨f2, g2, b1, b2, b3⟩ := finds_eq (f := f1) (g := g1) m hsg T1
  have F2 : MFr f f2 g g2 ar M [34, 35, 40] [36, 37, 38, 39, 41, 42, 43, 44] := (F1.mono (by simp) (by simp)).trans (b3.mono (by simp) (by simp))
  obtain ⟨f3, c1, c2, c3⟩ := rd10 (h := h) m hlm Ro Rb ht g2 (f0 := f2) (wsOf t).length 0 zFuel f2 (by omega) (by unfold zFuel; omega) (MFr.refl _ _ _ _ _ _) b2 (a2.frM b3 m (by simp) (by simp) (by simp) (by simp) (by simp) (by decide)) (O.fr F2 m (by simp) (by simp) (by simp) (by decide)) (B.fr F2 m (by simp) (by simp) (by decide)) (fun i hi => absurd hi (Nat.not_lt_zero _))
  have F3 : MFr f f3 g g2 ar M [34, 35, 40] [36, 37, 38, 39, 41, 42, 43, 44, 45] := (F2.mono (by simp) (by simp)).trans (c3.mono (by simp) (by simp))
  have W3 := b2.fr c3 m (by simp) (by simp) (by simp) (by simp) (by simp) (by decide)
  have N := sn_ok t ht
  have D3 : RdM f3 ar M (fun i => rdW (madeOf rs ss []) lo lb (wdT t i)) (snT t) (wsOf t).length := ⟨W3.1, fun i hi => by
    obtain ⟨w, w1, w2, w3, w4, w5, w6⟩ := ws_at hi
    exact ⟨by rw [w3]; exact (W3.2 i w w1).2.2.1, c2 i hi⟩⟩
  have hR : ∀ j, j < (wsOf t).length → rdW (madeOf rs ss []) lo lb (wdT t j) < 256 := fun j hj => by
    obtain ⟨w, w1, w2, w3, w4, w5, w6⟩ := ws_at hj
    rw [w2]; exact rdW_lt Ro w4 w5
  obtain ⟨f4, d1, d2, d3⟩ := chooses_eq (h := h) (tl := tl) m g2 N w50 hR D3 (L.frM F3 m (by simp) (by decide))
  have F4 : MFr f f4 g g2 ar M [34, 35, 40] [36, 37, 38, 39, 41, 42, 43, 44, 45, 46, 47, 49] := (F3.mono (by simp) (by simp)).trans (d3.mono (by simp) (by simp))
  have W4 := W3.fr d3 m (by simp) (by simp) (by simp) (by simp) (by simp) (by decide)
  have X4 : WdM f4 g2 ar (wdT t) (chE tl (fun i => rdW (madeOf rs ss []) lo lb (wdT t i)) (snT t) (bnT t)) (wsOf t).length := fun i hi => by
    obtain ⟨w, w1, w2, w3, w4, w5, w6⟩ := ws_at hi
    exact ⟨by rw [w2]; exact (W4.2 i w w1).2.2.2, by rw [w2]; exact w4, (d2 i hi).1, chE_le i⟩
  obtain ⟨f5, e1, e2, e3⟩ := mtk_eq (h := h) (sl := sl) m N w50 (D3.fr d3 m (by simp) (by simp) (by simp) (by decide)) X4 (Y.fr F4 m (by simp) (by simp) (by simp) (by simp) (by simp) (by simp) (by decide))
  have F5 : MFr f f5 g g2 ar M [34, 35, 40] [36, 37, 38, 39, 41, 42, 43, 44, 45, 46, 47, 48, 49] := (F4.mono (by simp) (by simp)).trans (e3.mono (by simp) (by simp))
  refine ⟨f5, g2, ?_, ⟨W4.fr e3 m (by simp) (by simp) (by simp) (by simp) (by simp) (by decide), fun i hi => ⟨?_, ?_, ?_, e2 i hi⟩⟩, ?_, ?_, F5⟩
  · have c1' : p_X12_reads_l10 zFuel (some M) 0 (hM h f2 g2) = _ := c1
    simp only [p_X12_reads, z_b, m_vr m, a1, b1, c1', p_X12_reads_b40, d1, e1, z_rt]
  · rw [(e3.at_ m (j := 45) (by decide) (by simp) (by decide)).1, (d3.at_ m (j := 45) (by decide) (by simp) (by decide)).1]; exact c2 i hi
  · rw [(e3.at_ m (j := 46) (by decide) (by simp) (by decide)).1]; exact (d2 i hi).1
  · rw [(e3.at_ m (j := 47) (by decide) (by simp) (by decide)).1]; exact (d2 i hi).2
  · rw [(e3.1 34 (by simp)).1, (d3.1 34 (by simp)).1, (c3.1 34 (by simp)).1, (b3.1 34 (by simp)).1]; exact a4
  · exact (((a2.frM b3 m (by simp) (by simp) (by simp) (by simp) (by simp) (by decide)).frM c3 m (by simp) (by simp) (by simp) (by simp) (by simp) (by decide)).frM d3 m (by simp) (by simp) (by simp) (by simp) (by simp) (by decide)).frM e3 m (by simp) (by simp) (by simp) (by simp) (by simp) (by decide)
end
