/-! ===== the text is read: the class ===== -/
def wdT (t : List Nat) (i : Nat) : Wd := ((wsOf t).getD i (0, [], 0)).2.1
def snT (t : List Nat) (i : Nat) : Nat := ((wsOf t).getD i (0, [], 0)).2.2
def bnT (t : List Nat) (i : Nat) : Nat := sFw (esOf t) (snT t i + 1)
theorem ws_at {t : List Nat} {i : Nat} (hi : i < (wsOf t).length) : ∃ w, (wsOf t)[i]? = some w ∧ wdT t i = w.2.1 ∧ snT t i = w.2.2 ∧ isW w.2.1 ∧ w.2.1 ≠ [] ∧ w.2.2 < (esOf t).length := by
  have hw := getD_some (d := ((0, [], 0) : Wr)) hi
  obtain ⟨a1, a2, a3, a4, a5⟩ := (scan_ok t).2.2.2.1 i _ hw
  refine ⟨_, hw, rfl, rfl, a1, a2, ?_⟩
  have := (es_len t).1
  have a4' : ((wsOf t).getD i (0, [], 0)).2.2 ≤ (scan t).2.2.2.length := a4
  omega
/-- words of one sentence -/
theorem sn_in {t : List Nat} {s : Nat} (hs : s < (esOf t).length) {i : Nat} (h1 : sFw (esOf t) s ≤ i) (h2 : i < sFw (esOf t) (s + 1)) : i < (wsOf t).length ∧ snT t i = s ∧ bnT t i = sFw (esOf t) (s + 1) := by
  have hm := (st_max t (show s + 1 ≤ (esOf t).length by omega)).2
  have hi : i < (wsOf t).length := by omega
  obtain ⟨w, w1, w2, w3, -⟩ := ws_at hi
  have a := (st_words t (show s ≤ (esOf t).length by omega) w1).2
  have b := (st_words t (show s + 1 ≤ (esOf t).length by omega) w1).2
  have e : snT t i = s := by rw [w3]; omega
  exact ⟨hi, e, by unfold bnT; rw [e]⟩
theorem sn_ok (t : List Nat) (ht : t.length ≤ 100) : SnOk (snT t) (bnT t) (wsOf t).length := by
  intro i hi
  obtain ⟨w, w1, w2, w3, w4, w5, w6⟩ := ws_at hi
  have a := (st_words t (show w.2.2 + 1 ≤ (esOf t).length by omega) w1).2
  have hb : bnT t i = sFw (esOf t) (w.2.2 + 1) := by unfold bnT; rw [w3]
  have hm := (st_max t (show w.2.2 + 1 ≤ (esOf t).length by omega)).2
  have el := es_len t
  have same : i + 1 < (wsOf t).length → (snT t (i + 1) = snT t i ↔ i + 1 < bnT t i) := by
    intro h1
    obtain ⟨x, x1, x2, x3, x4, x5, x6⟩ := ws_at h1
    have b := (st_words t (show w.2.2 + 1 ≤ (esOf t).length by omega) x1).2
    have c := (st_words t (show x.2.2 + 1 ≤ (esOf t).length by omega) w1).2
    have d := (st_words t (show x.2.2 + 1 ≤ (esOf t).length by omega) x1).2
    rw [w3, x3, hb]
    constructor
    · intro q; exact b.mp (by omega)
    · intro q
      have := b.mpr q
      have := d.mp (by omega)
      have := c.mpr (by omega)
      omega
  refine ⟨by rw [hb]; exact a.mp (by omega), by rw [hb]; exact hm, same, fun h1 => ?_, by rw [w3]; omega⟩
  have h2 : i + 1 < (wsOf t).length := by omega
  have := (same h2).mpr h1
  unfold bnT
  rw [this]
theorem sn_beg {t : List Nat} {s : Nat} (hs : s < (esOf t).length) : sFw (esOf t) s = 0 ∨ 0 < sFw (esOf t) s ∧ sFw (esOf t) s - 1 < (wsOf t).length ∧ bnT t (sFw (esOf t) s - 1) = sFw (esOf t) s ∧ snT t (sFw (esOf t) s - 1) < s := by
  by_cases q : sFw (esOf t) s = 0
  · exact Or.inl q
  · right
    have hm := (st_max t (show s ≤ (esOf t).length by omega)).2
    have hi : sFw (esOf t) s - 1 < (wsOf t).length := by omega
    obtain ⟨w, w1, w2, w3, w4, w5, w6⟩ := ws_at hi
    have a := (st_words t (show s ≤ (esOf t).length by omega) w1).2
    have hlt : w.2.2 < s := a.mpr (by omega)
    have b := (st_words t (show w.2.2 + 1 ≤ (esOf t).length by omega) w1).2
    have c := (st_mono t (s - (w.2.2 + 1)) (w.2.2 + 1) (by omega)).2
    rw [show w.2.2 + 1 + (s - (w.2.2 + 1)) = s by omega] at c
    have d := b.mp (by omega)
    refine ⟨by omega, hi, ?_, by rw [w3]; exact hlt⟩
    unfold bnT
    rw [w3]
    omega
theorem boL_0 (tl F : Nat → Nat) (p : Nat) : ∀ c k best least, boL tl F 0 p c k best least = best := by
  intro c
  induction c with
  | zero => intro k best least; rfl
  | succ c ih =>
    intro k best least
    simp only [boL]
    rw [if_neg (fun z => by have := z.1; simp at this)]
    exact ih _ _ _
theorem chE_0 {tl R sn bn : Nat → Nat} {i : Nat} (h : R i = 0) : chE tl R sn bn i = 0 := by
  rw [chE_eq, h]; exact boL_0 _ _ _ _ _ _ _
/-- is a word broken -/
def brB (tl R sn bn : Nat → Nat) (i : Nat) : Bool := bk tl (prvE sn (chE tl R sn bn) i) (chE tl R sn bn i)
theorem brB_0 {tl R sn bn : Nat → Nat} {i : Nat} (h : R i = 0) : brB tl R sn bn i = false := by
  unfold brB bk
  rw [chE_0 h, if_pos (Or.inr rfl)]
section
variable {h : ZH} {tx gx px ls : Nat} {rwt art rwg arg rwp arp : Nat → Nat} {tl R : Nat → Nat} {t : List Nat} {sl : List Sty} {A : List Nat}
/-- what is read of words up to k -/
def RcC (f : FI) (arp : Nat → Nat) (tl R : Nat → Nat) (t : List Nat) (sl : List Sty) (k : Nat) : Prop := ∀ i, i < k → f (arp 1) i = I (pr (chE tl R (snT t) (bnT t) i)) ∧ f (arp 3) i = bI (brB tl R (snT t) (bnT t) i) ∧ f (arp 2) i = I (oz (tkF (wdT t) (chE tl R (snT t) (bnT t)) (bnT t) sl i))
theorem tkF_lt {W : Nat → Wd} {E bn : Nat → Nat} {i r : Nat} (h : tkF W E bn sl i = some r) : r < sl.length := by
  unfold tkF at h
  split at h
  · cases h
  · exact (low_fit h).choose_spec.2.1
theorem read_l (ot : Ob h 10 tx rwt art tSz) (og : Ob h 1 gx rwg arg gSz) (op : Ob h 4 px rwp arp pSz) (dgp : Dj gx arg gSz px arp pSz) (dtp : Dj tx art tSz px arp pSz) (dtg : Dj tx art tSz gx arg gSz) (hA : arg 1 ∈ A ∧ arp 1 ∈ A ∧ arp 2 ∈ A ∧ arp 3 ∈ A) (hs8 : sl.length ≤ 8) (hR : ∀ i, i < (wsOf t).length → R i < 256) (ht : t.length ≤ 100) :
    ∀ (c s n : Nat) (f : FI), s + c = (esOf t).length → c < n → FoS f tx art t → ToldC f (arg 0) tl → SyIs h f ls sl A → (∀ i, i < (wsOf t).length → f (arp 0) i = I (R i)) → RcC f arp tl R t sl (sFw (esOf t) s) →
      ∃ f', p_X3_read_l3 n (some px) (some tx) (some gx) (some ls) (I s) (hI h f) = some ((), hI h f') ∧ RcC f' arp tl R t sl (wsOf t).length ∧ MkC f' px arp (mkA R (brB tl R (snT t) (bnT t)) (tkF (wdT t) (chE tl R (snT t) (bnT t)) (bnT t) sl) (wsOf t).length 0) ∧ (∀ j, j ≠ 6 → f' px j = f px j) ∧ Fr f f' [px, arg 1, arp 1, arp 2, arp 3, arp 4, arp 5] := by
  have el := es_len t
  have w50 := ws_100 ht
  have N := sn_ok t ht
  have e5100 : ∀ {i}, i ≤ (esOf t).length → i < 102 := fun {i} h => by omega
  intro c
  induction c with
  | zero =>
    intro s n f hs hn F T S D X
    obtain ⟨n, rfl⟩ := Nat.exists_eq_add_of_lt hn
    have hs' : s = (esOf t).length := by omega
    rw [hs', (st_end t).2] at X
    have e0 : f tx 8 = I (esOf t).length := F.2.2.2.1
    have e7 : f tx 7 = I (wsOf t).length := F.2.2.1.1
    have e1 : I ((esOf t).length : Int) ≤ I (s : Int) := by rw [I_le (by omega) (by omega)]; omega
    obtain ⟨f', p1, p2, p3⟩ := listM_eq (h := h) (B := brB tl R (snT t) (bnT t)) (T := tkF (wdT t) (chE tl R (snT t) (bnT t)) (bnT t) sl) op w50 hR (fun i r hr => by have := tkF_lt hr; omega) (fun i hi => brB_0 hi) (fun j hj => ⟨D j hj, (X j hj).2.1, (X j hj).2.2⟩)
    refine ⟨f', ?_, fun i hi => ?_, p2, fun j hj => p3.1 j (by simpa using hj), fun b hb => p3.2 b (fun q => hb (by rw [q]; simp)) (fun q => hb (by
      simp only [List.map_cons, List.map_nil, List.mem_cons, List.not_mem_nil, or_false] at q ⊢
      rcases q with q | q
      · rw [q]; simp
      · rw [q]; simp))⟩
    · show p_X3_read_c3 _ _ _ _ _ _ _ = _
      simp only [p_X3_read_c3, p_X3_read_b71, p_X9_sentenceCount, p_X9_wordCount, z_b, z_rt, ite_ap, o_vr ot, o_gI ot, e0, e1, if_true, e7, o_vr op, p1]
    · rw [p3.at_ op (j := 1) (by decide) (by simp) (by decide), p3.at_ op (j := 3) (by decide) (by simp) (by decide), p3.at_ op (j := 2) (by decide) (by simp) (by decide)]
      exact X i hi
  | succ c ih =>
    intro s n f hs hn F T S D X
    cases n with
    | zero => exact absurd hn (Nat.not_lt_zero _)
    | succ n =>
      have hsl : s < (esOf t).length := by omega
      have e0 : f tx 8 = I (esOf t).length := F.2.2.2.1
      have e1 : ¬ I ((esOf t).length : Int) ≤ I (s : Int) := by rw [I_le (by omega) (by omega)]; omega
      have e2 : I (s : Int) + 1 = I ((s + 1 : Nat) : Int) := I_add _ 1
      have hle := (st_le t hsl).2
      have hmx := (st_max t (show s + 1 ≤ (esOf t).length by omega)).2
      have fa := (foc_st F.toC (show s ≤ (esOf t).length by omega)).2
      have fb := (foc_st F.toC (show s + 1 ≤ (esOf t).length by omega)).2
      generalize ha : sFw (esOf t) s = a at *
      generalize hb : sFw (esOf t) (s + 1) = b at *
      have inS : ∀ i, a ≤ i → i < b → i < (wsOf t).length ∧ snT t i = s ∧ bnT t i = b := fun i h1 h2 => by
        have := sn_in hsl (i := i) (by rw [ha]; exact h1) (by rw [hb]; exact h2)
        rw [hb] at this; exact this
      have beg := sn_beg hsl
      rw [ha] at beg
      -- readings are chosen
      have E0 : a < b → chE tl R (snT t) (bnT t) a = bestOf tl (fewN tl R (b - 1 - a) a) (R a) 0 := by
        intro hab
        rw [chE_eq, (inS a (Nat.le_refl _) hab).2.2]
        have : prvE (snT t) (chE tl R (snT t) (bnT t)) a = 0 := by
          unfold prvE
          rw [if_neg]
          rintro ⟨q1, q2⟩
          rcases beg with z | z
          · omega
          · rw [(inS a (Nat.le_refl _) hab).2.1] at q2; omega
        rw [this]
      have E1 : ∀ j, a < j → j < b → chE tl R (snT t) (bnT t) j = bestOf tl (fewN tl R (b - 1 - j) j) (R j) (chE tl R (snT t) (bnT t) (j - 1)) := by
        intro j h1 h2
        rw [chE_eq j, (inS j (by omega) h2).2.2]
        have : prvE (snT t) (chE tl R (snT t) (bnT t)) j = chE tl R (snT t) (bnT t) (j - 1) := by
          unfold prvE
          rw [if_pos ⟨by omega, by rw [(inS j (by omega) h2).2.1, (inS (j - 1) (by omega) (by omega)).2.1]⟩]
        rw [this]
      obtain ⟨f1, u1, u2, u3, u4⟩ := choose_eq (h := h) (tl := tl) og op dgp (a := a) (b := b) (by omega) hle (fun j hj => hR j (by omega)) E0 E1 T (fun j hj => D j (by omega))
      have g0 : arg 0 ≠ arg 1 := o_ne og (by decide) (by decide) (by decide)
      have g0p : ∀ j, pSz j ≠ 0 → arg 0 ≠ arp j := fun j hj => dgp.2.2.2 0 j (by decide) hj
      have g1p : ∀ j, pSz j ≠ 0 → arg 1 ≠ arp j := fun j hj => dgp.2.2.2 1 j (by decide) hj
      have T1 : ToldC f1 (arg 0) tl := toldC_fr T u4 (by simp only [List.mem_cons, List.not_mem_nil, or_false, not_or]; exact ⟨g0, g0p 1 (by decide)⟩)
      obtain ⟨f2, v1, v2, v3, v4⟩ := mark_eq (h := h) (tl := tl) og op dgp (a := a) (b := b) (by omega) hle (E := chE tl R (snT t) (bnT t)) chE_le T1 u2
      have F12 : Fr f f2 [arg 1, arp 1, arp 3] := (u4.mono (by simp)).trans (v4.mono (by simp))
      have n13 : arp 1 ≠ arp 3 := o_ne op (by decide) (by decide) (by decide)
      have n12 : arp 1 ≠ arp 2 := o_ne op (by decide) (by decide) (by decide)
      have n32 : arp 3 ≠ arp 2 := o_ne op (by decide) (by decide) (by decide)
      have tA : ∀ i, tSz i ≠ 0 → art i ∉ [arg 1, arp 1, arp 3] := fun i hi => by
        simp only [List.mem_cons, List.not_mem_nil, or_false, not_or]
        exact ⟨dtg.2.2.2 i 1 hi (by decide), dtp.2.2.2 i 1 hi (by decide), dtp.2.2.2 i 3 hi (by decide)⟩
      have txA : tx ∉ [arg 1, arp 1, arp 3] := by
        simp only [List.mem_cons, List.not_mem_nil, or_false, not_or]
        exact ⟨dtg.2.1 1 (by decide), dtp.2.1 1 (by decide), dtp.2.1 3 (by decide)⟩
      have keepF : ∀ {f f' : FI} {L : List Nat}, Fr f f' L → (∀ i, tSz i ≠ 0 → art i ∉ L) → tx ∉ L → FoS f tx art t → FoS f' tx art t := fun {f f' L} fr h1 h2 F => by
        unfold FoS TxC WsC EsC at *
        rw [fr tx h2, fr (art 0) (h1 0 (by decide)), fr (art 1) (h1 1 (by decide)), fr (art 2) (h1 2 (by decide)), fr (art 3) (h1 3 (by decide)), fr (art 4) (h1 4 (by decide)), fr (art 5) (h1 5 (by decide))]
        exact F
      have Ft2 := keepF F12 tA txA F
      have sub12 : ∀ x ∈ [arg 1, arp 1, arp 3], x ∈ A := by
        intro x q
        simp only [List.mem_cons, List.not_mem_nil, or_false] at q
        rcases q with q | q | q
        · rw [q]; exact hA.1
        · rw [q]; exact hA.2.1
        · rw [q]; exact hA.2.2.2
      have sub4 : ∀ x ∈ [arp 2], x ∈ A := by
        intro x q
        rw [List.mem_singleton.mp q]; exact hA.2.2.1
      have S2 : SyIs h f2 ls sl A := S.fr (F12.mono sub12)
      have D2 : WdC f2 (art 3) (arp 1) (wdT t) (chE tl R (snT t) (bnT t)) a b := by
        intro i h1 h2
        obtain ⟨hi, -, -⟩ := inS i h1 h2
        obtain ⟨w, w1, w2, w3, w4, w5, w6⟩ := ws_at hi
        obtain ⟨z1, z2, z3⟩ := Ft2.2.2.1.2 i w w1
        refine ⟨by rw [w2]; exact z3, by rw [w2]; exact w4, ?_, chE_le i⟩
        rw [v4 (arp 1) (by simpa using n13)]
        exact u2 i h1 h2
      obtain ⟨f3, x1, x2, x3, x4⟩ := tks_eq (h := h) (W := wdT t) (E := chE tl R (snT t) (bnT t)) (sl := sl) N ot op (dtp.2.2.2 3 2 (by decide) (by decide)) hA.2.2.1 hs8 (a := a) (b := b) (by omega) hle (fun i h1 h2 => (inS i h1 h2).2.2) (beg.elim Or.inl (fun z => Or.inr ⟨z.1, z.2.1, z.2.2.1⟩)) S2 D2
      have F13 : Fr f f3 [arg 1, arp 1, arp 2, arp 3] := (F12.mono (by simp)).trans (x4.mono (by simp))
      have X3 : RcC f3 arp tl R t sl b := by
        intro i hi
        by_cases q : a ≤ i
        · refine ⟨?_, ?_, x2 i q hi⟩
          · rw [x4 (arp 1) (by simpa using n12), v4 (arp 1) (by simpa using n13)]
            exact u2 i q hi
          · rw [x4 (arp 3) (by simpa using n32), v2 i q hi]
            congr 1
            unfold brB
            by_cases z : a < i
            · rw [if_pos z]
              have : prvE (snT t) (chE tl R (snT t) (bnT t)) i = chE tl R (snT t) (bnT t) (i - 1) := by
                unfold prvE
                rw [if_pos ⟨by omega, by rw [(inS i q hi).2.1, (inS (i - 1) (by omega) (by omega)).2.1]⟩]
              rw [this]
            · have hia : i = a := by omega
              subst hia
              rw [if_neg z]
              have : prvE (snT t) (chE tl R (snT t) (bnT t)) i = 0 := by
                unfold prvE
                rw [if_neg]
                rintro ⟨q1, q2⟩
                rcases beg with y | y
                · omega
                · rw [(inS i q hi).2.1] at q2; omega
              rw [this]
              unfold bk
              rw [if_pos (Or.inl rfl)]
        · obtain ⟨y1, y2, y3⟩ := X i (by omega)
          refine ⟨?_, ?_, ?_⟩
          · rw [x4 (arp 1) (by simpa using n12), v4 (arp 1) (by simpa using n13), u3 i (by omega)]; exact y1
          · rw [x4 (arp 3) (by simpa using n32), v3 i (by omega), u4 (arp 3) (by simp only [List.mem_cons, List.not_mem_nil, or_false, not_or]; exact ⟨(g1p 3 (by decide)).symm, n13.symm⟩)]; exact y2
          · rw [x3 i (by omega), v4 (arp 2) (by simpa using n32.symm), u4 (arp 2) (by simp only [List.mem_cons, List.not_mem_nil, or_false, not_or]; exact ⟨(g1p 2 (by decide)).symm, n12.symm⟩)]; exact y3
      have F3 : FoS f3 tx art t := keepF x4 (fun i hi => by simpa using dtp.2.2.2 i 2 hi (by decide)) (by simpa using dtp.2.1 2 (by decide)) Ft2
      have T3 : ToldC f3 (arg 0) tl := toldC_fr T F13 (by simp only [List.mem_cons, List.not_mem_nil, or_false, not_or]; exact ⟨g0, g0p 1 (by decide), g0p 2 (by decide), g0p 3 (by decide)⟩)
      have D3 : ∀ i, i < (wsOf t).length → f3 (arp 0) i = I (R i) := fun i hi => by
        rw [F13 (arp 0)]
        · exact D i hi
        · simp only [List.mem_cons, List.not_mem_nil, or_false, not_or]
          exact ⟨(g1p 0 (by decide)).symm, o_ne op (by decide) (by decide) (by decide), o_ne op (by decide) (by decide) (by decide), o_ne op (by decide) (by decide) (by decide)⟩
      obtain ⟨f', p1, p2, p3, p4, p5⟩ := ih (s + 1) n f3 (by omega) (by omega) F3 T3 (S2.fr (x4.mono sub4)) D3 (by rw [hb]; exact X3)
      refine ⟨f', ?_, p2, p3, fun j hj => ?_, (F13.mono (by simp)).trans p5⟩
      · rw [← p1]
        show p_X3_read_c3 (p_X3_read_l3 n) _ _ _ _ _ _ = _
        simp only [p_X3_read_c3, p_X9_sentenceCount, p_X9_firstWordOf, z_b, z_n, z_rt, ite_ap, o_vr ot, o_gI ot, e0, e1, if_false, o_gR ot 5 (by decide), o_rv ot 5 (by decide), o_get ot 5 102 rfl (show s < 102 by omega), fa, e2, o_get ot 5 102 rfl (show s + 1 < 102 by omega), fb, o_gR op 0 (by decide), o_gR op 1 (by decide), o_vr og, u1, o_vr op, v1, x1]
      · rw [p4 j hj, F13 px]
        simp only [List.mem_cons, List.not_mem_nil, or_false, not_or]
        exact ⟨(dgp.2.2.1 1 (by decide)).symm, (o_nx op (by decide)).symm, (o_nx op (by decide)).symm, (o_nx op (by decide)).symm⟩
theorem read_eq (ot : Ob h 10 tx rwt art tSz) (og : Ob h 1 gx rwg arg gSz) (op : Ob h 4 px rwp arp pSz) (dgp : Dj gx arg gSz px arp pSz) (dtp : Dj tx art tSz px arp pSz) (dtg : Dj tx art tSz gx arg gSz) (hA : arg 1 ∈ A ∧ arp 1 ∈ A ∧ arp 2 ∈ A ∧ arp 3 ∈ A) (hs8 : sl.length ≤ 8) (hR : ∀ i, i < (wsOf t).length → R i < 256) {f : FI} (F : FoC f tx art t) (T : ToldC f (arg 0) tl) (S : SyIs h f ls sl A) (D : ∀ i, i < (wsOf t).length → f (arp 0) i = I (R i)) :
      ∃ f', p_X3_read (some px) (some tx) (some gx) (some ls) (hI h f) = some ((), hI h f') ∧ RcC f' arp tl R t sl (wsOf t).length ∧ MkC f' px arp (mkA R (brB tl R (snT t) (bnT t)) (tkF (wdT t) (chE tl R (snT t) (bnT t)) (bnT t) sl) (wsOf t).length 0) ∧ (∀ j, j ≠ 6 → f' px j = f px j) ∧ Fr f f' [px, arg 1, arp 1, arp 2, arp 3, arp 4, arp 5] := by
  rcases F.2.2.2.1 with h8 | ⟨h0, h8⟩
  · exact read_l ot og op dgp dtp dtg hA hs8 hR F.1.2.1 (esOf t).length 0 zFuel f (by omega) (by have := es_len t; have := F.1.2.1; unfold zFuel; omega) ⟨F.1, F.2.1, F.2.2.1, h8, F.2.2.2.2⟩ T S D (fun i hi => absurd hi (Nat.not_lt_zero _))
  · subst h0
    have hw : (wsOf []).length = 0 := rfl
    have e7 : f tx 7 = I ((wsOf []).length : Int) := F.2.2.1.1
    obtain ⟨f', p1, p2, p3⟩ := listM_eq (h := h) (f := f) (nn := (wsOf []).length) (B := brB tl R (snT []) (bnT [])) (T := tkF (wdT []) (chE tl R (snT []) (bnT [])) (bnT []) sl) op (by decide) hR (fun i r hr => by have := tkF_lt hr; omega) (fun i hi => brB_0 hi) (fun j hj => absurd hj (by rw [hw]; exact Nat.not_lt_zero _))
    refine ⟨f', ?_, fun i hi => absurd hi (by rw [hw]; exact Nat.not_lt_zero _), p2, fun j hj => p3.1 j (by simpa using hj), fun b hb => p3.2 b (fun q => hb (by rw [q]; simp)) (fun q => hb (by
      simp only [List.map_cons, List.map_nil, List.mem_cons, List.not_mem_nil, or_false] at q ⊢
      rcases q with q | q
      · rw [q]; simp
      · rw [q]; simp))⟩
    have e0 : (0 : Int32) ≤ 0 := by decide
    show p_X3_read_c3 _ _ _ _ _ 0 _ = _
    simp only [p_X3_read_c3, p_X3_read_b71, p_X9_sentenceCount, p_X9_wordCount, z_b, z_rt, ite_ap, o_vr ot, o_gI ot, h8, e0, if_true, e7, o_vr op, p1]
end
