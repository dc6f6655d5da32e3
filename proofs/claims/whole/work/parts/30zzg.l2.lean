/-! ===== suggestions: both list the same ===== -/
theorem uniqE : ∀ {l1 l2 : List (Nat × Wd)}, l1.Pairwise ltE → l2.Pairwise ltE → (∀ e, e ∈ l1 ↔ e ∈ l2) → l1 = l2 := by
  intro l1
  induction l1 with
  | nil =>
    intro l2 _ _ h
    cases l2 with
    | nil => rfl
    | cons b t => exact absurd ((h b).mpr (by simp)) (by simp)
  | cons a t1 ih =>
    intro l2 h1 h2 h
    cases l2 with
    | nil => exact absurd ((h a).mp (by simp)) (by simp)
    | cons b t2 =>
      rw [List.pairwise_cons] at h1 h2
      have hab : a = b := by
        rcases List.mem_cons.mp ((h a).mp (by simp)) with q | q
        · exact q
        · rcases List.mem_cons.mp ((h b).mpr (by simp)) with z | z
          · exact z.symm
          · exact absurd (ltE_trans (h1.1 b z) (h2.1 a q)) ltE_irr
      subst hab
      rw [ih h1.2 h2.2 (fun e => ?_)]
      have he := h e
      rw [List.mem_cons, List.mem_cons] at he
      constructor
      · intro q
        rcases he.mp (Or.inr q) with z | z
        · rw [z] at q; exact absurd (h1.1 a q) ltE_irr
        · exact z
      · intro q
        rcases he.mpr (Or.inr q) with z | z
        · rw [z] at q; exact absurd (h2.1 a q) ltE_irr
        · exact z
/-- the class's list, with costs -/
def catE (cs : Wd → Nat) (wl : List Wd) : List (Nat × Wd) := (catW cs wl).map (fun w => (cs w, w))
theorem catE_mem {cs : Wd → Nat} {wl : List Wd} {e : Nat × Wd} : e ∈ catE cs wl ↔ e.2 ∈ wl ∧ (1 ≤ cs e.2 ∧ cs e.2 ≤ 4) ∧ e.1 = cs e.2 := by
  unfold catE catW grp
  simp only [List.mem_map, List.mem_append, List.mem_filter, beq_iff_eq]
  constructor
  · rintro ⟨w, h1, h2⟩
    subst h2
    refine ⟨?_, ?_, rfl⟩
    · rcases h1 with q | q | q | q <;> exact q.1
    · show 1 ≤ cs w ∧ cs w ≤ 4
      rcases h1 with q | q | q | q <;> omega
  · rintro ⟨h1, h2, h3⟩
    refine ⟨e.2, ?_, by rw [← h3]⟩
    have h4 : cs e.2 = 1 ∨ cs e.2 = 2 ∨ cs e.2 = 3 ∨ cs e.2 = 4 := by omega
    rcases h4 with q | q | q | q
    · exact Or.inl ⟨h1, q⟩
    · exact Or.inr (Or.inl ⟨h1, q⟩)
    · exact Or.inr (Or.inr (Or.inl ⟨h1, q⟩))
    · exact Or.inr (Or.inr (Or.inr ⟨h1, q⟩))
theorem grp_pw {cs : Wd → Nat} {wl : List Wd} (hs : wl.Pairwise (fun a b => mN a < mN b)) (c : Nat) : ((grp cs wl c).map (fun w => (cs w, w))).Pairwise ltE := by
  rw [List.pairwise_map]
  have h1 : (grp cs wl c).Pairwise (fun a b => mN a < mN b) := List.Pairwise.filter _ hs
  refine List.Pairwise.imp_of_mem ?_ h1
  intro a b ha hb hab
  have a1 : cs a = c := by have := (List.mem_filter.mp ha).2; simpa using this
  have b1 : cs b = c := by have := (List.mem_filter.mp hb).2; simpa using this
  exact Or.inr ⟨by rw [a1, b1], hab⟩
theorem grp_cost {cs : Wd → Nat} {wl : List Wd} {c : Nat} {e : Nat × Wd} (h : e ∈ (grp cs wl c).map (fun w => (cs w, w))) : e.1 = c := by
  obtain ⟨w, h1, h2⟩ := List.mem_map.mp h
  have a1 : cs w = c := by have := (List.mem_filter.mp h1).2; simpa using this
  rw [← h2]; exact a1
theorem catE_pw {cs : Wd → Nat} {wl : List Wd} (hs : wl.Pairwise (fun a b => mN a < mN b)) : (catE cs wl).Pairwise ltE := by
  unfold catE catW
  rw [List.map_append, List.map_append, List.map_append, List.pairwise_append, List.pairwise_append, List.pairwise_append]
  refine ⟨grp_pw hs 1, ⟨grp_pw hs 2, ⟨grp_pw hs 3, grp_pw hs 4, fun a ha b hb => Or.inl ?_⟩, fun a ha b hb => Or.inl ?_⟩, fun a ha b hb => Or.inl ?_⟩
  · have := grp_cost ha; have := grp_cost hb; omega
  · have h1 := grp_cost ha
    rcases List.mem_append.mp hb with q | q <;> have := grp_cost q <;> omega
  · have h1 := grp_cost ha
    rcases List.mem_append.mp hb with q | q
    · have := grp_cost q; omega
    · rcases List.mem_append.mp q with q | q <;> have := grp_cost q <;> omega
/-- a word costs nothing only if it is that word -/
theorem cst_0 {uw w : Wd} {al : Nat → Nat → Bool} : cst (ltr uw) al uw.length w = 0 ↔ w = uw := by
  unfold cst
  rw [CF_zero (uw.length + w.length) uw.length w.length (Nat.le_refl _)]
  constructor
  · rintro ⟨h1, h2⟩
    refine List.ext_getElem h1.symm (fun i hi1 hi2 => ?_)
    have := h2 i hi2
    unfold ltr at this
    rw [List.getD_eq_getElem?_getD, List.getD_eq_getElem?_getD, List.getElem?_eq_getElem hi1, List.getElem?_eq_getElem hi2] at this
    exact this.symm
  · rintro rfl
    exact ⟨rfl, fun k _ => rfl⟩
section
variable {h : ZH} {M : Nat} {ar : Nat → Nat} {al : Nat → Nat → Bool} {os bs : List Ow}
theorem su_sorted {S : Nat × Wd → Prop} {G : Nat → Nat × Wd} {n : Nat} (hS : SeG S G n) (hs : Srt G n) {l : List (Nat × Wd)} (hl : l.Pairwise ltE) (hm : ∀ e, e ∈ l ↔ S e) : n = l.length ∧ ∀ i e, l[i]? = some e → G i = e := by
  have e : (List.range n).map G = l := by
    refine uniqE ?_ hl (fun e => ?_)
    · rw [List.pairwise_map]
      refine List.Pairwise.imp_of_mem ?_ (List.pairwise_lt_range (n := n))
      intro a b ha hb hab
      exact hs a b hab (List.mem_range.mp hb)
    · rw [hm e, ← hS.1 e, List.mem_map]
      constructor
      · rintro ⟨i, h1, h2⟩; exact ⟨i, List.mem_range.mp h1, h2⟩
      · rintro ⟨i, h1, h2⟩; exact ⟨i, List.mem_range.mpr h1, h2⟩
  refine ⟨by rw [← e]; simp, fun i x hx => ?_⟩
  rw [← e, List.getElem?_map] at hx
  have hi : i < n := by
    by_cases q : i < n
    · exact q
    · rw [List.getElem?_eq_none (by simp; omega)] at hx; cases hx
  rw [List.getElem?_range hi] at hx
  exact Option.some.inj hx
/-- letters of the word -/
theorem su19 (m : MAt h M ar) {t : List Nat} {j : Nat} {w : Wr} (hw : (wsOf t)[j]? = some w) (hn : w.2.1.length ≤ 12) (hwW : isW w.2.1) (ht : t.length ≤ 100) (g : FL) :
    ∀ (c k q : Nat) (f : FI), k + c = w.2.1.length → c < q → TxM f ar M t → WsM f g ar M (wsOf t) → LtM f ar (ltr w.2.1) k →
      ∃ f', p_X12_suggests_l19 q (some M) (I j) (I k) (hM h f g) = p_X12_suggests_l63 zFuel (some M) (I j) 0 (hM h f' g) ∧ LtM f' ar (ltr w.2.1) w.2.1.length ∧ MFr f f' g g ar M [] [51] := by
  have hj : j < 101 := by have := ws_100 ht; have := lt_of_get hw; omega
  obtain ⟨a1, a2, a3, a4, a5⟩ := (scan_ok t).2.2.2.1 j w hw
  intro c
  induction c with
  | zero =>
    intro k q f hk hq T W V
    obtain ⟨q, rfl⟩ := Nat.exists_eq_add_of_lt hq
    obtain ⟨w1, w2, -⟩ := W.2 j w hw
    have e1 : I (w.2.1.length : Int) ≤ I (k : Int) := by rw [I_le (by omega) (by omega)]; omega
    rw [show k = w.2.1.length by omega] at V
    refine ⟨f, ?_, V, MFr.refl _ _ _ _ _ _⟩
    show p_X12_suggests_c19 _ _ _ _ _ = _
    simp only [p_X12_suggests_c19, p_X12_suggests_b61, z_b, ite_ap, m_gR m 42 (by decide), m_aI m 42 101 (by decide) hj (by decide), w2, e1, if_true]
  | succ c ih =>
    intro k q f hk hq T W V
    cases q with
    | zero => exact absurd hq (Nat.not_lt_zero _)
    | succ q =>
      obtain ⟨w1, w2, -⟩ := W.2 j w hw
      have e1 : ¬ I (w.2.1.length : Int) ≤ I (k : Int) := by rw [I_le (by omega) (by omega)]; omega
      have e2 : I (k : Int) + 1 = I ((k + 1 : Nat) : Int) := I_add _ 1
      have gg := T.2.2 _ _ (a5 k (by omega))
      have e3 : I ((97 + w.2.1.getD k 0 : Nat) : Int) - 97 + 1 = I ((ltr w.2.1 k + 1 : Nat) : Int) := by
        rw [show (97 : Int32) = I ((97 : Nat) : Int) from rfl, I_sn _ 97 (by omega), Nat.add_sub_cancel_left]
        exact I_add _ 1
      have F1 : MFr f (zu f (ar 51) (k + 1) (I ((ltr w.2.1 k + 1 : Nat) : Int))) g g ar M [] [51] := MFr.sI m 51 _ _ (by decide) (by simp)
      obtain ⟨f', p1, p2, p3⟩ := ih (k + 1) q (zu f (ar 51) (k + 1) (I ((ltr w.2.1 k + 1 : Nat) : Int))) (by omega) (by omega) (T.fr F1 m (by simp) (by simp) (by decide))
        ⟨by rw [(F1.1 40 (by simp)).1]; exact W.1, fun i x hx => by
          rw [(F1.at_ m (j := 41) (by decide) (by simp) (by decide)).1, (F1.at_ m (j := 42) (by decide) (by simp) (by decide)).1, (F1.at_ m (j := 43) (by decide) (by simp) (by decide)).1]
          exact W.2 i x hx⟩
        (fun x hx => by
          rw [zu_cell]
          by_cases y : x = k
          · rw [if_pos (by omega), y]; exact ⟨rfl, getD_lt8 hwW k⟩
          · rw [if_neg (by omega)]; exact V x (by omega))
      refine ⟨f', ?_, p2, F1.trans p3⟩
      rw [← p1]
      show p_X12_suggests_c19 (p_X12_suggests_l19 q) _ _ _ _ = _
      simp only [p_X12_suggests_c19, z_b, z_n, ite_ap, m_gR m 42 (by decide), m_aI m 42 101 (by decide) hj (by decide), w2, e1, if_false, m_gR m 51 (by decide), m_gR m 33 (by decide), m_gR m 41 (by decide), m_aI m 41 101 (by decide) hj (by decide), w1, I_an, m_aI m 33 100 (by decide) (show w.1 + k < 100 by omega) (by decide), gg, e3, e2, m_sI m 51 13 (by decide) (show k + 1 < 13 by omega) (by decide)]
/-- the reference lists what the class lists -/
theorem su_eq (m : MAt h M ar) {lm lo lb : Bk} (hlm : lm.length ≤ 1548) (Ro : OwR lo os) (Rb : OwR lb bs) (hdis : ∀ w, fnx w os 0 ≠ none → fnx w bs 0 = none) {wl : List Wd} (hs : wl.Pairwise (fun a b => mN a < mN b)) (hwl : ∀ w, w ∈ wl → WdOk w) (hmem : ∀ w, WdOk w → (w ∈ wl ↔ (bget lm (cN w) / 65536 % 2 = 1 ∧ fnx w bs 0 = none) ∨ fnx w os 0 ≠ none)) {t : List Nat} {j : Nat} {w : Wr} (hw : (wsOf t)[j]? = some w) {f : FI} {g : FL} (TT : TC f g ar M lm) (OM : OwM f g ar M os) (BM : BaM f g ar M bs) (A : AlM f ar al) (T : TxM f ar M t) (W : WsM f g ar M (wsOf t)) :
    ∃ f' g', p_X12_suggests (some M) (I j) (hM h f g) = some ((), hM h f' g') ∧ FoM f' g' ar M (catE (cst (ltr w.2.1) al w.2.1.length) wl) ∧ MFr f f' g g' ar M [52] [50, 51, 53, 54] := by
  have ht := T.2.1
  have hj : j < 101 := by have := ws_100 ht; have := lt_of_get hw; omega
  obtain ⟨a1, a2, a3, a4, a5⟩ := (scan_ok t).2.2.2.1 j w hw
  obtain ⟨w1, w2, w3, w4⟩ := W.2 j w hw
  have e1 : (I (w.2.1.length : Int) ≤ 12) ↔ w.2.1.length ≤ 12 := by rw [lit, I_le (by omega) (by decide)]; omega
  have n42 := (m.2.1 42 (by decide)).2.2
  have F1 : MFr f (zu f M 52 0) g g ar M [52] [50, 51, 53, 54] := MFr.pI 52 0 (by simp)
  have e2 : zu f M 52 0 (ar 42) j = I w.2.1.length := by rw [zu_ne n42]; exact w2
  by_cases hn : w.2.1.length ≤ 12
  · have W1 : WsM (zu f M 52 0) g ar M (wsOf t) := ⟨by rw [(F1.1 40 (by simp)).1]; exact W.1, fun i x hx => by
      rw [(F1.at_ m (j := 41) (by decide) (by simp) (by decide)).1, (F1.at_ m (j := 42) (by decide) (by simp) (by decide)).1, (F1.at_ m (j := 43) (by decide) (by simp) (by decide)).1]
      exact W.2 i x hx⟩
    obtain ⟨f1, v1, v2, v3⟩ := su19 (h := h) m hw hn a1 ht g w.2.1.length 0 zFuel (zu f M 52 0) (by omega) (by unfold zFuel; omega) (T.fr F1 m (by simp) (by simp) (by decide)) W1 (fun x hx => absurd hx (Nat.not_lt_zero _))
    have F2 := F1.trans (v3.mono (ss' := [52]) (as' := [50, 51, 53, 54]) (by simp) (by simp))
    obtain ⟨K, P, Q, O, t1, C, t3⟩ := TT
    have OM1 : OwM f1 g ar M os := ⟨by rw [(F2.1 17 (by simp)).1]; exact OM.1, OM.2.1, fun i p hp => by rw [(F2.at_ m (j := 18) (by decide) (by simp) (by decide)).2, (F2.at_ m (j := 19) (by decide) (by simp) (by decide)).1]; exact OM.2.2 i p hp⟩
    have BM1 : BaM f1 g ar M bs := ⟨by rw [(F2.1 20 (by simp)).1]; exact BM.1, BM.2.1, fun i p hp => by rw [(F2.at_ m (j := 21) (by decide) (by simp) (by decide)).2]; exact BM.2.2 i p hp⟩
    have OO : OfM f1 g ar M bs w.2.1 al j := by
      refine ⟨BM1, ⟨fun x y hx hy => by rw [(F2.at_ m (j := 16) (by decide) (by simp) (by decide)).1]; exact A x y hx hy, v2⟩, ?_, w4⟩
      rw [(F2.at_ m (j := 42) (by decide) (by simp) (by decide)).1]; exact w2
    have L0 : FoM f1 g ar M [] := ⟨by rw [(v3.1 52 (by simp)).1]; exact zu_same _ _ _ _, fun i e he => by cases he⟩
    obtain ⟨f2, g2, l', y1, y2, y3, y4, y5, y6⟩ := su63 (al := al) m C hlm (fun p hp => (Ro.2.1 p hp).1) Ro.1 (fun p hp => (Rb.2.1 p hp).1) a1 hn hj 16384 0 zFuel f1 g [] (by omega) (by unfold zFuel; omega)
      (fun s hs => by
        rw [(F2.at_ m (j := 36) (by decide) (by simp) (by decide)).2, (F2.at_ m (j := 37) (by decide) (by simp) (by decide)).1, (F2.at_ m (j := 38) (by decide) (by simp) (by decide)).1, (F2.at_ m (j := 39) (by decide) (by simp) (by decide)).1]
        exact t1 s hs) OM1 OO L0 (Nat.le_refl _) (fun e => Iff.intro (fun q => by cases q) (fun ⟨s, _, z, _⟩ => absurd z (Nat.not_lt_zero _))) (by simp)
    -- as a row
    have hG : FoG f2 g2 ar M (fun i => l'.getD i (0, [])) l'.length := ⟨y2.1, fun i hi => y2.2 i _ (getD_some hi)⟩
    have hS : SeG (fun e => e ∈ l') (fun i => l'.getD i (0, [])) l'.length := by
      refine ⟨fun e => ?_, fun i k hi hk hik => ?_, fun e he => ?_⟩
      · constructor
        · rintro ⟨i, h1, h2⟩
          have := getD_some (t := l') (d := (0, [])) h1
          have h2' : l'.getD i (0, []) = e := h2
          rw [h2'] at this
          exact List.mem_of_getElem? this
        · intro he
          obtain ⟨i, h1, h2⟩ := List.getElem_of_mem he
          exact ⟨i, h1, by show l'.getD i (0, []) = e; rw [List.getD_eq_getElem?_getD, List.getElem?_eq_getElem h1]; exact h2⟩
      · have g1 : (l'.map Prod.snd)[i]? = some (l'.getD i (0, [])).2 := by rw [List.getElem?_map, getD_some (d := (0, [])) hi]; rfl
        have g2 : (l'.map Prod.snd)[k]? = some (l'.getD i (0, [])).2 := by
          rw [List.getElem?_map, getD_some (d := (0, [])) hk]
          exact congrArg some hik.symm
        exact nd_inj y5 g1 g2
      · rcases (y4 e).mp he with ⟨s, w', z1, z2, z3, z4, z5, z6, z7⟩ | ⟨i, w', r, z1, z2, z3, z4⟩
        · rw [z7]; exact ⟨z6.2.2, z2⟩
        · rw [z4]; exact ⟨z3.2.2, (Ro.2.1 _ (List.mem_of_getElem? z2)).1⟩
    obtain ⟨f3, g3, G3, x1, x2, x3, x4, x5⟩ := so_eq (h := h) m y3 f2 g2 _ hG hS
    have key : ∀ e, e ∈ catE (cst (ltr w.2.1) al w.2.1.length) wl ↔ e ∈ l' := by
      intro e
      rw [catE_mem, y4 e]
      have c0 := cst_0 (uw := w.2.1) (w := e.2) (al := al)
      constructor
      · rintro ⟨h1, h2, h3⟩
        have hok := hwl _ h1
        have hne : e.2 ≠ w.2.1 := fun q => by have := c0.mpr q; omega
        have he : e = (cst (ltr w.2.1) al w.2.1.length e.2, e.2) := by rw [← h3]
        by_cases ho : fnx e.2 os 0 = none
        · rcases (hmem _ hok).mp h1 with ⟨z1, z2⟩ | z
          · left
            have hh : hk lm (cN e.2) := Classical.byContradiction (fun q => by rw [bget_none q] at z1; simp at z1)
            obtain ⟨s, s1, s2⟩ := C.2.2.2.2.1 e.2 hok hh
            obtain ⟨b1, b2, b3⟩ := C.2.2.2.2.2.1 s s1
            obtain ⟨-, w', q1, q2, q3, q4⟩ := C.2.2.1 s s1 (by have := mN_pos hok.2.1; omega)
            have : w' = e.2 := (mN_inj q1.1 hok.1).mp (q2.symm.trans s2)
            rw [this] at q4
            exact ⟨s, e.2, s1, hok, s2, by omega, ho, ⟨hne, z2, h2.2⟩, he⟩
          · exact absurd ho z
        · right
          cases hf : fnx e.2 os 0 with
          | none => exact absurd hf ho
          | some i =>
            obtain ⟨-, i2, r, i3⟩ := fnx_some hf
            have i3' : os[i]? = some (e.2, r) := i3
            exact ⟨i, e.2, r, by omega, i3', ⟨hne, hdis _ ho, h2.2⟩, he⟩
      · rintro (⟨s, w', z1, z2, z3, z4, z5, z6, z7⟩ | ⟨i, w', r, z1, z2, z3, z4⟩)
        · rw [z7]
          obtain ⟨b1, b2, b3⟩ := C.2.2.2.2.2.1 s z1
          obtain ⟨-, w2', q1, q2, q3, q4⟩ := C.2.2.1 s z1 (by have := mN_pos z2.2.1; omega)
          have : w2' = w' := (mN_inj q1.1 z2.1).mp (q2.symm.trans z3)
          rw [this] at q4
          have c1 : cst (ltr w.2.1) al w.2.1.length w' ≠ 0 := fun q => z6.1 (cst_0.mp q)
          rw [z4] at q4
          have q5 : bget lm (cN w') / 65536 % 2 = 1 := by omega
          exact ⟨(hmem _ z2).mpr (Or.inl ⟨q5, z6.2.1⟩), ⟨Nat.pos_of_ne_zero c1, z6.2.2⟩, rfl⟩
        · rw [z4]
          have c1 : cst (ltr w.2.1) al w.2.1.length w' ≠ 0 := fun q => z3.1 (cst_0.mp q)
          exact ⟨(hmem _ (Ro.2.1 _ (List.mem_of_getElem? z2)).1).mpr (Or.inr (fnx_of z2)), ⟨Nat.pos_of_ne_zero c1, z3.2.2⟩, rfl⟩
    obtain ⟨k1, k2⟩ := su_sorted x3 x4 (catE_pw hs) key
    refine ⟨f3, g3, ?_, ⟨by rw [← k1]; exact x2.1, fun i e he => ?_⟩, (F2.trans (y6.mono (by simp) (by simp))).trans (x5.mono (by simp) (by simp))⟩
    · rw [← x1]
      refine Eq.trans ?_ y1
      refine Eq.trans ?_ v1
      simp only [p_X12_suggests, z_b, ite_ap, m_pI m, m_gR m 42 (by decide), m_aI m 42 101 (by decide) hj (by decide), e2, e1, hn, if_true]
      rfl
    · have hi : i < l'.length := by rw [k1]; exact lt_of_get he
      have := x2.2 i hi
      rw [k2 i e he] at this
      exact this
  · have hem : catE (cst (ltr w.2.1) al w.2.1.length) wl = [] := by
      refine List.eq_nil_iff_forall_not_mem.mpr (fun e he => ?_)
      obtain ⟨h1, h2, h3⟩ := catE_mem.mp he
      have hok := hwl _ h1
      have h10 : e.2.length ≤ 10 := hok.2.2
      have : 4 < cst (ltr w.2.1) al w.2.1.length e.2 := CF_far (by omega)
      omega
    rw [hem]
    refine ⟨zu f M 52 0, g, ?_, ⟨zu_same _ _ _ _, fun i e he => by cases he⟩, F1⟩
    simp only [p_X12_suggests, z_b, z_rt, ite_ap, m_pI m, m_gR m 42 (by decide), m_aI m 42 101 (by decide) hj (by decide), e2, e1, hn, if_false]
end
