section
variable {h : ZH} {gx tx : Nat} {rw ar rwt art : Nat → Nat} {u : Nat → Nat} {al : Nat → Nat → Bool}
theorem OFr.dj {c' x y : Nat} {ar' sz' ars sz : Nat → Nat} {f f' : FI} {ss as : List Nat} (F : OFr f f' x ars ss as) (d : Dj y ar' sz' x ars sz) (hz : ∀ i ∈ as, sz i ≠ 0) : f' y = f y ∧ ∀ j, sz' j ≠ 0 → f' (ar' j) = f (ar' j) := by
  refine ⟨F.2 y d.1 (fun q => ?_), fun j hj => F.2 _ (d.2.2.1 j hj) (fun q => ?_)⟩
  · obtain ⟨i, i1, i2⟩ := List.mem_map.mp q
    exact d.2.1 i (hz i i1) i2.symm
  · obtain ⟨i, i1, i2⟩ := List.mem_map.mp q
    exact d.2.2.2 j i hj (hz i i1) i2.symm
theorem FoC.dj {f f' : FI} {ss as : List Nat} {t : List Nat} (T : FoC f tx art t) (F : OFr f f' gx ar ss as) (d : Dj tx art tSz gx ar uSz) (hz : ∀ i ∈ as, uSz i ≠ 0) : FoC f' tx art t := by
  obtain ⟨a, b⟩ := F.dj (c' := 0) d hz
  obtain ⟨t1, t2, t3, t4⟩ := T
  unfold FoC TxC WsC EsW at *
  rw [a, b 0 (by decide), b 1 (by decide), b 2 (by decide), b 3 (by decide), b 4 (by decide), b 5 (by decide)]
  exact ⟨t1, t2, t3, t4⟩
theorem lOW_eq (o : Ob h 10 tx rwt art tSz) {f : FI} {t : List Nat} (T : FoC f tx art t) {j : Nat} {w : Wr} (hw : (wsOf t)[j]? = some w) {i : Nat} (hi : i < w.2.1.length) : p_X9_letterOfWord (some tx) (I j) (I i) (hI h f) = some (I (w.2.1.getD i 0), hI h f) := by
  obtain ⟨w1, w2, w3⟩ := T.2.2.1.2 j w hw
  have hj : j < 50 := by have := ws_100 T.1.2.1; have := lt_of_get hw; omega
  obtain ⟨a1, a2, a3, a4, a5⟩ := (scan_ok t).2.2.2.1 j w hw
  have g := T.1.2.2 _ _ (a5 i hi)
  have lt := T.1.2.1
  have e : I ((97 + w.2.1.getD i 0 : Nat) : Int) - 97 = I (w.2.1.getD i 0 : Nat) := by
    rw [show (97 : Int32) = I ((97 : Nat) : Int) from rfl, I_sn _ 97 (by omega), Nat.add_sub_cancel_left]
  simp only [p_X9_letterOfWord, z_b, z_rt, o_gR o 0 (by decide), o_gR o 1 (by decide), o_rv o 1 (by decide), o_get o 1 50 rfl hj, w1, o_rv o 0 (by decide), I_an, o_get o 0 100 rfl (show w.1 + i < 100 by omega), g, e]
/-- the words of a book -/
def BkW (l : Bk) (wl : List Wd) : Prop := l.map Prod.fst = wl.map cN ∧ ∀ w ∈ wl, WdOk w
variable {ks s1 t1 s2 t2 : Nat} {l : Bk} {wl : List Wd} {n r : Nat}
theorem lst76 (o : Ob h 9 gx rw ar uSz) (ss : BkAt h ks s1 t1 s2 t2 1558) (dk : ∀ a ∈ [ks, t1, t2], a ≠ gx ∧ ∀ j, uSz j ≠ 0 → a ≠ ar j) (hW : BkW l wl) (hn : n ≤ 100) (hr : 2 ≤ r ∧ r ≤ 100) :
    ∀ (t : List Wd) (i k : Nat) (f : FI), wl.drop i = t → i + t.length = wl.length → t.length < k → SgC f gx ar u al n → SuC f gx ar (cst u al n) (wl.take i) → (catW (cst u al n) (wl.take i)).length ≤ i → BkIs f ks t1 t2 1558 l →
      ∃ f', p_X8_list_l76 k (some gx) (some ks) (I r) (I i) (hI h f) = some ((), hI h f') ∧ SuC f' gx ar (cst u al n) wl ∧ OFr f f' gx ar [7] [2, 3, 4, 5] := by
  have hlen : l.length = wl.length := by have := congrArg List.length hW.1; simpa using this
  intro t
  induction t with
  | nil =>
    intro i k f h1 h2 h3 S U hc B
    obtain ⟨k, rfl⟩ := Nat.exists_eq_add_of_lt h3
    have hl := B.2.2.1
    have hi : i = wl.length := by simpa using h2
    have e1 : I (l.length : Int) ≤ I (i : Int) := by rw [I_le (by omega) (by omega)]; omega
    rw [hi, List.take_length] at U
    refine ⟨f, ?_, U, OFr.refl _ _ _ _ _⟩
    have kv : ∀ (α : Type) (k : ZM α), z_vr 11 (some ks) k (hI h f) = k (hI h f) := fun α k => if_pos ss.1
    show p_X8_list_c76 _ _ _ _ _ _ = _
    simp only [p_X8_list_c76, z_b, z_rt, ite_ap, kv, bk_count ss B, e1, if_true]
  | cons w t ih =>
    intro i k f h1 h2 h3 S U hc B
    obtain ⟨hat, hd⟩ := drop_at h1
    have hl := B.2.2.1
    have hil : i < l.length := by have := lt_of_get hat; omega
    cases k with
    | zero => exact absurd h3 (Nat.not_lt_zero _)
    | succ k =>
      simp only [List.length_cons] at h2 h3
      have e1 : ¬ I (l.length : Int) ≤ I (i : Int) := by rw [I_le (by omega) (by omega)]; omega
      have e2 : I (i : Int) + 1 = I ((i + 1 : Nat) : Int) := I_add _ 1
      have hwd := hW.2 w (List.mem_of_getElem? hat)
      have hcd : cd l i = cN w := by
        have : (l.map Prod.fst)[i]? = (wl.map cN)[i]? := by rw [hW.1]
        rw [List.getElem?_map, List.getElem?_map, hat, List.getElem?_eq_getElem hil] at this
        have h5 : (l[i]'hil).1 = cN w := Option.some.inj this
        unfold cd
        rw [List.getD_eq_getElem?_getD, List.getElem?_eq_getElem hil]; exact h5
      have kv : ∀ (α : Type) (k : ZM α), z_vr 11 (some ks) k (hI h f) = k (hI h f) := fun α k => if_pos ss.1
      have wo := bk_wordOn ss B hil
      rw [hcd] at wo
      obtain ⟨f1, tt, v1, v2, v3, v4⟩ := ct_eq (u := u) (al := al) o hwd.1 hwd.2.2 hn hr S
      have htk : wl.take (i + 1) = wl.take i ++ [w] := by rw [List.take_succ, hat]; rfl
      have keep : ∀ {f f1 : FI} {sl as : List Nat}, OFr f f1 gx ar sl as → (∀ i ∈ as, uSz i ≠ 0) → BkIs f ks t1 t2 1558 l → BkIs f1 ks t1 t2 1558 l := fun {f f1 sl as} F hz B => by
        have fr : ∀ a ∈ [ks, t1, t2], f1 a = f a := fun a ha => F.2 a (dk a ha).1 (fun q => by
          obtain ⟨j, j1, j2⟩ := List.mem_map.mp q
          exact (dk a ha).2 j (hz j j1) j2.symm)
        unfold BkIs at B ⊢
        rw [fr ks (by simp), fr t1 (by simp), fr t2 (by simp)]
        exact B
      have S1 := S.fr v4 o (by simp) (by simp) (by simp) (by decide)
      have U1 := U.fr v4 o (by simp) (by simp) (by simp) (by decide)
      have B1 := keep v4 (by decide) B
      have ei : ((1 : Int32) ≤ I (tt : Int) ∧ I (tt : Int) ≤ 4) ↔ (1 ≤ cst u al n w ∧ cst u al n w ≤ 4) := by
        rw [lit, lit, I_le (by decide) (by omega), I_le (by omega) (by decide)]; omega
      show ∃ f', p_X8_list_c76 (p_X8_list_l76 k) _ _ _ _ _ = _ ∧ _
      simp only [p_X8_list_c76, p_X8_list_b121, z_b, z_n, ite_ap, kv, bk_count ss B, e1, if_false, wo, o_vr o, v1, isIn_eq, ei, e2]
      by_cases z : 1 ≤ cst u al n w ∧ cst u al n w ≤ 4
      · rw [if_pos z, if_neg (by decide)]
        have htt : tt = cst u al n w := by omega
        obtain ⟨f2, y1, y2, y3⟩ := as_eq o U1 z (by omega)
        have hc' : (catW (cst u al n) (wl.take (i + 1))).length ≤ i + 1 := by
          rw [htk, catW_len, upT_snoc, ← catW_len, if_pos z]; omega
        rw [← htk] at y2
        obtain ⟨f', p1, p2, p3⟩ := ih (i + 1) k f2 hd (by omega) (by omega) (S1.fr y3 o (by simp) (by simp) (by simp) (by decide)) y2 hc' (keep y3 (by decide) B1)
        refine ⟨f', ?_, p2, (v4.mono (by simp) (by simp)).trans ((y3.mono (by simp) (by simp)).trans p3)⟩
        rw [← p1]
        rw [htt]
        simp only [o_vr o, y1]
      · rw [if_neg z, if_pos rfl]
        have hc' : (catW (cst u al n) (wl.take (i + 1))).length ≤ i + 1 := by
          rw [htk, grp_out _ _ z]; omega
        obtain ⟨f', p1, p2, p3⟩ := ih (i + 1) k f1 hd (by omega) (by omega) S1 (by rw [htk]; unfold SuC; rw [grp_out _ _ z]; refine ⟨U1.1, U1.2.1, fun c h1 h2 => ?_⟩; rw [upT_snoc, if_neg (by omega)]; exact U1.2.2 c h1 h2) hc' B1
        exact ⟨f', p1, p2, (v4.mono (by simp) (by simp)).trans p3⟩
theorem lst51 (o : Ob h 9 gx rw ar uSz) (ss : BkAt h ks s1 t1 s2 t2 1558) (dk : ∀ a ∈ [ks, t1, t2], a ≠ gx ∧ ∀ j, uSz j ≠ 0 → a ≠ ar j) (hW : BkW l wl) (hn : n ≤ 100) (hr : 2 ≤ r ∧ r ≤ 100) :
    ∀ (d c k : Nat) (f : FI), c + d = 5 → 1 ≤ c → d < k → SgC f gx ar u al n → f gx 7 = 0 → (∀ x, 1 ≤ x → x < c → f (ar 5) x = 0) → BkIs f ks t1 t2 1558 l →
      ∃ f', p_X8_list_l51 k (some gx) (some ks) (I r) (I c) (hI h f) = some ((), hI h f') ∧ SuC f' gx ar (cst u al n) wl ∧ OFr f f' gx ar [7] [2, 3, 4, 5] := by
  intro d
  induction d with
  | zero =>
    intro c k f hd h1c hk S z7 Z B
    obtain ⟨k, rfl⟩ := Nat.exists_eq_add_of_lt hk
    have hlen : l.length = wl.length := by have := congrArg List.length hW.1; simpa using this
    have e1 : (4 : Int32) < I (c : Int) := by rw [lit, I_lt (by decide) (by omega)]; omega
    obtain ⟨f', p1, p2, p3⟩ := lst76 (u := u) (al := al) o ss dk hW hn hr wl 0 zFuel f rfl (by omega) (by have := B.2.2.1; unfold zFuel; omega) S ⟨z7, fun i w hw => (by cases hw), fun x h1 h2 => by
      rw [Z x h1 (by omega)]
      have : upT (cst u al n) ([] : List Wd) x = 0 := by
        have h4 : x = 1 ∨ x = 2 ∨ x = 3 ∨ x = 4 := by omega
        rcases h4 with q | q | q | q <;> subst q <;> rfl
      show 0 = I (upT (cst u al n) ([] : List Wd) x : Int)
      rw [this]; rfl⟩ (Nat.le_refl _) B
    refine ⟨f', ?_, p2, p3⟩
    have p1' : p_X8_list_l76 zFuel (some gx) (some ks) (I r) 0 (hI h f) = some ((), hI h f') := p1
    show p_X8_list_c51 _ _ _ _ _ _ = _
    simp only [p_X8_list_c51, p_X8_list_b73, ite_ap, e1, if_true, p1']
  | succ d ih =>
    intro c k f hd h1c hk S z7 Z B
    cases k with
    | zero => exact absurd hk (Nat.not_lt_zero _)
    | succ k =>
      have e1 : ¬ (4 : Int32) < I (c : Int) := by rw [lit, I_lt (by decide) (by omega)]; omega
      have e2 : I (c : Int) + 1 = I ((c + 1 : Nat) : Int) := I_add _ 1
      have F1 : OFr f (zu f (ar 5) c 0) gx ar [7] [2, 3, 4, 5] := OFr.sI o 5 _ _ (by decide) (by simp)
      have n5x := o_nx o (j := 5) (by decide)
      have B1 : BkIs (zu f (ar 5) c 0) ks t1 t2 1558 l := by
        have fr : ∀ a ∈ [ks, t1, t2], zu f (ar 5) c 0 a = f a := fun a ha => zu_ne ((dk a ha).2 5 (by decide)) _ _
        unfold BkIs at B ⊢
        rw [fr ks (by simp), fr t1 (by simp), fr t2 (by simp)]
        exact B
      obtain ⟨f', p1, p2, p3⟩ := ih (c + 1) k (zu f (ar 5) c 0) (by omega) (by omega) (by omega) (S.fr F1 o (by simp) (by simp) (by simp) (by decide)) (by rw [zu_ne n5x.symm]; exact z7) (fun x h1 h2 => by
        rw [zu_cell]
        by_cases q : x = c
        · rw [if_pos q]
        · rw [if_neg q]; exact Z x h1 (by omega)) B1
      refine ⟨f', ?_, p2, F1.trans p3⟩
      rw [← p1]
      show p_X8_list_c51 (p_X8_list_l51 k) _ _ _ _ _ = _
      simp only [p_X8_list_c51, z_b, z_n, ite_ap, e1, if_false, o_gR o 5 (by decide), o_rv o 5 (by decide), o_set o 5 5 rfl (show c < 5 by omega), e2]
/-- letters of a word of the text -/
def ltr (w : Wd) : Nat → Nat := fun k => w.getD k 0
theorem lst12 (o : Ob h 9 gx rw ar uSz) (ot : Ob h 10 tx rwt art tSz) (d : Dj tx art tSz gx ar uSz) (ss : BkAt h ks s1 t1 s2 t2 1558) (dk : ∀ a ∈ [ks, t1, t2], a ≠ gx ∧ ∀ j, uSz j ≠ 0 → a ≠ ar j) (hW : BkW l wl) (hr : 2 ≤ r ∧ r ≤ 100) {t : List Nat} {j : Nat} {w : Wr} (hw : (wsOf t)[j]? = some w) (hn : w.2.1.length ≤ 100) (hwW : isW w.2.1) :
    ∀ (c i k : Nat) (f : FI), i + c = w.2.1.length → c < k → f gx 6 = I w.2.1.length → AlC f (ar 0) al → LtC f (ar 1) (ltr w.2.1) i → FoC f tx art t → BkIs f ks t1 t2 1558 l →
      ∃ f', p_X8_list_l12 k (some gx) (some tx) (I j) (some ks) (I r) (I i) (hI h f) = some ((), hI h f') ∧ SuC f' gx ar (cst (ltr w.2.1) al w.2.1.length) wl ∧ OFr f f' gx ar [7] [1, 2, 3, 4, 5] := by
  intro c
  induction c with
  | zero =>
    intro i k f hi hk g6 A V T B
    obtain ⟨k, rfl⟩ := Nat.exists_eq_add_of_lt hk
    have e1 : I (w.2.1.length : Int) ≤ I (i : Int) := by rw [I_le (by omega) (by omega)]; omega
    have hi' : i = w.2.1.length := by omega
    rw [hi'] at V
    have F1 : OFr f (zu f gx 7 0) gx ar [7] [1, 2, 3, 4, 5] := OFr.pI 7 0 (by simp)
    have S0 : SgC f gx ar (ltr w.2.1) al w.2.1.length := ⟨g6, A, V⟩
    have B1 : BkIs (zu f gx 7 0) ks t1 t2 1558 l := by
      have fr : ∀ a ∈ [ks, t1, t2], zu f gx 7 0 a = f a := fun a ha => zu_ne (dk a ha).1 _ _
      unfold BkIs at B ⊢
      rw [fr ks (by simp), fr t1 (by simp), fr t2 (by simp)]
      exact B
    obtain ⟨f', p1, p2, p3⟩ := lst51 (u := ltr w.2.1) (al := al) o ss dk hW hn hr 4 1 zFuel (zu f gx 7 0) rfl (Nat.le_refl _) (by unfold zFuel; omega) (S0.fr (OFr.pI (ss := [7]) (as := []) 7 0 (by simp)) o (by simp) (by simp) (by simp) (by simp)) (zu_same _ _ _ _) (fun x h1 h2 => absurd h2 (by omega)) B1
    refine ⟨f', ?_, p2, F1.trans (p3.mono (by simp) (by simp))⟩
    have p1' : p_X8_list_l51 zFuel (some gx) (some ks) (I r) 1 (hI h (zu f gx 7 0)) = some ((), hI h f') := p1
    show p_X8_list_c12 _ _ _ _ _ _ _ _ = _
    simp only [p_X8_list_c12, p_X8_list_b43, z_b, ite_ap, o_gI o, g6, e1, if_true, o_pI o, p1']
  | succ c ih =>
    intro i k f hi hk g6 A V T B
    cases k with
    | zero => exact absurd hk (Nat.not_lt_zero _)
    | succ k =>
      have e1 : ¬ I (w.2.1.length : Int) ≤ I (i : Int) := by rw [I_le (by omega) (by omega)]; omega
      have e2 : I (i : Int) + 1 = I ((i + 1 : Nat) : Int) := I_add _ 1
      have lo := lOW_eq ot T hw (i := i) (by omega)
      have F1 : OFr f (zu f (ar 1) i (I (w.2.1.getD i 0))) gx ar [7] [1, 2, 3, 4, 5] := OFr.sI o 1 _ _ (by decide) (by simp)
      have n1x := o_nx o (j := 1) (by decide)
      have n01 := o_ne o (i := 0) (j := 1) (by decide) (by decide) (by decide)
      have B1 : BkIs (zu f (ar 1) i (I (w.2.1.getD i 0))) ks t1 t2 1558 l := by
        have fr : ∀ a ∈ [ks, t1, t2], zu f (ar 1) i (I (w.2.1.getD i 0)) a = f a := fun a ha => zu_ne ((dk a ha).2 1 (by decide)) _ _
        unfold BkIs at B ⊢
        rw [fr ks (by simp), fr t1 (by simp), fr t2 (by simp)]
        exact B
      obtain ⟨f', p1, p2, p3⟩ := ih (i + 1) k (zu f (ar 1) i (I (w.2.1.getD i 0))) (by omega) (by omega) (by rw [zu_ne n1x.symm]; exact g6) (fun x y hx hy => by rw [zu_ne n01]; exact A x y hx hy)
        (fun x hx => by
          rw [zu_cell]
          by_cases q : x = i
          · rw [if_pos q, q]; exact ⟨rfl, getD_lt8 hwW i⟩
          · rw [if_neg q]; exact V x (by omega)) (T.dj F1 d (by decide)) B1
      refine ⟨f', ?_, p2, F1.trans p3⟩
      rw [← p1]
      show p_X8_list_c12 (p_X8_list_l12 k) _ _ _ _ _ _ _ = _
      simp only [p_X8_list_c12, z_b, z_n, ite_ap, o_gI o, g6, e1, if_false, o_gR o 1 (by decide), o_vr ot, lo, o_rv o 1 (by decide), o_set o 1 100 rfl (show i < 100 by omega), e2]
/-- the class lists suggestions -/
theorem lst_eq (o : Ob h 9 gx rw ar uSz) (ot : Ob h 10 tx rwt art tSz) (d : Dj tx art tSz gx ar uSz) (ss : BkAt h ks s1 t1 s2 t2 1558) (dk : ∀ a ∈ [ks, t1, t2], a ≠ gx ∧ ∀ j, uSz j ≠ 0 → a ≠ ar j) (hW : BkW l wl) (hr : 2 ≤ r ∧ r ≤ 100) {t : List Nat} {j : Nat} {w : Wr} (hw : (wsOf t)[j]? = some w) {f : FI} (A : AlC f (ar 0) al) (T : FoC f tx art t) (B : BkIs f ks t1 t2 1558 l) :
    ∃ f', p_X8_list (some gx) (some tx) (I j) (some ks) (I r) (hI h f) = some ((), hI h f') ∧ SuC f' gx ar (cst (ltr w.2.1) al w.2.1.length) wl ∧ OFr f f' gx ar [6, 7] [1, 2, 3, 4, 5] := by
  obtain ⟨w1, w2, w3⟩ := T.2.2.1.2 j w hw
  have hj : j < 50 := by have := ws_100 T.1.2.1; have := lt_of_get hw; omega
  obtain ⟨a1, a2, a3, a4, a5⟩ := (scan_ok t).2.2.2.1 j w hw
  have lt := T.1.2.1
  have n0 := o_nx o (j := 0) (by decide)
  have F1 : OFr f (zu f gx 6 (I w.2.1.length)) gx ar [6, 7] [1, 2, 3, 4, 5] := OFr.pI 6 _ (by simp)
  have B1 : BkIs (zu f gx 6 (I w.2.1.length)) ks t1 t2 1558 l := by
    have fr : ∀ a ∈ [ks, t1, t2], zu f gx 6 (I w.2.1.length) a = f a := fun a ha => zu_ne (dk a ha).1 _ _
    unfold BkIs at B ⊢
    rw [fr ks (by simp), fr t1 (by simp), fr t2 (by simp)]
    exact B
  obtain ⟨f', p1, p2, p3⟩ := lst12 (al := al) o ot d ss dk hW hr hw (by omega) a1 w.2.1.length 0 zFuel (zu f gx 6 (I w.2.1.length)) (by omega) (by unfold zFuel; omega) (zu_same _ _ _ _) (fun x y hx hy => by rw [zu_ne n0]; exact A x y hx hy) (fun x hx => absurd hx (Nat.not_lt_zero _)) (T.dj F1 d (by decide)) B1
  refine ⟨f', ?_, p2, F1.trans (p3.mono (by simp) (by simp))⟩
  have p1' : p_X8_list_l12 zFuel (some gx) (some tx) (I j) (some ks) (I r) 0 (hI h (zu f gx 6 (I w.2.1.length))) = some ((), hI h f') := p1
  simp only [p_X8_list, p_X9_wordSize, z_b, z_rt, o_vr ot, o_gR ot 2 (by decide), o_rv ot 2 (by decide), o_get ot 2 50 rfl hj, w2, o_pI o, p1']
end
