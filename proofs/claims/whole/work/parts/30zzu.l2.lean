section
variable {H H' H1 : ZH} {B nc : Nat} {f f' : FI} {g g' : FL} {dw dw' : Wd} {sl sl' : List St} {rs rs' : List Ru} {al al' : Nat → Nat → Bool} {os bs ig os' bs' ig' : List Ow} {tl tl' : Nat → Nat} {sy sy' : List Sty} {dr dr' : List It} {t t' : List Nat} {lo lb li lo' lb' li' : Bk} {wl wl' : List Wd}
theorem map_cN_inj : ∀ {u v : List Wd}, (∀ w ∈ u, WdOk w) → (∀ w ∈ v, WdOk w) → u.map cN = v.map cN → u = v
  | [], [], _, _, _ => rfl
  | [], _ :: _, _, _, h => by cases h
  | _ :: _, [], _, _, h => by cases h
  | a :: u, b :: v, hu, hv, h => by
    have h' := List.cons.inj h
    have e1 := (cN_inj (hu a (by simp)).1 (hv b (by simp)).1).mp h'.1
    rw [e1, map_cN_inj (fun w hw => hu w (List.mem_cons_of_mem _ hw)) (fun w hw => hv w (List.mem_cons_of_mem _ hw)) h'.2]
/-- the words that may be suggested -/
theorem wl_of (ok : AbOk dw sl rs os bs ig sy dr t nc) (Ro : OwR lo os) (Rb : OwR lb bs) (hW : BkW (sugO lo (sugM lb (madeOf rs sl []) [])) wl) :
    wl.Pairwise (fun a b => mN a < mN b) ∧ (∀ w, w ∈ wl → WdOk w) ∧ ∀ w, WdOk w → (w ∈ wl ↔ (bget (madeOf rs sl []) (cN w) / 65536 % 2 = 1 ∧ fnx w bs 0 = none) ∨ fnx w os 0 ≠ none) := by
  obtain ⟨m1, m2⟩ := made_words (rs := rs) ok.2.2.1.2 sl [] ok.2.1.2 ⟨List.Pairwise.nil, fun c ⟨e, he, _⟩ => absurd he (List.not_mem_nil)⟩
  obtain ⟨wl', b1, b2, b3⟩ := sug_words m1 m2 Ro Rb
  have e : wl = wl' := map_cN_inj hW.2 b1.2 (hW.1.symm.trans b1.1)
  subst e
  exact ⟨b2, hW.2, b3⟩
/-- the suggestions for a word -/
def Sug (wl : List Wd) (al : Nat → Nat → Bool) (t : List Nat) (i : Nat) : List (Nat × Wd) := catE (cst (ltr (wdT t i)) al (wdT t i).length) wl
def SgA (B : Nat) : List Nat := [B, B + 24, B + 28, B + 30, B + 32, B + 34, B + 36]
/-- the class lists suggestions, whatever the reach -/
theorem clist (S : CS H B dw sl rs al os bs ig tl sy dr t lo lb li wl) {r : Nat} (hr : 2 ≤ r ∧ r ≤ 100) {i : Nat} (hi : i < (wsOf t).length) :
    ∃ f', p_X8_list (some (B + 24)) (some (B + 48)) (I i) (some (B + 19)) (I r) (hI H (zI H)) = some ((), hI H f') ∧ SuC f' (B + 24) (arL (B + 24)) (cst (ltr (wdT t i)) al (wdT t i).length) wl ∧
      ∀ v, (v = -1 ∨ v = I i) → CS (hI H (zu f' B 12 v)) B dw sl rs al os bs ig tl sy dr t lo lb li wl ∧ KC H (hI H (zu f' B 12 v)) B ∧ SuC (zu f' B 12 v) (B + 24) (arL (B + 24)) (cst (ltr (wdT t i)) al (wdT t i).length) wl := by
  obtain ⟨s1, s2, s3, ⟨c1, c2, c3, c4, c5, c6, c7, c8, c9, c10⟩, cd⟩ := S
  obtain ⟨w, w1, w2, w3, w4, w5, w6⟩ := ws_at hi
  have bk := s1.2.2.1.2.2.2.1
  have dk : ∀ a ∈ [B + 19, B + 21, B + 23], a ≠ B + 24 ∧ ∀ j, uSz j ≠ 0 → a ≠ arL (B + 24) j := fun a ha => by
    simp only [List.mem_cons, List.not_mem_nil, or_false] at ha
    exact ⟨by omega, fun j _ => by unfold arL; omega⟩
  have d : Dj (B + 48) (arL (B + 48)) tSz (B + 24) (arL (B + 24)) uSz := djL (n := 6) (n' := 6) (fun j => tSz_lt) (fun j hj => Classical.byContradiction (fun q => hj (by unfold uSz; rw [List.getD_eq_getElem?_getD, List.getElem?_eq_none (by simpa using Nat.le_of_not_lt q)]; rfl))) (by omega)
  obtain ⟨f', p1, p2, p3⟩ := lst_eq (al := al) s1.os s1.ot d bk dk c4 hr w1 (f := zI H) c5 c7 c2.2.2.2.1
  rw [← w2] at p2
  have n : ∀ b, b ≠ B + 24 → b ≠ B + 28 → b ≠ B + 30 → b ≠ B + 32 → b ≠ B + 34 → b ≠ B + 36 → f' b = zI H b := fun b h0 h1 h2 h3 h4 h5 => p3.2 b h0 (by
    simp only [List.map_cons, List.map_nil, List.mem_cons, List.not_mem_nil, or_false, not_or, arL]; omega)
  refine ⟨f', p1, p2, fun v hv => ?_⟩
  have n' : ∀ b, b ≠ B → b ≠ B + 24 → b ≠ B + 28 → b ≠ B + 30 → b ≠ B + 32 → b ≠ B + 34 → b ≠ B + 36 → zu f' B 12 v b = zI H b := fun b q h0 h1 h2 h3 h4 h5 => (zu_ne q _ _).trans (n b h0 h1 h2 h3 h4 h5)
  have sc : ∀ j, j ≠ 12 → zu f' B 12 v B j = zI H B j := fun j hj => by rw [zu_cell, if_neg hj, n B (by omega) (by omega) (by omega) (by omega) (by omega) (by omega)]
  have su : SuC (zu f' B 12 v) (B + 24) (arL (B + 24)) (cst (ltr (wdT t i)) al (wdT t i).length) wl := p2.congr (fun b h1 h2 => zu_ne (by omega) _ _)
  have cc : CC (zu f' B 12 v) B dw sl rs al os bs ig tl sy t lo lb li wl := by
    refine ⟨by rw [sc 10 (by decide)]; exact c1, c2.fr (fun a h1 h2 => n' a (by omega) (by omega) (by omega) (by omega) (by omega) (by omega) (by omega)), c3, c4, ?_, ?_, c7.fr (fun a h1 h2 => n' a (by omega) (by omega) (by omega) (by omega) (by omega) (by omega) (by omega)), ?_, ?_, ?_⟩
    · unfold AlC at *; rw [n' (B + 26) (by omega) (by omega) (by omega) (by omega) (by omega) (by omega) (by omega)]; exact c5
    · unfold ToldC at *; rw [n' (B + 39) (by omega) (by omega) (by omega) (by omega) (by omega) (by omega) (by omega)]; exact c6
    · rw [n' (B + 71) (by omega) (by omega) (by omega) (by omega) (by omega) (by omega) (by omega), n' (B + 73) (by omega) (by omega) (by omega) (by omega) (by omega) (by omega) (by omega)]; exact c8
    · rw [sc 11 (by decide)]
      rcases c9 with q | ⟨q1, q2⟩
      · exact Or.inl q
      · exact Or.inr ⟨q1, q2.congr (fun b h1 h2 => n' b (by omega) (by omega) (by omega) (by omega) (by omega) (by omega) (by omega))⟩
    · rw [zu_same]
      rcases hv with rfl | rfl
      · exact Or.inl rfl
      · exact Or.inr ⟨i, hi, rfl, su⟩
  have F : Fr (zI H) (zu f' B 12 v) (SgA B) := fun b hb => by
    simp only [SgA, List.mem_cons, List.not_mem_nil, or_false, not_or] at hb
    exact n' b hb.1 hb.2.1 hb.2.2.1 hb.2.2.2.1 hb.2.2.2.2.1 hb.2.2.2.2.2.1 hb.2.2.2.2.2.2
  refine ⟨⟨s1, s2, s3, cc, CD.fr cd (F.mono (fun a ha => by
    simp only [SgA, List.mem_cons, List.not_mem_nil, or_false] at ha
    exact AA_mem.mpr (by omega)))⟩, KC.ints (fun b h1 h2 => n' b (by omega) (by omega) (by omega) (by omega) (by omega) (by omega) (by omega)), su⟩
/-- the class lists suggestions unless they stand -/
theorem csug (S : CS H B dw sl rs al os bs ig tl sy dr t lo lb li wl) {i : Nat} (hi : i < (wsOf t).length) :
    ∃ f', p_X11_listSuggestions (some B) (I i) (hI H (zI H)) = some ((), hI H f') ∧ CS (hI H f') B dw sl rs al os bs ig tl sy dr t lo lb li wl ∧ KC H (hI H f') B ∧ SuC f' (B + 24) (arL (B + 24)) (cst (ltr (wdT t i)) al (wdT t i).length) wl := by
  have C := S.1
  have cc := S.2.2.2.1
  have F : FoC (zI H) (B + 48) (arL (B + 48)) t := cc.2.2.2.2.2.2.1
  have w50 := ws_100 F.1.2.1
  by_cases q : zI H B 12 = I i
  · rcases cc.2.2.2.2.2.2.2.2.2 with z | ⟨j, j1, j2, j3⟩
    · rw [z] at q
      have : (I (-1) = I (i : Int)) ↔ (-1 : Int) = i := I_inj (by omega) (by omega)
      have := this.mp q
      omega
    · rw [q] at j2
      have := (I_eqN (by omega) (by omega)).mp j2
      subst this
      refine ⟨zI H, ?_, S, KC.refl H B, j3⟩
      simp only [p_X11_listSuggestions, z_b, z_rt, ite_ap, x_gI C, q, if_true]
  · obtain ⟨f', p1, p2, p3⟩ := clist S (r := 2) (by omega) hi
    obtain ⟨q1, q2, q3⟩ := p3 (I i) (Or.inr rfl)
    refine ⟨zu f' B 12 (I i), ?_, q1, q2, q3⟩
    have vr0 : ∀ (α : Type) (k : ZM α), z_vr 3 (some (B + cRf 0)) k (hI H (zI H)) = k (hI H (zI H)) := fun α k => lx_vr C k
    have sg : p_X2_suggestable (some (B + cRf 0)) (hI H (zI H)) = some (some (B + 19), hI H (zI H)) := by
      show p_X2_suggestable (some (B + 1)) (hI H (zI H)) = _
      have lx := C.2.1
      simp only [p_X2_suggestable, ite_ap, z_b, z_n, z_rt, z_vr, z_gI, z_gR, z_pI, z_pR, hI_K, hI_R, hI_I, hI_hI, hI_T, hI_N, hI_L, hI_D, sI_hI, wI_hI, if_true, lx.1, lx.2.2.2.2.2.2]
    have vr1 : ∀ (α : Type) (k : ZM α), z_vr 9 (some (B + cRf 1)) k (hI H (zI H)) = k (hI H (zI H)) := fun α k => o_vr C.os k
    have p1' : p_X8_list (some (B + cRf 1)) (some (B + cRf 5)) (I i) (some (B + 19)) 2 (hI H (zI H)) = some ((), hI H f') := p1
    simp only [p_X11_listSuggestions, z_b, z_rt, ite_ap, x_gI C, q, if_false, x_gR C 1 (by decide), x_gR C 5 (by decide), x_gR C 0 (by decide), vr0, sg, vr1, p1', x_pI C]
/-- the reference lists suggestions -/
theorem msug (S : MS H B dw sl rs al os bs ig tl sy dr t) (ok : AbOk dw sl rs os bs ig sy dr t nc) (Ro : OwR lo os) (Rb : OwR lb bs) (hW : BkW (sugO lo (sugM lb (madeOf rs sl []) [])) wl) {i : Nat} (hi : i < (wsOf t).length)
    (R : RaM (zI H) (zL H) (arM B) (B + 95) t (Rof rs sl lo lb t) tl sy) (TT : zI H (B + 95) 34 = 1 ∧ TC (zI H) (zL H) (arM B) (B + 95) (madeOf rs sl [])) :
    ∃ H2, p_X12_suggests (some (B + 95)) (I i) H = some ((), H2) ∧ KM H H2 B ∧ MS H2 B dw sl rs al os bs ig tl sy dr t ∧ FoM (zI H2) (zL H2) (arM B) (B + 95) (Sug wl al t i) ∧ zI H2 (B + 95) 58 = zI H (B + 95) 58 := by
  obtain ⟨w, w1, w2, w3, w4, w5, w6⟩ := ws_at hi
  obtain ⟨b1, b2, b3⟩ := wl_of ok Ro Rb hW
  have m := S.2
  have A : AlM (zI H) (arM B) al := m.2.2.2.1
  have hdis := ok.2.2.2.1.2.2.1
  obtain ⟨f', g', p1, p2, p3⟩ := su_eq (h := H) S.1.1 (made_le ok) Ro Rb hdis b1 b2 b3 w1 (f := zI H) (g := zL H) TT.2 m.2.2.2.2.1 m.2.2.2.2.2.1 A m.2.2.2.2.2.2.2.2.2.2.1 R.1
  rw [← w2] at p2
  have tb : f' (B + 95) 34 = 1 ∧ TC f' g' (arM B) (B + 95) (madeOf rs sl []) := ⟨by rw [(p3.1 34 (by decide)).1]; exact TT.1, TT.2.frM p3 S.1.1 (by decide) (by decide) (by decide) (by decide) (by decide) (by decide)⟩
  exact ⟨hM H f' g', p1, KM.mk_ S.1.1 p3 (by decide), ⟨S.1, S.2.frame S.1 p3 (by decide) (by decide) (by decide) (Or.inl tb)⟩, p2, (p3.1 58 (by decide)).1⟩
end
