section
variable {H H' H1 : ZH} {B nc : Nat} {f f' : FI} {g g' : FL} {dw dw' : Wd} {sl sl' : List St} {rs rs' : List Ru} {al al' : Nat → Nat → Bool} {os bs ig os' bs' ig' : List Ow} {tl tl' : Nat → Nat} {sy sy' : List Sty} {dr dr' : List It} {t t' : List Nat} {lo lb li lo' lb' li' : Bk} {wl wl' : List Wd} {us : List (List Nat)}
theorem coS_sg {k : Option (Nat × Nat)} (hs : ∀ c ∈ t, isSg c) (hy : ∀ s ∈ sy, SyOk s) (hk : ∀ i r, k = some (i, r) → r < sy.length) : ∀ c ∈ (coS sy t k).getD t, isSg c := by
  match k, hk with
  | none, _ => exact hs
  | some (i, r), hk =>
    have hr := hk i r rfl
    have := getD_some (d := (([], 0, []) : Sty)) hr
    exact chT_sg hs (hy _ (List.mem_of_getElem? this)).2.2.2.1.1
theorem fiS_some {T : Nat → Option Nat} : ∀ {c i j r : Nat}, fiS T c i = some (j, r) → T j = some r
  | 0, _, _, _, h => by cases h
  | c + 1, i, j, r, h => by
    unfold fiS at h
    cases hk : T i with
    | none => rw [hk] at h; exact fiS_some h
    | some r' => rw [hk] at h; cases h; exact hk
/-- the words that are not right: the class -/
theorem cch2 (ok : AbOk dw sl rs os bs ig sy dr t nc) :
    ∀ (c i n : Nat) (f : FI), i + c = (wsOf t).length → c < n → CS (hI H f) B dw sl rs al os bs ig tl sy dr t lo lb li wl → f B 11 = 1 →
      ∃ f', p_X11_changeOnce_l2 n (some B) (I i) (hI H f) = some (bO (coW t (coS sy t (fiS (Tof rs sl lo lb tl sy t) (wsOf t).length 0)) (fiW (Rof rs sl lo lb t) (Sug wl al t) c i)), hI H f') ∧
        CS (hI H f') B dw sl rs al os bs ig tl sy dr ((coW t (coS sy t (fiS (Tof rs sl lo lb tl sy t) (wsOf t).length 0)) (fiW (Rof rs sl lo lb t) (Sug wl al t) c i)).getD t) lo lb li wl ∧ (∀ b, B + 61 ≤ b → f' b = f b) ∧
        ∀ d ∈ (coW t (coS sy t (fiS (Tof rs sl lo lb tl sy t) (wsOf t).length 0)) (fiW (Rof rs sl lo lb t) (Sug wl al t) c i)).getD t, isSg d := by
  have hs := ok.2.2.2.2.2.2.1
  intro c
  induction c with
  | zero =>
    intro i n f hi hn S h11
    obtain ⟨n, rfl⟩ := Nat.exists_eq_add_of_lt hn
    have C : CSh H B := S.1
    have cc : CC f B dw sl rs al os bs ig tl sy t lo lb li wl := S.2.2.2.1
    have F : FoC f (B + 48) (arL (B + 48)) t := cc.2.2.2.2.2.2.1
    have w50 := ws_100 F.1.2.1
    have e1 : I ((wsOf t).length : Int) ≤ I (i : Int) := by rw [I_le (by omega) (by omega)]; omega
    have vr5 : ∀ (α : Type) (k : ZM α) (f : FI), z_vr 10 (some (B + cRf 5)) k (hI H f) = k (hI H f) := fun α k f => o_vr C.ot k
    have wc : p_X9_wordCount (some (B + cRf 5)) (hI H f) = some (I (wsOf t).length, hI H f) := by
      show p_X9_wordCount (some (B + 48)) (hI H f) = _
      simp only [p_X9_wordCount, z_b, z_rt, o_gI C.ot, F.2.2.1.1]
    obtain ⟨f', p1, p2, p3⟩ := cch61 (H := hI H f) S ok h11 (wsOf t).length 0 zFuel (by omega) (by unfold zFuel; omega)
    refine ⟨f', ?_, p2, p3, coS_sg hs ok.2.2.2.2.1.2 (fun i r h => tkF_lt (fiS_some h))⟩
    have p1' : p_X11_changeOnce_l61 zFuel (some B) 0 (hI H f) = some (bO (coS sy t (fiS (Tof rs sl lo lb tl sy t) (wsOf t).length 0)), hI H f') := p1
    show p_X11_changeOnce_c2 _ _ _ _ = _
    simp only [p_X11_changeOnce_c2, p_X11_changeOnce_b59, z_b, ite_ap, x_gR C 5 (by decide), vr5, wc, e1, if_true, p1']
    rfl
  | succ c ih =>
    intro i n f hi hn S h11
    cases n with
    | zero => exact absurd hn (Nat.not_lt_zero _)
    | succ n =>
      have C : CSh H B := S.1
      have cc : CC f B dw sl rs al os bs ig tl sy t lo lb li wl := S.2.2.2.1
      have F : FoC f (B + 48) (arL (B + 48)) t := cc.2.2.2.2.2.2.1
      have w50 := ws_100 F.1.2.1
      have pr := cc.rd h11
      have e1 : ¬ I ((wsOf t).length : Int) ≤ I (i : Int) := by rw [I_le (by omega) (by omega)]; omega
      have e2 : I (i : Int) + 1 = I ((i + 1 : Nat) : Int) := I_add _ 1
      have n1 : ¬ ((1 : Int32) = 0) := by decide
      have vr5 : ∀ (α : Type) (k : ZM α) (f : FI), z_vr 10 (some (B + cRf 5)) k (hI H f) = k (hI H f) := fun α k f => o_vr C.ot k
      have vr8 : ∀ (α : Type) (k : ZM α) (f : FI), z_vr 4 (some (B + cRf 8)) k (hI H f) = k (hI H f) := fun α k f => o_vr C.op k
      have vr1 : ∀ (α : Type) (k : ZM α) (f : FI), z_vr 9 (some (B + cRf 1)) k (hI H f) = k (hI H f) := fun α k f => o_vr C.os k
      have wc : p_X9_wordCount (some (B + cRf 5)) (hI H f) = some (I (wsOf t).length, hI H f) := by
        show p_X9_wordCount (some (B + 48)) (hI H f) = _
        simp only [p_X9_wordCount, z_b, z_rt, o_gI C.ot, F.2.2.1.1]
      have v1 := pr.1 i (by omega)
      have hR : Rof rs sl lo lb t i < 256 := by
        obtain ⟨w, w1, w2, w3, w4, w5, w6⟩ := ws_at (show i < (wsOf t).length by omega)
        show rdW _ _ _ (wdT t i) < 256
        rw [w2]; exact rdW_lt cc.2.2.1.1 w4 w5
      have r0 : (I (Rof rs sl lo lb t i : Int) = 0) ↔ Rof rs sl lo lb t i = 0 := I_eqN (k := 0) (by omega) (by decide)
      have gt : p_X3_isSpelledRight (some (B + cRf 8)) (I (i : Int)) (hI H f) = some (if Rof rs sl lo lb t i = 0 then 0 else 1, hI H f) := by
        show p_X3_isSpelledRight (some (B + 79)) (I (i : Int)) (hI H f) = _
        simp only [p_X3_isSpelledRight, z_b, z_rz, ite_ap, o_gR C.op 0 (by decide), o_rv C.op 0 (by decide), o_get C.op 0 50 rfl (show i < 50 by omega), v1, r0, true_or, or_true, if_true]
        split <;> rfl
      by_cases q : Rof rs sl lo lb t i = 0
      · obtain ⟨f1, a1, a2, a3, a4, a5⟩ := csug2 (H := hI H f) S (show i < (wsOf t).length by omega)
        have a1' : p_X11_listSuggestions (some B) (I i) (hI H f) = some ((), hI H f1) := a1
        have a2' : CS (hI H f1) B dw sl rs al os bs ig tl sy dr t lo lb li wl := a2
        obtain ⟨l1, l2⟩ := sug_len S (al := al) i
        have cnt : p_X8_count (some (B + cRf 1)) (hI H f1) = some (I (Sug wl al t i).length, hI H f1) := by
          show p_X8_count (some (B + 24)) (hI H f1) = _
          simp only [p_X8_count, z_b, z_rt, o_gI C.os, a3.1, l1]
        cases hk : Sug wl al t i with
        | nil =>
          obtain ⟨f', p1, p2, p3, p4⟩ := ih (i + 1) n f1 (by omega) (by omega) a2' (by rw [a4 11 (by decide)]; exact h11)
          have ef : fiW (Rof rs sl lo lb t) (Sug wl al t) (c + 1) i = fiW (Rof rs sl lo lb t) (Sug wl al t) c (i + 1) := by
            show (if Rof rs sl lo lb t i = 0 then (match Sug wl al t i with | [] => _ | e :: _ => _) else _) = _
            rw [if_pos q, hk]
          rw [ef]
          refine ⟨f', ?_, p2, fun b hb => (p3 b hb).trans (a5 b (by omega)), p4⟩
          rw [← p1]
          have c0 : I ((Sug wl al t i).length : Int) ≤ 0 := by rw [hk]; decide
          show p_X11_changeOnce_c2 (p_X11_changeOnce_l2 n) _ _ _ = _
          simp only [p_X11_changeOnce_c2, p_X11_changeOnce_b53, z_b, z_n, ite_ap, x_gR C 5 (by decide), vr5, wc, e1, if_false, x_gR C 8 (by decide), vr8, gt, q, if_true, not_true_eq_false, x_vr C, a1', x_gR C 1 (by decide), vr1, cnt, c0, e2]
        | cons e es =>
          have he : (Sug wl al t i)[0]? = some e := by rw [hk]; rfl
          obtain ⟨g1, g2⟩ := sug_get he
          have we := sug_wd (al := al) (t := t) cc.2.2.2.1 he
          have lw : p_X8_listedWord (some (B + cRf 1)) 0 (hI H f1) = some (I (cN e.2), hI H f1) := by
            show p_X8_listedWord (some (B + 24)) (I ((0 : Nat) : Int)) (hI H f1) = _
            simp only [p_X8_listedWord, z_b, z_rt, o_gR C.os 4 (by decide), o_rv C.os 4 (by decide), o_get C.os 4 1558 rfl (show 0 < 1558 by omega), a3.2.1 0 _ g1]
          have ef : fiW (Rof rs sl lo lb t) (Sug wl al t) (c + 1) i = some (i, e.2) := by
            show (if Rof rs sl lo lb t i = 0 then (match Sug wl al t i with | [] => _ | e :: _ => _) else _) = _
            rw [if_pos q, hk]
          rw [ef]
          show ∃ f', _ = some (bO (chT t i e.2), _) ∧ CS _ B dw sl rs al os bs ig tl sy dr ((chT t i e.2).getD t) lo lb li wl ∧ _ ∧ ∀ d ∈ (chT t i e.2).getD t, isSg d
          obtain ⟨f', p1, p2, p3⟩ := cword a2' hs (show i < (wsOf t).length by omega) we
          refine ⟨f', ?_, p2, fun b hb => (p3 b hb).trans (a5 b (by omega)), chT_sg hs we.1⟩
          have p1' : p_X11_changeWord (some B) (I i) (I (cN e.2)) (hI H f1) = some (bO (chT t i e.2), hI H f') := p1
          have rz : ∀ h, z_rz (bO (chT t i e.2)) h = some (bO (chT t i e.2), h) := fun h => by
            cases chT t i e.2 <;> rfl
          have c0 : ¬ I ((Sug wl al t i).length : Int) ≤ 0 := by
            rw [lit, I_le (by omega) (by decide)]
            have : 0 < (Sug wl al t i).length := by rw [hk]; exact Nat.succ_pos _
            omega
          show p_X11_changeOnce_c2 (p_X11_changeOnce_l2 n) _ _ _ = _
          simp only [p_X11_changeOnce_c2, p_X11_changeOnce_b39, z_b, z_n, ite_ap, x_gR C 5 (by decide), vr5, wc, e1, if_false, x_gR C 8 (by decide), vr8, gt, q, if_true, not_true_eq_false, x_vr C, a1', x_gR C 1 (by decide), vr1, cnt, c0, lw, p1', rz]
      · obtain ⟨f', p1, p2, p3, p4⟩ := ih (i + 1) n f (by omega) (by omega) S h11
        have ef : fiW (Rof rs sl lo lb t) (Sug wl al t) (c + 1) i = fiW (Rof rs sl lo lb t) (Sug wl al t) c (i + 1) := by
          show (if Rof rs sl lo lb t i = 0 then (match Sug wl al t i with | [] => _ | e :: _ => _) else _) = _
          rw [if_neg q]
        rw [ef]
        refine ⟨f', ?_, p2, p3, p4⟩
        rw [← p1]
        show p_X11_changeOnce_c2 (p_X11_changeOnce_l2 n) _ _ _ = _
        simp only [p_X11_changeOnce_c2, p_X11_changeOnce_b53, z_b, z_n, ite_ap, x_gR C 5 (by decide), vr5, wc, e1, if_false, x_gR C 8 (by decide), vr8, gt, q, n1, not_false_eq_true, if_true, e2]
/-- one change: the class -/
theorem cch (ok : AbOk dw sl rs os bs ig sy dr t nc) {f : FI} (S : CS (hI H f) B dw sl rs al os bs ig tl sy dr t lo lb li wl) (h11 : f B 11 = 1) :
    ∃ f', p_X11_changeOnce (some B) (hI H f) = some (bO (nxT rs sl al lo lb tl sy wl t), hI H f') ∧ CS (hI H f') B dw sl rs al os bs ig tl sy dr ((nxT rs sl al lo lb tl sy wl t).getD t) lo lb li wl ∧ (∀ b, B + 61 ≤ b → f' b = f b) ∧ ∀ d ∈ (nxT rs sl al lo lb tl sy wl t).getD t, isSg d :=
  cch2 ok (wsOf t).length 0 zFuel f (by omega) (by have := ws_100 S.2.2.2.1.2.2.2.2.2.2.1.1.2.1; unfold zFuel; omega) S h11
theorem AbOk.tx (ok : AbOk dw sl rs os bs ig sy dr t nc) (h : ∀ d ∈ t', isSg d) : AbOk dw sl rs os bs ig sy dr t' nc :=
  ⟨ok.1, ok.2.1, ok.2.2.1, ok.2.2.2.1, ok.2.2.2.2.1, ok.2.2.2.2.2.1, h, ok.2.2.2.2.2.2.2⟩
theorem d_ht (B : Nat) : Dj (B + 74) (arL (B + 74)) hSz (B + 48) (arL (B + 48)) tSz := djL (fun j => hSz_lt) (fun j => tSz_lt) (by omega)
/-- all changes: the class -/
theorem ccor13 : ∀ (c k n : Nat) (t : List Nat) (us : List (List Nat)) (f : FI), k + c = 20 → c < n → us.length = k + 1 → UsOk us → AbOk dw sl rs os bs ig sy dr t nc → CS (hI H f) B dw sl rs al os bs ig tl sy dr t lo lb li wl → HiC f (B + 74) (arL (B + 74)) us →
      ∃ f', p_X11_correct_l13 n (some B) (I k) (hI H f) = some (I (coL (nxT rs sl al lo lb tl sy wl) c us t).1, hI H f') ∧ CS (hI H f') B dw sl rs al os bs ig tl sy dr (coL (nxT rs sl al lo lb tl sy wl) c us t).2 lo lb li wl ∧ (∀ b, B + 95 ≤ b → f' b = f b) ∧ ∀ d ∈ (coL (nxT rs sl al lo lb tl sy wl) c us t).2, isSg d := by
  intro c
  induction c with
  | zero =>
    intro k n t us f hk hn hu ul ok S A
    obtain ⟨n, rfl⟩ := Nat.exists_eq_add_of_lt hn
    have e1 : (20 : Int32) ≤ I (k : Int) := by rw [lit, I_le (by decide) (by omega)]; omega
    refine ⟨f, ?_, S, fun _ _ => rfl, ok.2.2.2.2.2.2.1⟩
    show p_X11_correct_c13 _ _ _ _ = some (I ((us.length : Int) - 1), _)
    rw [hu, show ((k + 1 : Nat) : Int) - 1 = 20 by omega]
    simp only [p_X11_correct_c13, z_rt, ite_ap, e1, if_true]
    rfl
  | succ c ih =>
    intro k n t us f hk hn hu ul ok S A
    cases n with
    | zero => exact absurd hn (Nat.not_lt_zero _)
    | succ n =>
      have C : CSh H B := S.1
      have e1 : ¬ (20 : Int32) ≤ I (k : Int) := by rw [lit, I_le (by decide) (by omega)]; omega
      have e2 : I (k : Int) + 1 = I ((k + 1 : Nat) : Int) := I_add _ 1
      have n1 : ¬ ((1 : Int32) = 0) := by decide
      obtain ⟨f1, a1, a2, a3, a4, a5, a6⟩ := cproof (H := hI H f) S ok
      have a1' : p_X11_proofread (some B) (hI H f) = some ((), hI H f1) := a1
      have a2' : CS (hI H f1) B dw sl rs al os bs ig tl sy dr t lo lb li wl := a2
      have n6 : ∀ b, (B + 74 ≤ b ∧ b < B + 79) ∨ B + 92 ≤ b → f1 b = f b := fun b hb => a6 b (by simp only [PA, List.mem_cons, List.not_mem_nil, or_false, not_or]; omega)
      obtain ⟨f2, b1, b2, b3, b4⟩ := cch ok a2' a4
      have A2 : HiC f2 (B + 74) (arL (B + 74)) us := A.congr ((b3 _ (by omega)).trans (n6 _ (by omega))) ((b3 _ (by unfold arL; omega)).trans (n6 _ (by unfold arL; omega))) ((b3 _ (by unfold arL; omega)).trans (n6 _ (by unfold arL; omega)))
      cases hx : nxT rs sl al lo lb tl sy wl t with
      | none =>
        rw [hx] at b1 b2
        have ec : coL (nxT rs sl al lo lb tl sy wl) (c + 1) us t = ((us.length : Int) - 1, t) := by
          show (match nxT rs sl al lo lb tl sy wl t with | none => _ | some t' => _) = _
          rw [hx]
        rw [ec]
        refine ⟨f2, ?_, b2, fun b hb => (b3 b (by omega)).trans (n6 b (by omega)), ok.2.2.2.2.2.2.1⟩
        show p_X11_correct_c13 (p_X11_correct_l13 n) _ _ _ = some (I ((us.length : Int) - 1), _)
        rw [hu, show ((k + 1 : Nat) : Int) - 1 = (k : Int) by omega]
        simp only [p_X11_correct_c13, z_b, z_rt, ite_ap, e1, if_false, x_vr C, a1', b1, bO, not_true_eq_false]
      | some t' =>
        rw [hx] at b1 b2 b4
        have b2' : CS (hI H f2) B dw sl rs al os bs ig tl sy dr t' lo lb li wl := b2
        have b4' : ∀ d ∈ t', isSg d := b4
        have F2 : FoC f2 (B + 48) (arL (B + 48)) t' := b2'.2.2.2.1.2.2.2.2.2.2.1
        have hd := holds_eq C.oh C.ot F2.1 b4' ul (by omega) A2
        have hd' : p_X1_holds (some (B + cRf 7)) (some (B + cRf 5)) (hI H f2) = some (if t' ∈ us then 1 else 0, hI H f2) := hd
        have vr7 : ∀ (α : Type) (k : ZM α) (f : FI), z_vr 2 (some (B + cRf 7)) k (hI H f) = k (hI H f) := fun α k f => o_vr C.oh k
        by_cases q : t' ∈ us
        · have ec : coL (nxT rs sl al lo lb tl sy wl) (c + 1) us t = (-1, t') := by
            show (match nxT rs sl al lo lb tl sy wl t with | none => _ | some t' => _) = _
            rw [hx]
            show (if t' ∈ us then _ else _) = _
            rw [if_pos q]
          rw [ec]
          refine ⟨f2, ?_, b2', fun b hb => (b3 b (by omega)).trans (n6 b (by omega)), b4'⟩
          show p_X11_correct_c13 (p_X11_correct_l13 n) _ _ _ = some (I (-1), _)
          simp only [p_X11_correct_c13, z_b, z_rt, ite_ap, e1, if_false, x_vr C, a1', b1, bO, n1, not_false_eq_true, if_true, x_gR C 7 (by decide), x_gR C 5 (by decide), vr7, hd', q]
          rfl
        · have ec : coL (nxT rs sl al lo lb tl sy wl) (c + 1) us t = coL (nxT rs sl al lo lb tl sy wl) c (us ++ [t']) t' := by
            show (match nxT rs sl al lo lb tl sy wl t with | none => _ | some t' => _) = _
            rw [hx]
            show (if t' ∈ us then _ else _) = _
            rw [if_neg q]
          rw [ec]
          obtain ⟨f3, k1, k2, k3⟩ := hkeep_eq C.oh C.ot (d_ht B) b4' (by omega) ul F2.1 A2
          have k1' : p_X1_keep (some (B + cRf 7)) (some (B + cRf 5)) (hI H f2) = some ((), hI H f3) := k1
          have n3 : ∀ b, b ≠ B + 74 → b ≠ B + 76 → b ≠ B + 78 → f3 b = f2 b := fun b h1 h2 h3 => k3.2 b h1 (by simp only [List.map_cons, List.map_nil, List.mem_cons, List.not_mem_nil, or_false, not_or, arL]; omega)
          have S3 : CS (hI H f3) B dw sl rs al os bs ig tl sy dr t' lo lb li wl := by
            obtain ⟨s1, s2, s3, ⟨c1, c2, c3, c4, c5, c6, c7, c8, c9, c10⟩, cd⟩ := b2'
            refine ⟨s1, s2, s3, ⟨by rw [show zI (hI H f3) = f3 from rfl, n3 B (by omega) (by omega) (by omega)]; exact c1, c2.fr (fun a h1 h2 => n3 a (by omega) (by omega) (by omega)), c3, c4, ?_, ?_, c7.fr (fun a h1 h2 => n3 a (by omega) (by omega) (by omega)), ?_, ?_, ?_⟩, CD.fr cd (fun b hb => n3 b (fun z => hb (AA_mem.mpr (by omega))) (fun z => hb (AA_mem.mpr (by omega))) (fun z => hb (AA_mem.mpr (by omega))))⟩
            · have e : f3 (B + 26) = f2 (B + 26) := n3 _ (by omega) (by omega) (by omega)
              unfold AlC at *; show ∀ _, _; rw [show zI (hI H f3) = f3 from rfl, e]; exact c5
            · have e : f3 (B + 39) = f2 (B + 39) := n3 _ (by omega) (by omega) (by omega)
              unfold ToldC at *; rw [show zI (hI H f3) = f3 from rfl, e]; exact c6
            · rw [show zI (hI H f3) = f3 from rfl, n3 _ (by omega) (by omega) (by omega), n3 _ (by omega) (by omega) (by omega)]; exact c8
            · rw [show zI (hI H f3) = f3 from rfl, n3 B (by omega) (by omega) (by omega)]
              rcases c9 with z | ⟨z1, z2⟩
              · exact Or.inl z
              · exact Or.inr ⟨z1, z2.congr (fun b h1 h2 => n3 b (by omega) (by omega) (by omega))⟩
            · rw [show zI (hI H f3) = f3 from rfl, n3 B (by omega) (by omega) (by omega)]
              rcases c10 with z | ⟨i, z1, z2, z3⟩
              · exact Or.inl z
              · exact Or.inr ⟨i, z1, z2, z3.congr (fun b h1 h2 => n3 b (by omega) (by omega) (by omega))⟩
          have ul' : UsOk (us ++ [t']) := fun u hu => by
            rcases List.mem_append.mp hu with z | z
            · exact ul u z
            · rw [List.mem_singleton.mp z]; exact ⟨F2.1.2.1, b4'⟩
          obtain ⟨f', p1, p2, p3, p4⟩ := ih (k + 1) n t' (us ++ [t']) f3 (by omega) (by omega) (by rw [List.length_append, hu]; rfl) ul' (ok.tx b4') S3 k2
          refine ⟨f', ?_, p2, fun b hb => (p3 b hb).trans ((n3 b (by omega) (by omega) (by omega)).trans ((b3 b (by omega)).trans (n6 b (by omega)))), p4⟩
          rw [← p1]
          show p_X11_correct_c13 (p_X11_correct_l13 n) _ _ _ = _
          simp only [p_X11_correct_c13, z_b, z_n, ite_ap, e1, if_false, x_vr C, a1', b1, bO, n1, not_false_eq_true, if_true, x_gR C 7 (by decide), x_gR C 5 (by decide), vr7, hd', q, k1', e2]
end
