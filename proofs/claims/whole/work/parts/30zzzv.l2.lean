section
variable {H H' H1 : ZH} {B nc : Nat} {f f' : FI} {g g' : FL} {dw dw' : Wd} {sl sl' : List St} {rs rs' : List Ru} {al al' : Nat → Nat → Bool} {os bs ig os' bs' ig' : List Ow} {tl tl' : Nat → Nat} {sy sy' : List Sty} {dr dr' : List It} {t t' : List Nat} {lo lb li lo' lb' li' : Bk} {wl wl' : List Wd} {us : List (List Nat)}
/-- the readings, the styles taken, the next text -/
def Tof (rs : List Ru) (sl : List St) (lo lb : Bk) (tl : Nat → Nat) (sy : List Sty) (t : List Nat) : Nat → Option Nat := tkF (wdT t) (chE tl (Rof rs sl lo lb t) (snT t) (bnT t)) (bnT t) sy
def nxT (rs : List Ru) (sl : List St) (al : Nat → Nat → Bool) (lo lb : Bk) (tl : Nat → Nat) (sy : List Sty) (wl : List Wd) (t : List Nat) : Option (List Nat) := co1 (Rof rs sl lo lb t) (Sug wl al t) (Tof rs sl lo lb tl sy t) sy t
theorem chT_sg {j : Nat} {w : Wd} (hs : ∀ c ∈ t, isSg c) (hw : isW w) : ∀ c ∈ (chT t j w).getD t, isSg c := by
  unfold chT
  split
  · exact repT_mem hs hw
  · exact hs
/-- a word becomes another one: the class -/
theorem cword (S : CS H B dw sl rs al os bs ig tl sy dr t lo lb li wl) (hs : ∀ c ∈ t, isSg c) {j : Nat} (hj : j < (wsOf t).length) {w : Wd} (hw : WdOk w) :
    ∃ f', p_X11_changeWord (some B) (I j) (I (cN w)) (hI H (zI H)) = some (bO (chT t j w), hI H f') ∧ CS (hI H f') B dw sl rs al os bs ig tl sy dr ((chT t j w).getD t) lo lb li wl ∧ ∀ b, B + 61 ≤ b → f' b = zI H b := by
  have C := S.1
  have cc := S.2.2.2.1
  have F : FoC (zI H) (B + 48) (arL (B + 48)) t := cc.2.2.2.2.2.2.1
  have ht := F.1.2.1
  have w50 := ws_100 ht
  obtain ⟨w0, v1, v2, v3, v4, v5, v6⟩ := ws_at hj
  have vin : w0.1 + w0.2.1.length ≤ t.length := ((scan_ok t).2.2.2.1 j w0 v1).2.2.1
  have vd : (wsOf t).getD j (0, [], 0) = w0 := by rw [List.getD_eq_getElem?_getD, v1]; rfl
  have hw2 : zI H (arL (B + 48) 2) j = I w0.2.1.length := (F.2.2.1.2 j w0 v1).2.1
  have w10 := hw.2.2
  have vr5 : ∀ (α : Type) (k : ZM α) (f : FI), z_vr 10 (some (B + cRf 5)) k (hI H f) = k (hI H f) := fun α k f => o_vr C.ot k
  have sz : p_X9_size (some (B + cRf 5)) (hI H (zI H)) = some (I t.length, hI H (zI H)) := by
    show p_X9_size (some (B + 48)) (hI H (zI H)) = _
    simp only [p_X9_size, z_b, z_rt, o_gI C.ot, F.1.1]
  have ws2 : p_X9_wordSize (some (B + cRf 5)) (I j) (hI H (zI H)) = some (I w0.2.1.length, hI H (zI H)) := by
    show p_X9_wordSize (some (B + 48)) (I j) (hI H (zI H)) = _
    simp only [p_X9_wordSize, z_b, z_rt, o_gR C.ot 2 (by decide), o_rv C.ot 2 (by decide), o_get C.ot 2 50 rfl (show j < 50 by omega), hw2]
  have e1 : (I (t.length : Int) - I (w0.2.1.length : Int) + I (w.length : Int) ≤ 100) ↔ t.length - w0.2.1.length + w.length ≤ 100 := by
    rw [I_sn _ _ (by omega), I_an, lit, I_le (by omega) (by decide)]; omega
  by_cases q : t.length - w0.2.1.length + w.length ≤ 100
  · have ec : chT t j w = some (repT t w0.1 w0.2.1.length w) := by unfold chT; rw [v2, vd, if_pos q]
    have hs' := repT_mem (s := w0.1) (n := w0.2.1.length) hs hw.1
    obtain ⟨f1, p1, p2, p3⟩ := rp_eq C.ot (f := zI H) F.1 F.2.2.1 v1 (by omega) vin hw.1 w10 q
    have n1 : ∀ b, b ≠ B + 48 → b ≠ B + 50 → f1 b = zI H b := fun b h1 h2 => p3.2 b h1 (fun z => h2 (by simpa [arL] using z))
    obtain ⟨f2, q1, q2, q3⟩ := fw_eq C.ot hs' p2 (by rw [n1 _ (by unfold arL; omega) (by unfold arL; omega)]; exact F.2.2.2.2.1) (by rw [n1 _ (by unfold arL; omega) (by unfold arL; omega)]; exact F.2.2.2.2.2.1)
    have n2 : ∀ b, b < B + 48 ∨ B + 61 ≤ b → f2 b = f1 b := fun b hb => q3.1 b (fun z => by
      simp only [List.mem_cons, List.not_mem_nil, or_false, arL] at z
      omega)
    have n3 : ∀ b, b < B + 48 ∨ B + 61 ≤ b → f2 b = zI H b := fun b hb => (n2 b hb).trans (n1 b (by omega) (by omega))
    have F' : FoC (fgt f2 B) (B + 48) (arL (B + 48)) (repT t w0.1 w0.2.1.length w) := q2.fr (fun a h1 h2 => fgt_ne (by omega))
    have c' : CC (fgt f2 B) B dw sl rs al os bs ig tl sy (repT t w0.1 w0.2.1.length w) lo lb li wl := by
      refine cc.tx (by rw [fgt_j (by decide) (by decide), n3 B (by omega)]; exact cc.1) fgt_11 fgt_12 (fun b h1 h2 => (fgt_ne (by omega)).trans (n3 b (by omega))) F' ?_
      rw [fgt_ne (by omega), fgt_ne (by omega), n3 _ (by omega), n3 _ (by omega)]
      exact cc.2.2.2.2.2.2.2.1
    have fr : ∀ b, B + 61 ≤ b → fgt f2 B b = zI H b := fun b hb => (fgt_ne (by omega)).trans (n3 b (by omega))
    refine ⟨fgt f2 B, ?_, ?_, fr⟩
    · have p1' : p_X9_replaceWord (some (B + cRf 5)) (I j) (I (cN w)) (hI H (zI H)) = some ((), hI H f1) := p1
      have q1' : p_X9_findWords (some (B + cRf 5)) (hI H f1) = some ((), hI H f2) := q1
      rw [ec]
      simp only [p_X11_changeWord, z_b, z_rz, ite_ap, x_gR C 5 (by decide), vr5, sz, ws2, sizeOf_eq _ hw.1 w10, e1, q, if_true, p1', q1', x_vr C, forget_eq C, or_true, bO]
    · rw [ec]
      refine S.ints c' (fun b hb => ?_)
      have hb' : ¬ (B ≤ b ∧ b < B + 142 ∧ b ≠ B + 2 ∧ b ≠ B + 3 ∧ b ≠ B + 42 ∧ b ≠ B + 92 ∧ b ≠ B + 93 ∧ b ≠ B + 94) := fun z => hb (AA_mem.mpr z)
      exact (fgt_ne (by omega)).trans (n3 b (by omega))
  · have ec : chT t j w = none := by unfold chT; rw [v2, vd, if_neg q]
    refine ⟨zI H, ?_, by rw [ec]; exact S, fun _ _ => rfl⟩
    rw [ec]
    simp only [p_X11_changeWord, z_b, z_rz, ite_ap, x_gR C 5 (by decide), vr5, sz, ws2, sizeOf_eq _ hw.1 w10, e1, q, if_false, true_or, if_true, bO]
/-- suggestions are listed: what changes -/
theorem csug2 (S : CS H B dw sl rs al os bs ig tl sy dr t lo lb li wl) {i : Nat} (hi : i < (wsOf t).length) :
    ∃ f', p_X11_listSuggestions (some B) (I i) (hI H (zI H)) = some ((), hI H f') ∧ CS (hI H f') B dw sl rs al os bs ig tl sy dr t lo lb li wl ∧ SuC f' (B + 24) (arL (B + 24)) (cst (ltr (wdT t i)) al (wdT t i).length) wl ∧ (∀ j, j ≠ 12 → f' B j = zI H B j) ∧ ∀ b, B + 37 ≤ b → f' b = zI H b := by
  have C := S.1
  have cc := S.2.2.2.1
  obtain ⟨f', a1, a2, a3, a4⟩ := csug S hi
  refine ⟨f', a1, a2, a4, ?_⟩
  by_cases q : zI H B 12 = I i
  · have e : p_X11_listSuggestions (some B) (I i) (hI H (zI H)) = some ((), hI H (zI H)) := by
      simp only [p_X11_listSuggestions, z_b, z_rt, ite_ap, x_gI C, q, if_true]
    rw [e] at a1
    have ef : f' = zI H := (congrArg (fun (o : Option (Unit × ZH)) => match o with | some p => zI p.2 | none => zI H) a1).symm
    subst ef
    exact ⟨fun _ _ => rfl, fun _ _ => rfl⟩
  · obtain ⟨w, w1, w2, w3, w4, w5, w6⟩ := ws_at hi
    have bk := C.2.2.1.2.2.2.1
    have dk : ∀ a ∈ [B + 19, B + 21, B + 23], a ≠ B + 24 ∧ ∀ j, uSz j ≠ 0 → a ≠ arL (B + 24) j := fun a ha => by
      simp only [List.mem_cons, List.not_mem_nil, or_false] at ha
      exact ⟨by omega, fun j _ => by unfold arL; omega⟩
    obtain ⟨c1, c2, c3, c4, c5, c6, c7, c8, c9, c10⟩ := cc
    obtain ⟨f1, p1, p2, p3⟩ := lst_eq (al := al) C.os C.ot (d_ts B) bk dk c4 (r := 2) (by omega) w1 (f := zI H) c5 c7 c2.2.2.2.1
    have vr0 : ∀ (α : Type) (k : ZM α), z_vr 3 (some (B + cRf 0)) k (hI H (zI H)) = k (hI H (zI H)) := fun α k => lx_vr C k
    have sg : p_X2_suggestable (some (B + cRf 0)) (hI H (zI H)) = some (some (B + 19), hI H (zI H)) := by
      show p_X2_suggestable (some (B + 1)) (hI H (zI H)) = _
      have lx := C.2.1
      simp only [p_X2_suggestable, ite_ap, z_b, z_n, z_rt, z_vr, z_gI, z_gR, z_pI, z_pR, hI_K, hI_R, hI_I, hI_hI, hI_T, hI_N, hI_L, hI_D, sI_hI, wI_hI, if_true, lx.1, lx.2.2.2.2.2.2]
    have vr1 : ∀ (α : Type) (k : ZM α), z_vr 9 (some (B + cRf 1)) k (hI H (zI H)) = k (hI H (zI H)) := fun α k => o_vr C.os k
    have p1' : p_X8_list (some (B + cRf 1)) (some (B + cRf 5)) (I i) (some (B + 19)) 2 (hI H (zI H)) = some ((), hI H f1) := p1
    have e : p_X11_listSuggestions (some B) (I i) (hI H (zI H)) = some ((), hI H (zu f1 B 12 (I i))) := by
      simp only [p_X11_listSuggestions, z_b, z_rt, ite_ap, x_gI C, q, if_false, x_gR C 1 (by decide), x_gR C 5 (by decide), x_gR C 0 (by decide), vr0, sg, vr1, p1', x_pI C]
    rw [e] at a1
    have ef : f' = zu f1 B 12 (I i) := (congrArg (fun (o : Option (Unit × ZH)) => match o with | some p => zI p.2 | none => zI H) a1).symm
    have n : ∀ b, b ≠ B + 24 → b ≠ B + 28 → b ≠ B + 30 → b ≠ B + 32 → b ≠ B + 34 → b ≠ B + 36 → f1 b = zI H b := fun b h0 h1 h2 h3 h4 h5 => p3.2 b h0 (by
      simp only [List.map_cons, List.map_nil, List.mem_cons, List.not_mem_nil, or_false, not_or, arL]; omega)
    subst ef
    refine ⟨fun j hj => ?_, fun b hb => ?_⟩
    · rw [zu_cell, if_neg hj, n B (by omega) (by omega) (by omega) (by omega) (by omega) (by omega)]
    · rw [zu_ne (by omega), n b (by omega) (by omega) (by omega) (by omega) (by omega) (by omega)]
/-- what has been read stands -/
theorem CC.rd {f : FI} (c : CC f B dw sl rs al os bs ig tl sy t lo lb li wl) (h : f B 11 = 1) : PrC f B (Rof rs sl lo lb t) tl t sy := by
  rcases c.2.2.2.2.2.2.2.2.1 with q | ⟨q1, q2⟩
  · rw [h] at q; exact absurd q (by decide)
  · exact q2
theorem tof_lt {i r : Nat} (h : Tof rs sl lo lb tl sy t i = some r) : lowF (wdT t) (chE tl (Rof rs sl lo lb t) (snT t) (bnT t)) i (bnT t i) sy 0 = some r := by
  unfold Tof tkF at h
  split at h
  · cases h
  · exact h
/-- the styles: the class -/
theorem cch61 (S : CS H B dw sl rs al os bs ig tl sy dr t lo lb li wl) (ok : AbOk dw sl rs os bs ig sy dr t nc) (h11 : zI H B 11 = 1) :
    ∀ (c i n : Nat), i + c = (wsOf t).length → c < n →
      ∃ f', p_X11_changeOnce_l61 n (some B) (I i) (hI H (zI H)) = some (bO (coS sy t (fiS (Tof rs sl lo lb tl sy t) c i)), hI H f') ∧ CS (hI H f') B dw sl rs al os bs ig tl sy dr ((coS sy t (fiS (Tof rs sl lo lb tl sy t) c i)).getD t) lo lb li wl ∧ ∀ b, B + 61 ≤ b → f' b = zI H b := by
  have C := S.1
  have cc := S.2.2.2.1
  have F : FoC (zI H) (B + 48) (arL (B + 48)) t := cc.2.2.2.2.2.2.1
  have ht := F.1.2.1
  have hs := ok.2.2.2.2.2.2.1
  have w50 := ws_100 ht
  have pr := cc.rd h11
  have vr5 : ∀ (α : Type) (k : ZM α) (f : FI), z_vr 10 (some (B + cRf 5)) k (hI H f) = k (hI H f) := fun α k f => o_vr C.ot k
  have vr8 : ∀ (α : Type) (k : ZM α) (f : FI), z_vr 4 (some (B + cRf 8)) k (hI H f) = k (hI H f) := fun α k f => o_vr C.op k
  have wc : p_X9_wordCount (some (B + cRf 5)) (hI H (zI H)) = some (I (wsOf t).length, hI H (zI H)) := by
    show p_X9_wordCount (some (B + 48)) (hI H (zI H)) = _
    simp only [p_X9_wordCount, z_b, z_rt, o_gI C.ot, F.2.2.1.1]
  have sy' : SyIs H (zI H) (B + 42) sy (AA B) := by
    obtain ⟨dsx, dsr, da, a1, n1, o1, a2, n2, o2, a3, n3, o3, x, y, zz, ⟨w1, w2, w3, w4⟩, v⟩ := S.2.2.2.2
    exact ⟨a3, n3, o3, w1, w2, w3, fun q => by have := AA_mem.mp q; omega, fun i hi => by
      obtain ⟨s, s1, sr, sa, u1, u2, u3, u4, u5, u6, u7, u8⟩ := w4 i hi
      exact ⟨s, s1, ⟨_, _, u1, u2, u3, u4, u5, fun q => u6 (List.mem_append.mpr (Or.inl q)), fun q => u7 (List.mem_append.mpr (Or.inl q))⟩, ok.2.2.2.2.1.2 s (List.mem_of_getElem? s1)⟩⟩
  intro c
  induction c with
  | zero =>
    intro i n hi hn
    obtain ⟨n, rfl⟩ := Nat.exists_eq_add_of_lt hn
    have e1 : I ((wsOf t).length : Int) ≤ I (i : Int) := by rw [I_le (by omega) (by omega)]; omega
    refine ⟨zI H, ?_, S, fun _ _ => rfl⟩
    show p_X11_changeOnce_c61 _ _ _ _ = _
    simp only [p_X11_changeOnce_c61, z_b, z_rz, ite_ap, x_gR C 5 (by decide), vr5, wc, e1, if_true, true_or]
    rfl
  | succ c ih =>
    intro i n hi hn
    cases n with
    | zero => exact absurd hn (Nat.not_lt_zero _)
    | succ n =>
      have e1 : ¬ I ((wsOf t).length : Int) ≤ I (i : Int) := by rw [I_le (by omega) (by omega)]; omega
      have e2 : I (i : Int) + 1 = I ((i + 1 : Nat) : Int) := I_add _ 1
      have tk : p_X3_takenStyle (some (B + cRf 8)) (I i) (hI H (zI H)) = some (I (oz (Tof rs sl lo lb tl sy t i)), hI H (zI H)) := by
        show p_X3_takenStyle (some (B + 79)) (I i) (hI H (zI H)) = _
        have v := (pr.2.1 i (by omega)).2.2
        simp only [p_X3_takenStyle, z_b, z_rt, o_gR C.op 2 (by decide), o_rv C.op 2 (by decide), o_get C.op 2 50 rfl (show i < 50 by omega), v]
        rfl
      obtain ⟨sn0, sn1⟩ := styleNumbered_eq (f := zI H) sy' ok.2.2.2.2.1.1 (k := Tof rs sl lo lb tl sy t i) (fun r hr => tkF_lt hr)
      cases hk : Tof rs sl lo lb tl sy t i with
      | none =>
        have s0 := sn0 hk
        have s0' : p_X11_styleNumbered (some (B + cRf 3)) (I (oz (Tof rs sl lo lb tl sy t i))) (hI H (zI H)) = some (none, hI H (zI H)) := s0
        obtain ⟨f', p1, p2, p3⟩ := ih (i + 1) n (by omega) (by omega)
        have ef : fiS (Tof rs sl lo lb tl sy t) (c + 1) i = fiS (Tof rs sl lo lb tl sy t) c (i + 1) := by
          show (match Tof rs sl lo lb tl sy t i with | none => _ | some r => _) = _
          rw [hk]
        rw [ef]
        refine ⟨f', ?_, p2, p3⟩
        rw [← p1]
        show p_X11_changeOnce_c61 (p_X11_changeOnce_l61 n) _ _ _ = _
        simp only [p_X11_changeOnce_c61, z_b, z_n, ite_ap, x_gR C 5 (by decide), vr5, wc, e1, if_false, x_gR C 3 (by decide), x_gR C 8 (by decide), vr8, tk, s0', if_true, e2]
      | some r =>
        obtain ⟨sx, s, t1, t2, t3, t4⟩ := sn1 r hk
        have t4' : p_X11_styleNumbered (some (B + cRf 3)) (I (oz (Tof rs sl lo lb tl sy t i))) (hI H (zI H)) = some (some sx, hI H (zI H)) := t4
        obtain ⟨s', x1, x2, x3, x4, x5⟩ := low_fit (tof_lt hk)
        rw [t1] at x1
        cases x1
        obtain ⟨rw1, ar1, o8, y1, y2, y3, y4⟩ := t2
        have bn1 : bnT t i ≤ (wsOf t).length := (sn_ok t ht i (by omega)).2.1
        have hj : i + s.2.1 < (wsOf t).length := by have := t3.2.2.1; omega
        have ef : coS sy t (fiS (Tof rs sl lo lb tl sy t) (c + 1) i) = chT t (i + s.2.1) s.2.2 := by
          have : fiS (Tof rs sl lo lb tl sy t) (c + 1) i = some (i, r) := by
            show (match Tof rs sl lo lb tl sy t i with | none => _ | some r => _) = _
            rw [hk]
          rw [this]
          show chT t (i + (sy.getD r ([], 0, [])).2.1) (sy.getD r ([], 0, [])).2.2 = _
          rw [x5]
        rw [ef]
        obtain ⟨f', p1, p2, p3⟩ := cword S hs hj t3.2.2.2.1
        refine ⟨f', ?_, p2, p3⟩
        have g2 : z_gI 8 2 (some sx) (hI H (zI H)) = some (I s.2.1, hI H (zI H)) := (o_gI o8 2).trans (by rw [y2])
        have g3 : z_gI 8 3 (some sx) (hI H (zI H)) = some (I (cN s.2.2), hI H (zI H)) := (o_gI o8 3).trans (by rw [y3])
        have e3 : I (i : Int) + I (s.2.1 : Int) = I ((i + s.2.1 : Nat) : Int) := I_an _ _
        have rz : ∀ h, z_rz (bO (chT t (i + s.2.1) s.2.2)) h = some (bO (chT t (i + s.2.1) s.2.2), h) := fun h => by
          cases chT t (i + s.2.1) s.2.2 <;> rfl
        have ns : ¬ (some sx = none) := fun z => by cases z
        show p_X11_changeOnce_c61 (p_X11_changeOnce_l61 n) _ _ _ = _
        simp only [p_X11_changeOnce_c61, p_X11_changeOnce_b92, z_b, ite_ap, x_gR C 5 (by decide), vr5, wc, e1, if_false, x_gR C 3 (by decide), x_gR C 8 (by decide), vr8, tk, t4', ns, g2, g3, x_vr C, e3, p1, rz]
end
