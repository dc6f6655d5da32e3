section
variable {H H' H1 : ZH} {B nc : Nat} {f f' : FI} {g g' : FL} {dw dw' : Wd} {sl sl' : List St} {rs rs' : List Ru} {al al' : Nat → Nat → Bool} {os bs ig os' bs' ig' : List Ow} {tl tl' : Nat → Nat} {sy sy' : List Sty} {dr dr' : List It} {t t' : List Nat} {lo lb li lo' lb' li' : Bk} {wl wl' : List Wd}
/-- the class's part with other ignored words -/
theorem CC.igd (c : CC f B dw sl rs al os bs ig tl sy t lo lb li wl) (h : ∀ b, b ≠ B + 43 → b ≠ B + 45 → b ≠ B + 47 → f' b = f b) (K5 : BkIs f' (B + 43) (B + 45) (B + 47) 512 li') (R : IgR li' ig') : CC f' B dw sl rs al os bs ig' tl sy t lo lb li' wl := by
  obtain ⟨c1, c2, c3, c4, c5, c6, c7, c8, c9, c10⟩ := c
  refine ⟨by rw [h B (by omega) (by omega) (by omega)]; exact c1, ⟨?_, ?_, ?_, ?_, K5⟩, ⟨c3.1, c3.2.1, R⟩, c4, ?_, ?_, c7.fr (fun a h1 h2 => h a (by omega) (by omega) (by omega)), ?_, ?_, ?_⟩
  · have := c2.1
    unfold BkIs at *
    rw [h (B + 4) (by omega) (by omega) (by omega), h (B + 6) (by omega) (by omega) (by omega), h (B + 8) (by omega) (by omega) (by omega)]; exact this
  · have := c2.2.1
    unfold BkIs at *
    rw [h (B + 9) (by omega) (by omega) (by omega), h (B + 11) (by omega) (by omega) (by omega), h (B + 13) (by omega) (by omega) (by omega)]; exact this
  · have := c2.2.2.1
    unfold BkIs at *
    rw [h (B + 14) (by omega) (by omega) (by omega), h (B + 16) (by omega) (by omega) (by omega), h (B + 18) (by omega) (by omega) (by omega)]; exact this
  · have := c2.2.2.2.1
    unfold BkIs at *
    rw [h (B + 19) (by omega) (by omega) (by omega), h (B + 21) (by omega) (by omega) (by omega), h (B + 23) (by omega) (by omega) (by omega)]; exact this
  · unfold AlC at *; rw [h (B + 26) (by omega) (by omega) (by omega)]; exact c5
  · unfold ToldC at *; rw [h (B + 39) (by omega) (by omega) (by omega)]; exact c6
  · rw [h (B + 71) (by omega) (by omega) (by omega), h (B + 73) (by omega) (by omega) (by omega)]; exact c8
  · rw [h B (by omega) (by omega) (by omega)]
    rcases c9 with q | ⟨q1, q2⟩
    · exact Or.inl q
    · exact Or.inr ⟨q1, q2.congr (fun b h1 h2 => h b (by omega) (by omega) (by omega))⟩
  · rw [h B (by omega) (by omega) (by omega)]
    rcases c10 with q | ⟨j, q1, q2, q3⟩
    · exact Or.inl q
    · exact Or.inr ⟨j, q1, q2, q3.congr (fun b h1 h2 => h b (by omega) (by omega) (by omega))⟩
theorem ok_ig (ok : AbOk dw sl rs os bs ig sy dr t nc) (hnc : nc < 512) {w : Wd} (hw : WdOk w) {r : Nat} (hr : r ≤ nc + 1) (o' : os'.length ≤ 10) (hd' : ∀ w, fnx w os' 0 ≠ none → fnx w bs 0 = none) : AbOk dw sl rs os' bs (ownA ig w r) sy dr t (nc + 1) := by
  have u := ok.up hnc
  obtain ⟨a1, a2, a3, a4, a5, a6, a7, ⟨a8, a9, a10⟩, a11⟩ := ok
  refine ⟨u.1, u.2.1, u.2.2.1, ⟨o', a4.2.1, hd', a4.2.2.2⟩, a5, a6, a7, ⟨nd_ownA a8, ?_, fun p hp => ?_⟩, by omega⟩
  · rw [len_ownA]; split <;> omega
  · rcases (mem_ownA a8).mp hp with rfl | ⟨h, -⟩
    · exact ⟨hw, hr⟩
    · exact ⟨(a10 p h).1, by have := (a10 p h).2; omega⟩
theorem cnt_le (ok : AbOk dw sl rs os bs ig sy dr t nc) (w : Wd) : cnt ig w ≤ nc := by
  unfold cnt
  cases q : fnx w ig 0 with
  | none => exact Nat.zero_le _
  | some k =>
    obtain ⟨hk, r0, h0⟩ := fnx_at q
    show (ig.getD k ([], 0)).2 ≤ nc
    rw [List.getD_eq_getElem?_getD, h0]
    exact (ok.2.2.2.2.2.2.2.1.2.2 _ (List.mem_of_getElem? h0)).2
theorem call_ignore (S : ST H B nc (dw, sl, rs, al, os, bs, ig, tl, sy, dr, t)) (hnc : nc < 512) (x : Int32) : Call H B nc (p_L_ignore (some B) x (some (B + 141))) (p_X12_ignore (some (B + 95)) x) := by
  obtain ⟨⟨lo, lb, li, wl, C⟩, M, ok, hT, hN⟩ := S
  obtain ⟨z, rfl, hz⟩ := int_of x
  have c := C.2.2.2.1
  have ch := chas (f := zI H) C.1 c.2.2.2.2.2.2.1 hz
  have n1 : ¬ ((1 : Int32) = 0) := by decide
  by_cases q : 0 ≤ z ∧ z < (wsOf t).length
  · obtain ⟨i, rfl⟩ : ∃ i : Nat, z = i := ⟨z.toNat, by omega⟩
    have hi : i < (wsOf t).length := by omega
    rw [if_pos q] at ch
    obtain ⟨wr, w1, w2, w3, w4, w5, w6⟩ := ws_at hi
    obtain ⟨f', a1, a2, a3, a4, a5, a6⟩ := cproof C ok
    have a1' : p_X11_proofread (some B) (hI H (zI H)) = some ((), hI H f') := a1
    have kc : KC H (hI H f') B := KC.ints (fun b h1 h2 => a6 b (by simp only [PA, List.mem_cons, List.not_mem_nil, or_false, not_or]; omega))
    have c' : CC f' B dw sl rs al os bs ig tl sy t lo lb li wl := a2.2.2.2.1
    obtain ⟨Ro, Rb, Ri⟩ := c'.2.2.1
    have K := c'.2.1
    have F : FoC f' (B + 48) (arL (B + 48)) t := c'.2.2.2.2.2.2.1
    have w50 := ws_100 F.1.2.1
    have i50 : i < 50 := by omega
    have v3 := (F.2.2.1.2 i wr w1).2.2
    have vr5 : ∀ (α : Type) (k : ZM α), z_vr 10 (some (B + cRf 5)) k (hI H f') = k (hI H f') := fun α k => o_vr C.1.ot k
    have wn : p_X9_wordNumbered (some (B + cRf 5)) (I (i : Int)) (hI H f') = some (I (cC wr.2.1), hI H f') := by
      show p_X9_wordNumbered (some (B + 48)) (I (i : Int)) (hI H f') = _
      simp only [p_X9_wordNumbered, z_b, z_rt, o_gR C.1.ot 3 (by decide), o_rv C.1.ot 3 (by decide), o_get C.1.ot 3 50 rfl i50, v3]
    have vr8 : ∀ (α : Type) (k : ZM α), z_vr 4 (some (B + cRf 8)) k (hI H f') = k (hI H f') := fun α k => o_vr C.1.op k
    have hRof : Rof rs sl lo lb t i = rdW (madeOf rs sl []) lo lb wr.2.1 := by show rdW _ _ _ (wdT t i) = _; rw [w2]
    have v1 := a3.1 i hi
    have R256 : Rof rs sl lo lb t i < 256 := Rof_lt c.2.2.1.1 hi
    have r0 : (I (Rof rs sl lo lb t i : Int) = 0) ↔ Rof rs sl lo lb t i = 0 := I_eqN (k := 0) (by omega) (by decide)
    have sr : p_X3_isSpelledRight (some (B + cRf 8)) (I (i : Int)) (hI H f') = some (if Rof rs sl lo lb t i = 0 then 0 else 1, hI H f') := by
      show p_X3_isSpelledRight (some (B + 79)) (I (i : Int)) (hI H f') = _
      simp only [p_X3_isSpelledRight, z_b, z_rz, ite_ap, o_gR C.1.op 0 (by decide), o_rv C.1.op 0 (by decide), o_get C.1.op 0 50 rfl i50, v1, r0, true_or, or_true, if_true]
      split <;> rfl
    -- what the reference reads first
    have refS : ∀ Hm, MS Hm B dw sl rs al os bs ig tl sy dr t → ∃ H2, p_X12_hasWord (some (B + 95)) (I (i : Int)) Hm = some (1, H2) ∧ KM Hm H2 B ∧ MS H2 B dw sl rs al os bs ig tl sy dr t ∧ zI H2 (B + 95) 58 = 0 ∧ zI H2 (arM B 45) i = I (Rof rs sl lo lb t i) ∧ zL H2 (arM B 44) i = J (mC wr.2.1) := fun Hm Mm => by
      obtain ⟨H2, p1, p2, p3, p4, p5, p6⟩ := mhas Mm ok c.2.2.1.1 c.2.2.1.2.1 (z := (i : Int)) hz
      rw [if_pos q] at p1 p6
      exact ⟨H2, p1, p2, p3, p6, (p4.2 i hi).1, (p4.1.2 i wr w1).2.2.2⟩
    have refuse : p_X11_ignore (some B) (I (i : Int)) (hI H (zI H)) = p_X11_ignore_b57 (hI H f') → (∀ Hm, MS Hm B dw sl rs al os bs ig tl sy dr t → zI Hm (B + 95) 58 = 0 → zI Hm (arM B 45) i = I (Rof rs sl lo lb t i) → zL Hm (arM B 44) i = J (mC wr.2.1) → (if ¬ I (Rof rs sl lo lb t i : Int) = 0 then p_X12_ignore_b45 (some (B + 95)) (I (i : Int)) (some (B + 95)) Hm else if lg_cmp (J (mC wr.2.1)) 0 = 0 then p_X12_ignore_b45 (some (B + 95)) (I (i : Int)) (some (B + 95)) Hm else (z_b (p_X12_barOf (some (B + 95)) (J (mC wr.2.1))) fun x31 => if x31 = (-1) then (p_X12_ignore_b50 (some (B + 95)) (I (i : Int)) (some (B + 95)) 0) else (p_X12_ignore_b45 (some (B + 95)) (I (i : Int)) (some (B + 95)))) Hm) = p_X12_ignore_b45 (some (B + 95)) (I (i : Int)) (some (B + 95)) Hm) → Call H B nc (p_L_ignore (some B) (I (i : Int)) (some (B + 141))) (p_X12_ignore (some (B + 95)) (I (i : Int))) := fun hp hm => by
      refine call_th' (kk := 2) (f' := f') hnc C a2 kc M ok hT hN (n := 1) hp rfl (by decide) (fun Hm Mm => ?_)
      obtain ⟨H2, p1, p2, p3, p4, p5, p6⟩ := refS Hm Mm
      have e := hm H2 p3 p4 p5 p6
      refine ⟨hM H2 (zu (zI H2) (B + 95) 58 2) (zL H2), 0, ?_, p2.trans (KM.pI _ _), p3.pI (Or.inl rfl), zu_same _ _ _ _⟩
      have m := p3.1.1
      have vr : ∀ (α : Type) (k : ZM α), z_vr 13 (some (B + 95)) k Hm = k Hm := fun α k => if_pos Mm.1.1.1
      have vr2 : ∀ (α : Type) (k : ZM α), z_vr 13 (some (B + 95)) k H2 = k H2 := fun α k => if_pos p3.1.1.1
      have b45 : z_gR 13 45 (some (B + 95)) H2 = some (some (arM B 45), H2) := m_gR (f := zI H2) (g := zL H2) m 45 (by decide)
      have c45 : z_aI (some (arM B 45)) (I i) H2 = some (I (Rof rs sl lo lb t i), H2) := (m_aI (f := zI H2) (g := zL H2) m 45 101 (by decide) (show i < 101 by omega) (by decide)).trans (by rw [p5]; rfl)
      have b44 : z_gR 13 44 (some (B + 95)) H2 = some (some (arM B 44), H2) := m_gR (f := zI H2) (g := zL H2) m 44 (by decide)
      have c44 : z_aL (some (arM B 44)) (I i) H2 = some (J (mC wr.2.1), H2) := (m_aL (f := zI H2) (g := zL H2) m 44 101 (by decide) (show i < 101 by omega) (by decide)).trans (by rw [p6]; rfl)
      have fin : p_X12_ignore_b45 (some (B + 95)) (I (i : Int)) (some (B + 95)) H2 = some (0, hM H2 (zu (zI H2) (B + 95) 58 2) (zL H2)) := by
        have g1 : ¬ (2 : Int32) ≤ 0 := by decide
        show p_X12_ignore_b45 _ _ _ (hM H2 (zI H2) (zL H2)) = _
        simp only [p_X12_ignore_b45, p_X12_ignore_b50, z_b, z_rt, ite_ap, m_pI m, m_gI m, zu_same, g1, if_false]
      rw [← fin, ← e]
      simp only [p_X12_ignore, z_b, ite_ap, vr, p1, n1, not_false_eq_true, if_true, b45, c45, b44, c44, vr2]
    by_cases hl : wr.2.1.length ≤ 10
    · have hw : WdOk wr.2.1 := ⟨w4, w5, hl⟩
      have hcr := cN_range w4 hl
      have hmr := mN_range w4 (show wr.2.1.length ≤ 12 by omega)
      have ecC : cC wr.2.1 = cN wr.2.1 := by unfold cC; rw [if_pos hl]
      have emC : mC wr.2.1 = mN wr.2.1 := by unfold mC; rw [if_pos hl]
      rw [ecC] at wn
      rw [emC] at refS refuse
      have cn0 : ¬ I (cN wr.2.1 : Int) = 0 := by rw [I_0, I_inj (by omega) (by omega)]; omega
      have mn0 : ¬ lg_cmp (J (mN wr.2.1)) 0 = 0 := by
        have := mN_pos w5
        rw [lgc_eq0, litJ, J_inj (by omega) (by omega)]; omega
      by_cases hr : Rof rs sl lo lb t i = 0
      · have bar0 : bget lb (cN wr.2.1) = 0 ↔ fnx wr.2.1 bs 0 = none := by
          rw [ow_get Rb hw]
          cases qq : fnx wr.2.1 bs 0 with
          | none => exact ⟨fun _ => rfl, fun _ => rfl⟩
          | some k =>
            refine ⟨fun z => ?_, fun z => by cases z⟩
            have : 0 < 2 ^ (bs.getD k ([], 0)).2 := Nat.pow_pos (by decide)
            have z' : 2 ^ (bs.getD k ([], 0)).2 = 0 := z
            omega
        have vr0 : ∀ (α : Type) (k : ZM α) (f : FI), z_vr 3 (some (B + cRf 0)) k (hI H f) = k (hI H f) := fun α k f => lx_vr C.1 k
        have ib : p_X2_isBarred (some (B + cRf 0)) (I (cN wr.2.1)) (hI H f') = some (if fnx wr.2.1 bs 0 = none then 0 else 1, hI H f') := (isBarred_eq C.1.2.1 C.1.2.2.1.2.2.1 K.2.2.1 (w := cN wr.2.1) (by omega)).trans (by simp only [bar0])
        by_cases hb : fnx wr.2.1 bs 0 = none
        · -- counted
          have oN : fnx wr.2.1 os 0 = none := by
            have h1 := hRof
            rw [hr] at h1
            unfold rdW readF at h1
            rw [if_pos hl, if_pos (bar0.mpr hb)] at h1
            have h2 : bget lo (cN wr.2.1) = 0 := by
              have h3 := Nat.or_eq_zero_iff.mp h1.symm
              exact (Nat.or_eq_zero_iff.mp h3.1).1
            have := room_iff Ro hw
            cases qq : fnx wr.2.1 os 0 with
            | none => rfl
            | some k =>
              rw [ow_get Ro hw, qq] at h2
              have : 0 < 2 ^ (os.getD k ([], 0)).2 := Nat.pow_pos (by decide)
              have z' : 2 ^ (os.getD k ([], 0)).2 = 0 := h2
              omega
          obtain ⟨ign, igl, igp⟩ := ok.2.2.2.2.2.2.2.1
          have igw : ∀ p ∈ ig, WdOk p.1 := fun p hp => (igp p hp).1
          have cg := cnt_get ign igw Ri hw
          have cl := cnt_le ok wr.2.1
          have lil := IgR_len ign igw Ri
          have bkI := C.1.2.2.1.2.2.2.2
          have vrI : ∀ (α : Type) (k : ZM α) (f : FI), z_vr 11 (some (B + cRf 4)) k (hI H f) = k (hI H f) := fun α k f => if_pos bkI.1
          have vo : p_X10_valueOf (some (B + cRf 4)) (I (cN wr.2.1)) (hI H f') = some (I (cnt ig wr.2.1), hI H f') := (bk_valueOf bkI K.2.2.2.2 (w := cN wr.2.1) (by omega)).trans (by rw [cg])
          have e1 : I (cnt ig wr.2.1 : Int) + 1 = I ((cnt ig wr.2.1 + 1 : Nat) : Int) := I_add _ 1
          have e3 : (I ((cnt ig wr.2.1 + 1 : Nat) : Int) < 3) ↔ cnt ig wr.2.1 + 1 < 3 := by rw [lit, I_lt (by omega) (by decide)]; omega
          have rmi := room_iff Ro hw
          have rmc : p_X2_hasRoomForOwn (some (B + cRf 0)) (I (cN wr.2.1)) (hI H f') = some (if os.length < 10 then 1 else 0, hI H f') := (roomOwn_eq C.1.2.1 C.1.2.2.1.2.1 K.2.1 (w := cN wr.2.1) (by omega)).trans (by
            simp only [rmi, oN, ne_eq, not_true_eq_false, false_or])
          have head : ∀ r, (if I ((cnt ig wr.2.1 + 1 : Nat) : Int) < 3 then p_X11_ignore_b94 (some B) (I (cN wr.2.1)) (I ((cnt ig wr.2.1 + 1 : Nat) : Int)) (hI H f') else if os.length < 10 then r else p_X11_ignore_b94 (some B) (I (cN wr.2.1)) (I ((cnt ig wr.2.1 + 1 : Nat) : Int)) (hI H f')) = (if cnt ig wr.2.1 + 1 < 3 ∨ 10 ≤ os.length then p_X11_ignore_b94 (some B) (I (cN wr.2.1)) (I ((cnt ig wr.2.1 + 1 : Nat) : Int)) (hI H f') else r) := fun r => by
            simp only [e3]
            by_cases u : cnt ig wr.2.1 + 1 < 3
            · rw [if_pos u, if_pos (Or.inl u)]
            · rw [if_neg u]
              by_cases v : os.length < 10
              · rw [if_pos v, if_neg (fun y => y.elim u (fun y => by omega))]
              · rw [if_neg v, if_pos (Or.inr (by omega))]
          have refM : ∀ Hm, MS Hm B dw sl rs al os bs ig tl sy dr t → ∃ H2, KM Hm H2 B ∧ MS H2 B dw sl rs al os bs ig tl sy dr t ∧ zI H2 (B + 95) 58 = 0 ∧ zL H2 (arM B 44) i = J (mN wr.2.1) ∧ p_X12_ignore (some (B + 95)) (I (i : Int)) Hm = p_X12_ignore_l64 zFuel (some (B + 95)) (I (i : Int)) 0 H2 := fun Hm Mm => by
            obtain ⟨H2, p1, p2, p3, p4, p5, p6⟩ := refS Hm Mm
            have m := p3.1.1
            have vr : ∀ (α : Type) (k : ZM α), z_vr 13 (some (B + 95)) k Hm = k Hm := fun α k => if_pos Mm.1.1.1
            have vr2 : ∀ (α : Type) (k : ZM α), z_vr 13 (some (B + 95)) k H2 = k H2 := fun α k => if_pos p3.1.1.1
            have b45 : z_gR 13 45 (some (B + 95)) H2 = some (some (arM B 45), H2) := m_gR (f := zI H2) (g := zL H2) m 45 (by decide)
            have c45 : z_aI (some (arM B 45)) (I i) H2 = some (I (Rof rs sl lo lb t i), H2) := (m_aI (f := zI H2) (g := zL H2) m 45 101 (by decide) (show i < 101 by omega) (by decide)).trans (by rw [p5]; rfl)
            have b44 : z_gR 13 44 (some (B + 95)) H2 = some (some (arM B 44), H2) := m_gR (f := zI H2) (g := zL H2) m 44 (by decide)
            have c44 : z_aL (some (arM B 44)) (I i) H2 = some (J (mN wr.2.1), H2) := (m_aL (f := zI H2) (g := zL H2) m 44 101 (by decide) (show i < 101 by omega) (by decide)).trans (by rw [p6]; rfl)
            have bo : p_X12_barOf (some (B + 95)) (J (mN wr.2.1)) H2 = some (I (oz (fnx wr.2.1 bs 0)), H2) := barOf_eq (h := H2) (f := zI H2) (g := zL H2) m (fun p hp => (Rb.2.1 p hp).1) p3.2.2.2.2.2.2.1 hw
            rw [hb] at bo
            have e0 : I (oz none) = -1 := rfl
            refine ⟨hM H2 (zu (zI H2) (B + 95) 58 0) (zL H2), p2.trans (KM.pI _ _), p3.pI (Or.inl rfl), zu_same _ _ _ _, p6, ?_⟩
            have g00 : (0 : Int32) ≤ 0 := by decide
            have p58 : z_pI 13 58 (some (B + 95)) 0 H2 = some ((), hM H2 (zu (zI H2) (B + 95) 58 0) (zL H2)) := m_pI (f := zI H2) (g := zL H2) m 58 0
            simp only [p_X12_ignore, p_X12_ignore_b50, z_b, ite_ap, vr, p1, n1, not_false_eq_true, if_true, b45, c45, r0, hr, not_true_eq_false, if_false, b44, c44, mn0, vr2, bo, e0, p58, m_gI m, zu_same, g00]
            rw [if_neg (fun y => y rfl)]
          have clsH : p_X11_ignore (some B) (I (i : Int)) (hI H (zI H)) = (if cnt ig wr.2.1 + 1 < 3 ∨ 10 ≤ os.length then p_X11_ignore_b94 (some B) (I (cN wr.2.1)) (I ((cnt ig wr.2.1 + 1 : Nat) : Int)) (hI H f') else (z_b (z_gR 12 4 (some B)) fun x14 => z_b (z_vr 11 x14 (p_X10_drop x14 (I (cN wr.2.1)))) fun _ => z_b (z_gR 12 0 (some B)) fun x15 => z_b (p_X11_readingOf 0 0) fun x16 => z_b (z_vr 3 x15 (p_X2_addOwn x15 (I (cN wr.2.1)) x16)) fun _ => z_b (z_vr 12 (some B) (p_X11_forgetAnswers (some B))) fun _ => z_xrt 0) (hI H f')) := by
            rw [← head]
            simp only [p_X11_ignore, z_b, z_n, ite_ap, x_vr C.1, ch, n1, not_false_eq_true, if_true, a1', x_gR (f := f') C.1 5 (by decide), vr5, wn, cn0, if_false, x_gR (f := f') C.1 8 (by decide), vr8, sr, hr, not_true_eq_false, x_gR (f := f') C.1 0 (by decide), vr0, ib, hb, x_gR (f := f') C.1 4 (by decide), vrI, vo, e1, rmc]
            by_cases v : os.length < 10
            · simp only [v, if_true, n1, not_false_eq_true]
            · simp only [v, if_false, not_true_eq_false]
          by_cases hc : cnt ig wr.2.1 + 1 < 3 ∨ 10 ≤ os.length
          · obtain ⟨f2, s1, s2, s3⟩ := bk_store bkI K.2.2.2.2 (w := cN wr.2.1) (v := cnt ig wr.2.1 + 1) (by omega) (by omega) (Or.inr (by omega))
            have Ri' := IgR_put ign igw Ri hw (r := cnt ig wr.2.1 + 1) (by omega)
            have fr : ∀ b, b ≠ B + 43 → b ≠ B + 45 → b ≠ B + 47 → f2 b = f' b := fun b h1 h2 h3 => s3 b (by simp only [List.mem_cons, List.not_mem_nil, or_false, not_or]; exact ⟨h1, h2, h3⟩)
            have c2 : CC f2 B dw sl rs al os bs (ownA ig wr.2.1 (cnt ig wr.2.1 + 1)) tl sy t lo lb (bput li (cN wr.2.1) (cnt ig wr.2.1 + 1)) wl := c'.igd fr s2 Ri'
            refine call_ok (H1 := hI H f2) (v := I ((cnt ig wr.2.1 + 1 : Nat) : Int)) rfl hnc C M hT hN ?_ (KC.ints (fun b h1 h2 => (fr b (by omega) (by omega) (by omega)).trans (kc.2.2.2.2.2.2 b h1 h2).1)) (a2.ints c2 (s3.mono (fun a ha => by
              simp only [List.mem_cons, List.not_mem_nil, or_false] at ha
              exact AA_mem.mpr (by omega)))) (ok_ig ok hnc hw (by omega) ok.2.2.2.1.1 ok.2.2.2.1.2.2.1) (fun Hm Mm => ?_)
            · show p_X11_ignore (some B) (I (i : Int)) (hI H (zI H)) = some (Sum.inl _, hI H f2)
              rw [clsH, if_pos hc]
              have s1' : p_X10_store (some (B + cRf 4)) (I (cN wr.2.1)) (I ((cnt ig wr.2.1 + 1 : Nat) : Int)) (hI H f') = some ((), hI H f2) := s1
              simp only [p_X11_ignore_b94, z_b, x_gR (f := f') C.1 4 (by decide), vrI, s1', z_xrt]
            · obtain ⟨H2, p2, p3, p4, p6, p7⟩ := refM Hm Mm
              have m := p3.1.1
              obtain ⟨f3, g3, F3, O3, t1, t2⟩ := mign (h := H2) (f := zI H2) (g := zL H2) m ign (fun p hp => ⟨(igp p hp).1, by have := (igp p hp).2; omega⟩) (by omega) p3.2.2.2.2.2.2.2.1 hw (v1 := i) (by omega) p6 p3.2.2.2.2.2.1.1 ok.2.2.2.1.1
              obtain ⟨k1, k2, k3, k4, k5, k6, k7, k8, k9, k10, k11, k12⟩ := MC.comps p3.1 p3.2 F3 (by decide)
              refine ⟨hM H2 f3 g3, p7.trans (t1 hc), p2.trans (KM.mk_ m F3 (by decide)), ⟨p3.1, k1 (by decide), k2 (by decide) (by decide), k3 (by decide) (by decide), k4 (by decide), k5 (by decide) (by decide), k6 (by decide) (by decide), O3, k8 (by decide), k9 (by decide) (by decide), k10 (by decide), k11 (by decide) (by decide), k12 (by decide) (by decide) (by decide)⟩, ?_⟩
              show f3 (B + 95) 58 = 0
              rw [(F3.1 58 (by decide)).1]; exact p4
          · -- learnt
            have hos : os.length < 10 := Classical.byContradiction (fun z => hc (Or.inr (by omega)))
            have hroom : (ownA os wr.2.1 0).length ≤ 10 := by rw [len_ownA, if_pos oN]; omega
            obtain ⟨f2, s1, s2, s3⟩ := bk_drop bkI K.2.2.2.2 (w := cN wr.2.1) (by omega)
            have Ri' := IgR_del ign igw Ri hw
            have fr : ∀ b, b ≠ B + 43 → b ≠ B + 45 → b ≠ B + 47 → f2 b = f' b := fun b h1 h2 h3 => s3 b (by simp only [List.mem_cons, List.not_mem_nil, or_false, not_or]; exact ⟨h1, h2, h3⟩)
            have c2 : CC f2 B dw sl rs al os bs (ownA ig wr.2.1 0) tl sy t lo lb (bdel li (cN wr.2.1)) wl := c'.igd fr s2 Ri'
            have S2 := a2.ints c2 (s3.mono (fun a ha => by
              simp only [List.mem_cons, List.not_mem_nil, or_false] at ha
              exact AA_mem.mpr (by omega)))
            have ok2 := ok_ig ok hnc hw (r := 0) (by omega) ok.2.2.2.1.1 ok.2.2.2.1.2.2.1
            obtain ⟨f3, u1, u2, u3⟩ := cown S2 ok2 c2.2.1 hw (r := 0) (by omega) hroom
            have Ro' := OwR_put Ro hw (r := 0) (by omega)
            have Rb' := OwR_del Rb hw
            have ebs : delO bs wr.2.1 = bs := by unfold delO; rw [hb]
            rw [ebs] at Rb'
            obtain ⟨wl', hW'⟩ := wl_new ok Ro' Rb'
            have fr3 : ∀ b, b ≠ B → (b < B + 9 ∨ B + 24 ≤ b) → b ≠ B + 43 → b ≠ B + 45 → b ≠ B + 47 → fgt f3 B b = f' b := fun b h0 h1 h2 h3 h4 => (fgt_ne h0).trans ((u3 b h1).trans (fr b h2 h3 h4))
            have c3 : CC (fgt f3 B) B dw sl rs al (ownA os wr.2.1 0) bs (ownA ig wr.2.1 0) tl sy t (bput lo (cN wr.2.1) (2 ^ 0)) (bdel lb (cN wr.2.1)) (bdel li (cN wr.2.1)) wl' :=
              c2.bk (by rw [fgt_j (by decide) (by decide), u3 B (by omega)]; exact c2.1) fgt_11 fgt_12 (fun b h1 h2 h3 => (fgt_ne (by omega)).trans (u3 b (by omega))) (u2.fr (fun a h1 h2 => fgt_ne (by omega))) ⟨Ro', Rb', Ri'⟩ hW'
            refine call_ok (H1 := hI H (fgt f3 B)) (v := 0) rfl hnc C M hT hN ?_ (KC.ints (fun b h1 h2 => (fr3 b (by omega) (by omega) (by omega) (by omega) (by omega)).trans (kc.2.2.2.2.2.2 b h1 h2).1)) (a2.ints c3 (fun b hb' => by
                by_cases u : b = B ∨ (B + 9 ≤ b ∧ b < B + 24) ∨ b = B + 43 ∨ b = B + 45 ∨ b = B + 47
                · exact absurd (AA_mem.mpr (by omega)) hb'
                · exact fr3 b (by omega) (by omega) (by omega) (by omega) (by omega))) (ok_ig ok hnc hw (by omega) hroom (fun v hv => by
                  have := dis_own ok.2.2.2.1.2.2.1 Rb.1 Ro.1 wr.2.1 0 v hv
                  rw [ebs] at this; exact this)) (fun Hm Mm => ?_)
            · show p_X11_ignore (some B) (I (i : Int)) (hI H (zI H)) = some (Sum.inl _, hI H (fgt f3 B))
              rw [clsH, if_neg hc]
              have s1' : p_X10_drop (some (B + cRf 4)) (I (cN wr.2.1)) (hI H f') = some ((), hI H f2) := s1
              have ro : ∀ h, p_X11_readingOf 0 0 h = some (I ((0 : Nat) : Int), h) := fun h => rfl
              have u1' : p_X2_addOwn (some (B + cRf 0)) (I (cN wr.2.1)) (I ((0 : Nat) : Int)) (hI H f2) = some ((), hI H f3) := u1
              simp only [z_b, x_gR (f := f') C.1 4 (by decide), vrI, s1', x_gR (f := f2) C.1 0 (by decide), ro, vr0, u1', x_vr C.1, forget_eq C.1, z_xrt]
            · obtain ⟨H2, p2, p3, p4, p6, p7⟩ := refM Hm Mm
              have m := p3.1.1
              obtain ⟨f4, g4, F4, O4, t1, t2⟩ := mign (h := H2) (f := zI H2) (g := zL H2) m ign (fun p hp => ⟨(igp p hp).1, by have := (igp p hp).2; omega⟩) (by omega) p3.2.2.2.2.2.2.2.1 hw (v1 := i) (by omega) p6 p3.2.2.2.2.2.1.1 ok.2.2.2.1.1
              have Ow4 : OwM f4 g4 (arM B) (B + 95) os := OwM.fr (h := H2) p3.2.2.2.2.2.1 F4 m (by decide) (by decide) (by decide) (by decide)
              obtain ⟨f5, g5, v1', v2, v3'⟩ := owns_eq (h := H2) m (fun p hp => (Ro.2.1 p hp).1) Ow4 hw 0 hroom
              have v1'' : p_X12_owns (some (B + 95)) (J (mN wr.2.1)) 0 (hM H2 f4 g4) = some ((), hM H2 f5 g5) := v1'
              have n24 := (m.2.1 24 (by decide)).2.2
              have kL : (fnx wr.2.1 ig 0).getD ig.length < 1024 := by
                cases qq : fnx wr.2.1 ig 0 with
                | none => show ig.length < 1024; omega
                | some k => have := (fnx_at qq).1; show k < 1024; omega
              have O5 : IgM f5 g5 (arM B) (B + 95) (ownA ig wr.2.1 (cnt ig wr.2.1 + 1)) := by
                unfold IgM at *
                rw [(v3'.1 22 (by decide)).1, (v3'.at_ m (j := 23) (by decide) (by decide) (by decide)).2, (v3'.at_ m (j := 24) (by decide) (by decide) (by decide)).1]; exact O4
              have O6 : IgM (zu f5 (arM B 24) ((fnx wr.2.1 ig 0).getD ig.length) 0) g5 (arM B) (B + 95) (ownA ig wr.2.1 0) := by
                have l0 : (ownA ig wr.2.1 0).length = (ownA ig wr.2.1 (cnt ig wr.2.1 + 1)).length := by rw [len_ownA, len_ownA]
                refine ⟨by rw [zu_ne n24.symm, l0]; exact O5.1, fun j p hp => ?_⟩
                rw [ownA_get] at hp
                by_cases e : j = (fnx wr.2.1 ig 0).getD ig.length
                · rw [if_pos e] at hp
                  have hp' := Option.some.inj hp
                  have o := O5.2 j (wr.2.1, cnt ig wr.2.1 + 1) (by rw [ownA_get, if_pos e])
                  rw [← hp', zu_cell, if_pos e]
                  exact ⟨o.1, rfl⟩
                · rw [if_neg e] at hp
                  have o := O5.2 j p (by rw [ownA_get, if_neg e]; exact hp)
                  rw [zu_cell, if_neg e]; exact o
              have F6 : MFr (zI H2) (zu f5 (arM B 24) ((fnx wr.2.1 ig 0).getD ig.length) 0) (zL H2) g5 (arM B) (B + 95) [17, 22] [18, 19, 23, 24] := ((F4.mono (by simp) (by simp)).trans (v3'.mono (by simp) (by simp))).trans ⟨fun j hj => ⟨by rw [zu_ne n24.symm], rfl⟩, fun b' h1 h2 => ⟨zu_ne (fun q => h2 (by simp [q])) _ _, rfl⟩⟩
              obtain ⟨k1, k2, k3, k4, k5, k6, k7, k8, k9, k10, k11, k12⟩ := MC.comps p3.1 p3.2 F6 (by decide)
              have O7 : OwM (zu f5 (arM B 24) ((fnx wr.2.1 ig 0).getD ig.length) 0) g5 (arM B) (B + 95) (ownA os wr.2.1 0) := by
                have j24 : arM B 19 ≠ arM B 24 := fun e => absurd (m.2.2 19 24 (by decide) (by decide) e) (by decide)
                unfold OwM at *
                rw [zu_ne n24.symm, zu_ne j24]; exact v2
              refine ⟨hM H2 (zu f5 (arM B 24) ((fnx wr.2.1 ig 0).getD ig.length) 0) g5, ?_, p2.trans (KM.mk_ m F6 (by decide)), ⟨p3.1, k1 (by decide), k2 (by decide) (by decide), k3 (by decide) (by decide), k4 (by decide), O7, k6 (by decide) (by decide), O6, k8 (by decide), k9 (by decide) (by decide), k10 (by decide), k11 (by decide) (by decide), k12 (by decide) (by decide) (by decide)⟩, ?_⟩
              · rw [p7]
                refine (t2 hc).trans ?_
                simp only [p_X12_ignore_b178, z_b, z_rt, m_vr m, v1'', m_gR m 24 (by decide), m_sI m 24 1024 (by decide) kL (by decide), m_aI m 24 1024 (by decide) kL (by decide), zu_same]
              · show zu f5 (arM B 24) ((fnx wr.2.1 ig 0).getD ig.length) 0 (B + 95) 58 = 0
                rw [(F6.1 58 (by decide)).1]; exact p4
        · -- barred
          refine refuse ?_ (fun Hm Mm h1 h2 h3 => ?_)
          · simp only [p_X11_ignore, z_b, z_n, ite_ap, x_vr C.1, ch, n1, not_false_eq_true, if_true, a1', x_gR (f := f') C.1 5 (by decide), vr5, wn, cn0, if_false, x_gR (f := f') C.1 8 (by decide), vr8, sr, hr, not_true_eq_false, x_gR (f := f') C.1 0 (by decide), vr0, ib, hb]
          · rw [if_neg (fun y => y (r0.mpr hr)), if_neg mn0]
            have m := Mm.1.1
            have bo : p_X12_barOf (some (B + 95)) (J (mN wr.2.1)) Hm = some (I (oz (fnx wr.2.1 bs 0)), Hm) := barOf_eq (h := Hm) (f := zI Hm) (g := zL Hm) m (fun p hp => (Rb.2.1 p hp).1) Mm.2.2.2.2.2.2.1 hw
            have om := oz_m1 (fnx_bd (w := wr.2.1) ok.2.2.2.1.2.1)
            simp only [z_b, bo, ite_ap, om, hb, if_false]
      · -- spelled right
        refine refuse ?_ (fun Hm Mm h1 h2 h3 => ?_)
        · simp only [p_X11_ignore, z_b, z_n, ite_ap, x_vr C.1, ch, n1, not_false_eq_true, if_true, a1', x_gR (f := f') C.1 5 (by decide), vr5, wn, cn0, if_false, x_gR (f := f') C.1 8 (by decide), vr8, sr, hr]
        · rw [if_pos (fun y => hr (r0.mp y))]
    · -- too long
      have ecC : cC wr.2.1 = 0 := by unfold cC; rw [if_neg hl]
      have emC : mC wr.2.1 = 0 := by unfold mC; rw [if_neg hl]
      rw [ecC] at wn
      refine refuse ?_ (fun Hm Mm h1 h2 h3 => ?_)
      · have e0 : I ((0 : Nat) : Int) = 0 := rfl
        simp only [p_X11_ignore, z_b, z_n, ite_ap, x_vr C.1, ch, n1, not_false_eq_true, if_true, a1', x_gR (f := f') C.1 5 (by decide), vr5, wn, e0]
      · rw [emC]
        have e0 : lg_cmp (J ((0 : Nat) : Int)) 0 = 0 := by decide
        rw [if_pos e0]
        split <;> rfl
  · refine call_th (kk := 1) hnc C M ok hT hN (n := 2) ?_ rfl (by decide) (fun Hm Mm => ?_)
    · rw [if_neg q] at ch
      show p_X11_ignore (some B) (I z) (hI H (zI H)) = some (Sum.inr 2, znew (hI H (zI H)) (0, 0) 6)
      simp only [p_X11_ignore, z_b, ite_ap, x_vr C.1, ch, not_true_eq_false, if_false, z_th]
    · obtain ⟨H2, p1, p2, p3, p4, p5, p6⟩ := mhas Mm ok c.2.2.1.1 c.2.2.1.2.1 hz
      rw [if_neg q] at p1 p6
      refine ⟨H2, 0, ?_, p2, p3, p6⟩
      have vr : ∀ (α : Type) (k : ZM α), z_vr 13 (some (B + 95)) k Hm = k Hm := fun α k => if_pos Mm.1.1.1
      simp only [p_X12_ignore, z_b, ite_ap, vr, p1, not_true_eq_false, if_false, z_rt]
end
