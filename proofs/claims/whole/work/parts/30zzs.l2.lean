theorem ch_of (x : Int32) : ∃ c : Nat, c < 65536 ∧ (Int32.toUInt32 x % 65536).toInt32 = I (c : Nat) := by
  refine ⟨(Int32.toUInt32 x % 65536).toNat, ?_, ?_⟩
  · have : (Int32.toUInt32 x % 65536).toNat = (Int32.toUInt32 x).toNat % 65536 := by simp
    rw [this]
    exact Nat.mod_lt _ (by decide)
  · rw [← Int32.toBitVec_inj, I_bv]
    show (Int32.toUInt32 x % 65536).toBitVec = BitVec.ofNat 32 (Int32.toUInt32 x % 65536).toBitVec.toNat
    rw [BitVec.ofNat_toNat, BitVec.setWidth_eq]
theorem ch_sm : ∀ c : Nat, c < 200 → (Int32.toUInt32 (I (c : Nat)) % 65536).toInt32 = I (c : Nat) ∧ (I (c : Nat)).toUInt32.toUInt16.toUInt32.toInt32 = I (c : Nat) := by decide +kernel
section
variable {H H' H1 : ZH} {B nc : Nat} {f f' : FI} {g g' : FL} {dw dw' : Wd} {sl sl' : List St} {rs rs' : List Ru} {al al' : Nat → Nat → Bool} {os bs ig os' bs' ig' : List Ow} {tl tl' : Nat → Nat} {sy sy' : List Sty} {dr dr' : List It} {t t' : List Nat} {lo lb li lo' lb' li' : Bk} {wl wl' : List Wd}
theorem call_letter (S : ST H B nc (dw, sl, rs, al, os, bs, ig, tl, sy, dr, t)) (hnc : nc < 512) {c : Nat} (hc : c < 65536) : Call H B nc (p_L_letter (some B) (I c) (some (B + 141))) (p_X12_letter (some (B + 95)) (I c)) := by
  obtain ⟨⟨lo, lb, li, wl, C⟩, M, ok, hT, hN⟩ := S
  have cc := C.2.2.2.1
  have hd := ok.1
  have il := isLt_eq' (hI H (zI H)) (c := c) (by omega)
  have sz := sizeOf_eq (hI H (zI H)) hd.1 hd.2
  have n1 : ¬ ((1 : Int32) = 0) := by decide
  have i1 : (I (dw.length : Int) < 10) ↔ dw.length < 10 := by rw [lit, I_lt (by omega) (by decide)]; omega
  have j1 : (I (dw.length : Int) = 10) ↔ dw.length = 10 := I_eqN (k := 10) (by omega) (by decide)
  by_cases q : 97 ≤ c ∧ c ≤ 104
  · by_cases q2 : dw.length < 10
    · have e3 : I (c : Int) - 97 = I ((c - 97 : Nat) : Int) := I_sn c 97 q.1
      have hl : c - 97 < 8 := by omega
      have wd' : isW (dw ++ [c - 97]) := isW_app.mpr ⟨hd.1, fun l hl' => by rw [List.mem_singleton.mp hl']; exact hl⟩
      have ln' : (dw ++ [c - 97]).length ≤ 10 := by rw [List.length_append, List.length_singleton]; omega
      refine call_ok (H1 := hI H (zu (zI H) B 10 (I (cN (dw ++ [c - 97]))))) (v := I (dw ++ [c - 97]).length) (dw' := dw ++ [c - 97]) rfl hnc C M hT hN ?_ (KC.ints (fun b h1 h2 => zu_ne (by omega) _ _)) (C.ints cc.dft (Fr.zu (AA_mem.mpr (by omega)))) ⟨⟨wd', ln'⟩, (ok.up hnc).2⟩ (fun Hm Mm => ?_)
      · show p_X11_letter (some B) (I c) (hI H (zI H)) = some (Sum.inl (I (dw ++ [c - 97]).length), hI H (zu (zI H) B 10 (I (cN (dw ++ [c - 97])))))
        rw [if_pos q] at il
        have wl' := withLetter_eq (hI H (zI H)) (u := dw) hl
        have sz' := sizeOf_eq (hI H (zu (zI H) B 10 (I (cN (dw ++ [c - 97]))))) wd' ln'
        have e5 : zu (zI H) B 10 (I (cN (dw ++ [c - 97]))) B 10 = I (cN (dw ++ [c - 97])) := zu_same _ _ _ _
        simp only [p_X11_letter, z_b, ite_ap, il, n1, not_false_eq_true, if_true, x_gI C.1, cc.1, sz, i1, q2, e3, wl', x_pI C.1, e5, sz', z_xrt]
      · have m := Mm.1.1
        have M0 : MS (hM Hm (zu (zI Hm) (B + 95) 58 0) (zL Hm)) B dw sl rs al os bs ig tl sy dr t := Mm.pI (Or.inl rfl)
        refine ⟨hM Hm (zu (zI Hm) (B + 95) 58 0) (zu (zL Hm) (B + 95) 0 (J (mN (dw ++ [c - 97])))), ?_, ⟨_, _, rfl, fun b hb => ⟨zu_ne (by omega) _ _, zu_ne (by omega) _ _⟩⟩, ⟨Mm.1, MC.dft M0.2⟩, zu_same _ _ _ _⟩
        have e0 : zL Hm (B + 95) 0 = J (mN dw) := Mm.2.1
        have mi := mIn_lt (hM Hm (zI Hm) (zL Hm)) (c := c) (by omega)
        rw [if_pos q] at mi
        have nl : ¬ dw.length = 10 := by omega
        have e4 : I ((c - 97 : Nat) : Int) + 1 = I ((c - 97 + 1 : Nat) : Int) := I_add _ 1
        have j4 := J_or4 (u := dw) hl
        have g58 : zu (zI Hm) (B + 95) 58 0 (B + 95) 58 = 0 := zu_same _ _ _ _
        have z0 : (0 : Int32) ≤ 0 := by decide
        have g0 : zu (zL Hm) (B + 95) 0 (J (mN (dw ++ [c - 97]))) (B + 95) 0 = J (mN (dw ++ [c - 97])) := zu_same _ _ _ _
        show p_X12_letter (some (B + 95)) (I c) (hM Hm (zI Hm) (zL Hm)) = _
        simp only [p_X12_letter, p_X12_letter_b33, z_b, z_rt, ite_ap, mi, n1, not_false_eq_true, if_true, m_gL m, e0, lengthOf_eq _ hd.1 (show dw.length ≤ 12 by omega), j1, nl, m_pI m, m_gI m, g58, z0, e3, e4, j4, m_pL m, g0, lengthOf_eq _ wd' (show (dw ++ [c - 97]).length ≤ 12 by omega)]
    · refine call_th (kk := 2) hnc C M ok hT hN (n := 1) ?_ rfl (by decide) (fun Hm Mm => ?_)
      · rw [if_pos q] at il
        show p_X11_letter (some B) (I c) (hI H (zI H)) = some (Sum.inr 1, znew (hI H (zI H)) (0, 0) 6)
        simp only [p_X11_letter, z_b, ite_ap, il, n1, not_false_eq_true, if_true, x_gI C.1, cc.1, sz, i1, q2, if_false, z_th]
      · have m := Mm.1.1
        refine ⟨hM Hm (zu (zI Hm) (B + 95) 58 2) (zL Hm), 0, ?_, KM.pI _ _, Mm.pI (Or.inl rfl), zu_same _ _ _ _⟩
        have e0 : zL Hm (B + 95) 0 = J (mN dw) := Mm.2.1
        have mi := mIn_lt (hM Hm (zI Hm) (zL Hm)) (c := c) (by omega)
        rw [if_pos q] at mi
        have j1' : (I (dw.length : Int) = 10) = True := eq_true (j1.mpr (by omega))
        have g58 : zu (zI Hm) (B + 95) 58 2 (B + 95) 58 = 2 := zu_same _ _ _ _
        have z0 : ¬ (2 : Int32) ≤ 0 := by decide
        show p_X12_letter (some (B + 95)) (I c) (hM Hm (zI Hm) (zL Hm)) = _
        simp only [p_X12_letter, p_X12_letter_b33, z_b, z_rt, ite_ap, mi, n1, not_false_eq_true, if_true, m_gL m, e0, lengthOf_eq _ hd.1 (show dw.length ≤ 12 by omega), j1', not_true_eq_false, if_false, m_pI m, m_gI m, g58, z0]
  · refine call_th (kk := 1) hnc C M ok hT hN (n := 0) ?_ rfl (by decide) (fun Hm Mm => ?_)
    · rw [if_neg q] at il
      show p_X11_letter (some B) (I c) (hI H (zI H)) = some (Sum.inr 0, znew (hI H (zI H)) (0, 0) 6)
      simp only [p_X11_letter, z_b, ite_ap, il, not_true_eq_false, if_false, z_th]
    · have m := Mm.1.1
      refine ⟨hM Hm (zu (zI Hm) (B + 95) 58 1) (zL Hm), 0, ?_, KM.pI _ _, Mm.pI (Or.inl rfl), zu_same _ _ _ _⟩
      have mi := mIn_lt (hM Hm (zI Hm) (zL Hm)) (c := c) (by omega)
      rw [if_neg q] at mi
      have g58 : zu (zI Hm) (B + 95) 58 1 (B + 95) 58 = 1 := zu_same _ _ _ _
      have z0 : ¬ (1 : Int32) ≤ 0 := by decide
      show p_X12_letter (some (B + 95)) (I c) (hM Hm (zI Hm) (zL Hm)) = _
      simp only [p_X12_letter, p_X12_letter_b33, z_b, z_rt, ite_ap, mi, not_true_eq_false, if_false, m_pI m, m_gI m, g58, z0]
theorem call_signAt (S : ST H B nc (dw, sl, rs, al, os, bs, ig, tl, sy, dr, t)) (hnc : nc < 512) (x : Int32) : Call H B nc (p_L_signAt (some B) x (some (B + 141))) (p_X12_signAt (some (B + 95)) x) := by
  obtain ⟨⟨lo, lb, li, wl, C⟩, M, ok, hT, hN⟩ := S
  obtain ⟨z, rfl, hz⟩ := int_of x
  have cc := C.2.2.2.1
  have F : FoC (zI H) (B + 48) (arL (B + 48)) t := cc.2.2.2.2.2.2.1
  have ht := F.1.2.1
  have n1 : ¬ ((1 : Int32) = 0) := by decide
  have e1 : I (t.length : Int) - 1 = I ((t.length : Int) - 1) := by rw [show (1 : Int32) = I 1 from rfl, I_sub]
  have e2 : ((0 : Int32) ≤ I z ∧ I z ≤ I ((t.length : Int) - 1)) ↔ (0 ≤ z ∧ z < t.length) := by
    rw [lit, I_le (by decide) (by omega), I_le (by omega) (by omega)]; omega
  have vr5 : ∀ (α : Type) (k : ZM α), z_vr 10 (some (B + cRf 5)) k (hI H (zI H)) = k (hI H (zI H)) := fun α k => o_vr C.1.ot k
  have g6 : z_gI 10 6 (some (B + cRf 5)) (hI H (zI H)) = some (zI H (B + 48) 6, hI H (zI H)) := o_gI C.1.ot 6
  by_cases q : 0 ≤ z ∧ z < t.length
  · obtain ⟨i, rfl⟩ : ∃ i : Nat, z = i := ⟨z.toNat, by omega⟩
    have hi : i < t.length := by omega
    have hat := getD_some (d := 0) hi
    have hs := ok.2.2.2.2.2.2.1 _ (List.mem_of_getElem? hat)
    have h200 : t.getD i 0 < 200 := by unfold isSg isLt at hs; omega
    obtain ⟨s1, s2⟩ := ch_sm _ h200
    refine call_ok (H1 := H) (v := I (t.getD i 0)) rfl hnc C M hT hN ?_ (KC.refl H B) C (ok.up hnc) (fun Hm Mm => ?_)
    · have so : p_X9_signOn (some (B + cRf 5)) (I (i : Int)) (hI H (zI H)) = some (I (t.getD i 0), hI H (zI H)) := by
        show p_X9_signOn (some (B + 48)) (I (i : Int)) (hI H (zI H)) = _
        simp only [p_X9_signOn, z_b, z_rc, o_gR C.1.ot 0 (by decide), o_rv C.1.ot 0 (by decide), o_get C.1.ot 0 100 rfl (show i < 100 by omega), F.1.2.2 i _ hat, s1, s2, if_true]
      show p_X11_signAt (some B) (I (i : Int)) (hI H (zI H)) = some (Sum.inl (I (t.getD i 0)), hI H (zI H))
      simp only [p_X11_signAt, p_X9_size, z_b, z_rt, ite_ap, x_gR C.1 5 (by decide), vr5, g6, F.1.1, e1, isIn_eq, e2]
      rw [if_pos q, if_pos n1]
      simp only [x_gR C.1 5 (by decide), vr5, so, z_xrc, s2, if_true]
    · have m := Mm.1.1
      have M0 : MS (hM Hm (zu (zI Hm) (B + 95) 58 0) (zL Hm)) B dw sl rs al os bs ig tl sy dr t := Mm.pI (Or.inl rfl)
      refine ⟨hM Hm (zu (zI Hm) (B + 95) 58 0) (zL Hm), ?_, KM.pI _ _, M0, zu_same _ _ _ _⟩
      have T : TxM (zI Hm) (arM B) (B + 95) t := Mm.2.2.2.2.2.2.2.2.2.2.2.1
      have T0 : TxM (zu (zI Hm) (B + 95) 58 0) (arM B) (B + 95) t := M0.2.2.2.2.2.2.2.2.2.2.2.1
      have g58 : zu (zI Hm) (B + 95) 58 0 (B + 95) 58 = 0 := zu_same _ _ _ _
      show p_X12_signAt (some (B + 95)) (I (i : Int)) (hM Hm (zI Hm) (zL Hm)) = _
      simp only [p_X12_signAt, p_X12_signAt_b20, z_b, ite_ap, m_gI m, T.1, e1, min_eq, e2]
      rw [if_pos q, if_neg n1]
      simp only [m_pI m, m_gI m, g58, not_true_eq_false, if_false, m_gR m 33 (by decide), m_aI m 33 100 (by decide) (show i < 100 by omega) (by decide), T0.2.2 i _ hat, z_rc, s1, s2, if_true]
  · refine call_th (kk := 1) hnc C M ok hT hN (n := 2) ?_ rfl (by decide) (fun Hm Mm => ?_)
    · show p_X11_signAt (some B) (I z) (hI H (zI H)) = some (Sum.inr 2, znew (hI H (zI H)) (0, 0) 6)
      simp only [p_X11_signAt, p_X9_size, z_b, z_rt, ite_ap, x_gR C.1 5 (by decide), vr5, g6, F.1.1, e1, isIn_eq, e2]
      rw [if_neg q, if_neg (fun y => y rfl)]
      rfl
    · have m := Mm.1.1
      refine ⟨hM Hm (zu (zI Hm) (B + 95) 58 1) (zL Hm), 32, ?_, KM.pI _ _, Mm.pI (Or.inl rfl), zu_same _ _ _ _⟩
      have T : TxM (zI Hm) (arM B) (B + 95) t := Mm.2.2.2.2.2.2.2.2.2.2.2.1
      have g58 : zu (zI Hm) (B + 95) 58 1 (B + 95) 58 = 1 := zu_same _ _ _ _
      have s32 : (32 : Int32).toUInt32.toUInt16.toUInt32.toInt32 = 32 := by decide
      show p_X12_signAt (some (B + 95)) (I z) (hM Hm (zI Hm) (zL Hm)) = _
      simp only [p_X12_signAt, p_X12_signAt_b20, z_b, ite_ap, m_gI m, T.1, e1, min_eq, e2]
      rw [if_neg q, if_pos rfl]
      simp only [m_pI m, m_gI m, g58, n1, not_false_eq_true, if_true, z_rc, s32]
end
