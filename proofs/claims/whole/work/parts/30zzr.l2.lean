/-- a call of both, without refusals -/
def Call2 (H : ZH) (B nc : Nat) (cls mdl : ZM Int32) : Prop := ∃ A' H1 H2 v, cls H = some (v, H1) ∧ mdl H1 = some (v, H2) ∧ ST H2 B (nc + 1) A' ∧ zD H2 = zD H ∧ zK H1 (B + 95) = (19, 0)
section
variable {H H' H1 : ZH} {B nc : Nat} {f f' : FI} {g g' : FL} {dw dw' : Wd} {sl sl' : List St} {rs rs' : List Ru} {al al' : Nat → Nat → Bool} {os bs ig os' bs' ig' : List Ow} {tl tl' : Nat → Nat} {sy sy' : List Sty} {dr dr' : List It} {t t' : List Nat} {lo lb li lo' lb' li' : Bk} {wl wl' : List Wd}
theorem call2_ok {cls mdl : ZM Int32} {v : Int32} (hnc : nc < 512) (S : CS H B dw sl rs al os bs ig tl sy dr t lo lb li wl) (M : MS H B dw sl rs al os bs ig tl sy dr t) (hT : zT H ≤ B + 142 + 5 * nc) (hN : zN H ≤ 102646 + 64 * nc)
    (hp : cls H = some (v, H1)) (hk : KC H H1 B) (S1 : CS H1 B dw' sl' rs' al' os' bs' ig' tl' sy' dr' t' lo' lb' li' wl') (ok : AbOk dw' sl' rs' os' bs' ig' sy' dr' t' (nc + 1))
    (ref : ∀ Hm, MS Hm B dw sl rs al os bs ig tl sy dr t → ∃ H2, mdl Hm = some (v, H2) ∧ KM Hm H2 B ∧ MS H2 B dw' sl' rs' al' os' bs' ig' tl' sy' dr' t') :
    Call2 H B nc cls mdl := by
  have M1 := M.kc S.2.1 hk
  obtain ⟨H2, r1, r2, r3⟩ := ref _ M1
  have S2 := S1.km r2
  refine ⟨(dw', sl', rs', al', os', bs', ig', tl', sy', dr', t'), H1, H2, v, hp, r1, ⟨⟨lo', lb', li', wl', S2⟩, r3, ok, ?_, ?_⟩, ?_⟩
  · obtain ⟨f', g', rfl, k2⟩ := r2
    have := hk.2.2.1
    show zT H1 ≤ _
    omega
  · obtain ⟨f', g', rfl, k2⟩ := r2
    have := hk.2.2.2.2.1
    show zN H1 ≤ _
    omega
  · obtain ⟨f', g', rfl, k2⟩ := r2
    exact ⟨hk.1, M1.1.1.1⟩
theorem call_length (S : ST H B nc (dw, sl, rs, al, os, bs, ig, tl, sy, dr, t)) (hnc : nc < 512) : Call2 H B nc (p_X11_length (some B)) (p_X12_length (some (B + 95))) := by
  obtain ⟨⟨lo, lb, li, wl, C⟩, M, ok, hT, hN⟩ := S
  have F : FoC (zI H) (B + 48) (arL (B + 48)) t := C.2.2.2.1.2.2.2.2.2.2.1
  refine call2_ok (H1 := H) (v := I t.length) hnc C M hT hN ?_ (KC.refl H B) C (ok.up hnc) (fun Hm Mm => ?_)
  · have vr5 : ∀ (α : Type) (k : ZM α), z_vr 10 (some (B + cRf 5)) k (hI H (zI H)) = k (hI H (zI H)) := fun α k => o_vr C.1.ot k
    have g6 : z_gI 10 6 (some (B + cRf 5)) (hI H (zI H)) = some (zI H (B + 48) 6, hI H (zI H)) := o_gI C.1.ot 6
    show p_X11_length (some B) (hI H (zI H)) = some (I t.length, hI H (zI H))
    simp only [p_X11_length, p_X9_size, z_b, z_rt, x_gR C.1 5 (by decide), vr5, g6, F.1.1]
  · refine ⟨hM Hm (zu (zI Hm) (B + 95) 58 0) (zL Hm), ?_, KM.pI _ _, Mm.pI (Or.inl rfl)⟩
    have T : TxM (zI Hm) (arM B) (B + 95) t := Mm.2.2.2.2.2.2.2.2.2.2.2.1
    have e : zu (zI Hm) (B + 95) 58 0 (B + 95) 32 = I t.length := by rw [zu_cell, if_neg (by decide)]; exact T.1
    show p_X12_length (some (B + 95)) (hM Hm (zI Hm) (zL Hm)) = _
    simp only [p_X12_length, z_b, z_rt, m_pI Mm.1.1, m_gI Mm.1.1, e]
theorem call_words (S : ST H B nc (dw, sl, rs, al, os, bs, ig, tl, sy, dr, t)) (hnc : nc < 512) : Call2 H B nc (p_X11_words (some B)) (p_X12_words (some (B + 95))) := by
  obtain ⟨⟨lo, lb, li, wl, C⟩, M, ok, hT, hN⟩ := S
  have F : FoC (zI H) (B + 48) (arL (B + 48)) t := C.2.2.2.1.2.2.2.2.2.2.1
  refine call2_ok (H1 := H) (v := I (wsOf t).length) hnc C M hT hN ?_ (KC.refl H B) C (ok.up hnc) (fun Hm Mm => ?_)
  · have vr5 : ∀ (α : Type) (k : ZM α), z_vr 10 (some (B + cRf 5)) k (hI H (zI H)) = k (hI H (zI H)) := fun α k => o_vr C.1.ot k
    have g7 : z_gI 10 7 (some (B + cRf 5)) (hI H (zI H)) = some (zI H (B + 48) 7, hI H (zI H)) := o_gI C.1.ot 7
    show p_X11_words (some B) (hI H (zI H)) = some (I (wsOf t).length, hI H (zI H))
    simp only [p_X11_words, p_X9_wordCount, z_b, z_rt, x_gR C.1 5 (by decide), vr5, g7, F.2.2.1.1]
  · have M0 : MS (hM Hm (zu (zI Hm) (B + 95) 58 0) (zL Hm)) B dw sl rs al os bs ig tl sy dr t := Mm.pI (Or.inl rfl)
    have T : TxM (zu (zI Hm) (B + 95) 58 0) (arM B) (B + 95) t := M0.2.2.2.2.2.2.2.2.2.2.2.1
    have m := Mm.1.1
    obtain ⟨f', g', p1, p2, p3⟩ := finds_eq (h := Hm) (f := zu (zI Hm) (B + 95) 58 0) (g := zL Hm) m ok.2.2.2.2.2.2.1 T
    have tb : f' (B + 95) 34 = 1 ∧ TC f' g' (arM B) (B + 95) (madeOf rs sl []) ∨ f' (B + 95) 34 = 0 := by
      rcases M0.2.2.2.2.2.2.2.2.2.2.2.2 with ⟨q1, q2⟩ | q
      · exact Or.inl ⟨by rw [(p3.1 34 (by decide)).1]; exact q1, TC.frM q2 p3 m (by decide) (by decide) (by decide) (by decide) (by decide) (by decide)⟩
      · exact Or.inr (by rw [(p3.1 34 (by decide)).1]; exact q)
    refine ⟨hM Hm f' g', ?_, (KM.pI 58 0).trans (KM.mk_ (H := hM Hm (zu (zI Hm) (B + 95) 58 0) (zL Hm)) m p3 (by decide)), ⟨Mm.1, MC.frame Mm.1 M0.2 p3 (by decide) (by decide) (by decide) tb⟩⟩
    show p_X12_words (some (B + 95)) (hM Hm (zI Hm) (zL Hm)) = _
    simp only [p_X12_words, z_b, z_rt, m_pI m, m_vr m, p1, m_gI m, p2.1]
theorem call_made (S : ST H B nc (dw, sl, rs, al, os, bs, ig, tl, sy, dr, t)) (hnc : nc < 512) : Call2 H B nc (p_X11_made (some B)) (p_X12_made (some (B + 95))) := by
  obtain ⟨⟨lo, lb, li, wl, C⟩, M, ok, hT, hN⟩ := S
  have K := C.2.2.2.1.2.1.1
  refine call2_ok (H1 := H) (v := I (madeOf rs sl []).length) hnc C M hT hN ?_ (KC.refl H B) C (ok.up hnc) (fun Hm Mm => ?_)
  · have vr0 : ∀ (α : Type) (k : ZM α), z_vr 3 (some (B + cRf 0)) k (hI H (zI H)) = k (hI H (zI H)) := fun α k => lx_vr C.1 k
    have bc := bk_count (f := zI H) C.1.2.2.1.1 K
    have mc : p_X2_madeCount (some (B + cRf 0)) (hI H (zI H)) = some (I (madeOf rs sl []).length, hI H (zI H)) := by
      show p_X2_madeCount (some (B + 1)) (hI H (zI H)) = _
      have lx := C.1.2.1
      have bk := C.1.2.2.1.1
      simp only [p_X2_madeCount, ite_ap, z_b, z_n, z_rt, z_vr, z_gI, z_gR, z_pI, z_pR, hI_K, hI_R, hI_I, hI_hI, hI_T, hI_N, hI_L, hI_D, sI_hI, wI_hI, if_true, lx.1, lx.2.2.2.1, bk.1, bc]
    show p_X11_made (some B) (hI H (zI H)) = some (I (madeOf rs sl []).length, hI H (zI H))
    simp only [p_X11_made, z_b, z_rt, x_gR C.1 0 (by decide), vr0, mc]
  · have M0 : MS (hM Hm (zu (zI Hm) (B + 95) 58 0) (zL Hm)) B dw sl rs al os bs ig tl sy dr t := Mm.pI (Or.inl rfl)
    have m := Mm.1.1
    obtain ⟨f', g', a1, a2, a3, a4⟩ := makes_eq (h := Hm) (f := zu (zI Hm) (B + 95) 58 0) (g := zL Hm) m M0.2.2.2.1 M0.2.2.1 M0.2.2.2.2.2.2.2.2.2.2.2.2
    have F1 : MFr (zu (zI Hm) (B + 95) 58 0) f' (zL Hm) g' (arM B) (B + 95) [34, 35] [36, 37, 38, 39] := by
      obtain ⟨x1, x2, x3⟩ := a3
      have nM : ∀ j, g' (B + 95) j = zL Hm (B + 95) j := fun j => by rw [x3 (B + 95) (m.2.1 36 (by decide)).2.2.symm]
      refine ⟨fun j hj => ⟨x1 j (fun q => hj (by simp [q])) (fun q => hj (by simp [q])), nM j⟩, fun b hb hn => ?_⟩
      simp only [List.map_cons, List.map_nil, List.mem_cons, List.not_mem_nil, or_false, not_or] at hn
      exact ⟨x2 b (by simp only [List.mem_cons, List.not_mem_nil, or_false, not_or]; exact ⟨hb, hn.2⟩), x3 b hn.1⟩
    have e35 : f' (B + 95) 35 = I (madeOf rs sl []).length := by obtain ⟨K', P, Q, O, t1, t2, t3⟩ := a2; exact t3
    refine ⟨hM Hm f' g', ?_, (KM.pI 58 0).trans (KM.mk_ (H := hM Hm (zu (zI Hm) (B + 95) 58 0) (zL Hm)) m F1 (by decide)), ⟨Mm.1, MC.frame Mm.1 M0.2 F1 (by decide) (by decide) (by decide) (Or.inl ⟨a4, a2⟩)⟩⟩
    show p_X12_made (some (B + 95)) (hM Hm (zI Hm) (zL Hm)) = _
    simp only [p_X12_made, z_b, z_rt, m_pI m, m_vr m, a1, m_gI m, e35]
theorem call_scrap (S : ST H B nc (dw, sl, rs, al, os, bs, ig, tl, sy, dr, t)) (hnc : nc < 512) : Call2 H B nc (p_X11_scrap (some B)) (p_X12_scrap (some (B + 95))) := by
  obtain ⟨⟨lo, lb, li, wl, C⟩, M, ok, hT, hN⟩ := S
  have c := C.2.2.2.1
  have hd := ok.1
  refine call2_ok (H1 := hI H (zu (zI H) B 10 (I (cN [])))) (v := I dw.length) (dw' := []) hnc C M hT hN ?_ (KC.ints (fun b h1 h2 => zu_ne (by omega) _ _)) (C.ints c.dft (Fr.zu (AA_mem.mpr (by omega)))) ⟨⟨isW_nil, Nat.zero_le _⟩, (ok.up hnc).2⟩ (fun Hm Mm => ?_)
  · show p_X11_scrap (some B) (hI H (zI H)) = some (I dw.length, hI H (zu (zI H) B 10 (I (cN []))))
    have e : (1 : Int32) = I (cN []) := rfl
    simp only [p_X11_scrap, p_X11_takeDraft, z_b, z_rt, x_vr C.1, x_gI C.1, x_pI C.1, c.1, sizeOf_eq _ hd.1 hd.2, e]
  · have M0 : MS (hM Hm (zu (zI Hm) (B + 95) 58 0) (zL Hm)) B dw sl rs al os bs ig tl sy dr t := Mm.pI (Or.inl rfl)
    have m := Mm.1.1
    refine ⟨hM Hm (zu (zI Hm) (B + 95) 58 0) (zu (zL Hm) (B + 95) 0 (J (mN []))), ?_, ⟨_, _, rfl, fun b hb => ⟨zu_ne (by omega) _ _, zu_ne (by omega) _ _⟩⟩, ⟨Mm.1, MC.dft M0.2⟩⟩
    have e : (0 : Int64) = J (mN []) := rfl
    have e0 : zL Hm (B + 95) 0 = J (mN dw) := Mm.2.1
    show p_X12_scrap (some (B + 95)) (hM Hm (zI Hm) (zL Hm)) = _
    simp only [p_X12_scrap, z_b, z_rt, m_pI m, m_gL m, e0, lengthOf_eq _ hd.1 (show dw.length ≤ 12 by omega), m_pL m, e]
end
