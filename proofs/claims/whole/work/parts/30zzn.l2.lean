/-! ===== calls ===== -/
def ST (H : ZH) (B nc : Nat) (A : AS) : Prop := match A with
  | (dw, sl, rs, al, os, bs, ig, tl, sy, dr, t) => (∃ lo lb li wl, CS H B dw sl rs al os bs ig tl sy dr t lo lb li wl) ∧ MS H B dw sl rs al os bs ig tl sy dr t ∧ AbOk dw sl rs os bs ig sy dr t nc ∧ zT H ≤ B + 142 + 5 * nc ∧ zN H ≤ 102646 + 64 * nc
/-- a call of both that agrees; out says what the class answers -/
def Call (H : ZH) (B nc : Nat) (cls mdl : ZM Int32) : Prop := ∃ A' H1 H2 k b, cls H = some (k, H1) ∧ mdl H1 = some (b, H2) ∧ zI H2 (B + 95) 58 = k ∧ (k = 0 → zL H2 (B + 141) 0 = Int32.toInt64 b) ∧ ST H2 B (nc + 1) A' ∧ zD H2 = zD H ∧ zK H1 (B + 95) = (19, 0) ∧ zD H1 = zD H
section
variable {H H' H1 : ZH} {B nc : Nat} {dw dw' : Wd} {sl sl' : List St} {rs rs' : List Ru} {al al' : Nat → Nat → Bool} {os bs ig os' bs' ig' : List Ow} {tl tl' : Nat → Nat} {sy sy' : List Sty} {dr dr' : List It} {t t' : List Nat} {lo lb li lo' lb' li' : Bk} {wl wl' : List Wd}
theorem AbOk.up (a : AbOk dw sl rs os bs ig sy dr t nc) (h : nc < 512) : AbOk dw sl rs os bs ig sy dr t (nc + 1) := by
  obtain ⟨a1, a2, a3, a4, a5, a6, a7, ⟨a8, a9, a10⟩, a11⟩ := a
  exact ⟨a1, a2, a3, a4, a5, a6, a7, ⟨a8, by omega, fun p hp => ⟨(a10 p hp).1, by have := (a10 p hp).2; omega⟩⟩, by omega⟩
/-- the cell of answers is nobody's -/
theorem out_CS (S : CS H B dw sl rs al os bs ig tl sy dr t lo lb li wl) (v : Int64) : CS (zsL H (B + 141) 0 v) B dw sl rs al os bs ig tl sy dr t lo lb li wl := S
theorem out_MS (S : MS H B dw sl rs al os bs ig tl sy dr t) (v : Int64) : MS (zsL H (B + 141) 0 v) B dw sl rs al os bs ig tl sy dr t :=
  ⟨S.1, S.2.congr (fun b h1 h2 => ⟨rfl, zu_ne (by omega) _ _⟩)⟩
theorem z_sL_out (hk : zK H (B + 141) = (2, 1)) (v : Int64) : z_sL (some (B + 141)) 0 v H = some ((), zsL H (B + 141) 0 v) := by
  have : (0 : Int32).toNatClampNeg = 0 := rfl
  simp only [z_sL, hk, this]
  rw [if_pos ⟨trivial, by decide⟩]
theorem call_ok {p : ZM (Int32 ⊕ Nat)} {kx : Nat → ZM Int32} {mdl : ZM Int32} {v : Int32} {ans : Int32 → ZM Int32} (hans : ans v = z_b (z_sL (some (B + 141)) 0 (Int32.toInt64 v)) fun _ => z_rt 0) (hnc : nc < 512) (S : CS H B dw sl rs al os bs ig tl sy dr t lo lb li wl) (M : MS H B dw sl rs al os bs ig tl sy dr t) (hT : zT H ≤ B + 142 + 5 * nc) (hN : zN H ≤ 102646 + 64 * nc)
    (hp : p H = some (.inl v, H1)) (hk : KC H H1 B) (S1 : CS H1 B dw' sl' rs' al' os' bs' ig' tl' sy' dr' t' lo' lb' li' wl') (ok : AbOk dw' sl' rs' os' bs' ig' sy' dr' t' (nc + 1))
    (ref : ∀ Hm, MS Hm B dw sl rs al os bs ig tl sy dr t → ∃ H2, mdl Hm = some (v, H2) ∧ KM Hm H2 B ∧ MS H2 B dw' sl' rs' al' os' bs' ig' tl' sy' dr' t' ∧ zI H2 (B + 95) 58 = 0) :
    Call H B nc (z_bx (z_vr 12 (some B) p) ans kx) mdl := by
  have M1 := M.kc S.2.1 hk
  obtain ⟨H2, r1, r2, r3, r4⟩ := ref _ (out_MS M1 (Int32.toInt64 v))
  have S2 := (out_CS S1 (Int32.toInt64 v)).km r2
  refine ⟨(dw', sl', rs', al', os', bs', ig', tl', sy', dr', t'), zsL H1 (B + 141) 0 (Int32.toInt64 v), H2, 0, v, ?_, r1, r4, fun _ => ?_, ⟨⟨lo', lb', li', wl', S2⟩, r3, ok, ?_, ?_⟩, ?_⟩
  · have e : z_vr 12 (some B) p H = some (.inl v, H1) := by
      have : z_vr 12 (some B) p H = p H := if_pos S.1.1.1
      rw [this, hp]
    simp only [z_bx, e, hans, z_b, z_sL_out M1.1.2, z_rt]
  · obtain ⟨f', g', rfl, k2⟩ := r2
    show g' (B + 141) 0 = _
    rw [(k2 (B + 141) (by omega)).2]
    exact zu_same _ _ _ _
  · obtain ⟨f', g', rfl, k2⟩ := r2
    have := hk.2.2.1
    show zT H1 ≤ _
    omega
  · obtain ⟨f', g', rfl, k2⟩ := r2
    have := hk.2.2.2.2.1
    show zN H1 ≤ _
    omega
  · obtain ⟨f', g', rfl, k2⟩ := r2
    exact ⟨hk.1, M1.1.1.1, hk.1⟩
theorem call_th {p : ZM (Int32 ⊕ Nat)} {n : Nat} {kx : Nat → ZM Int32} {mdl : ZM Int32} {kk : Int32} {ans : Int32 → ZM Int32} (hnc : nc < 512) (S : CS H B dw sl rs al os bs ig tl sy dr t lo lb li wl) (M : MS H B dw sl rs al os bs ig tl sy dr t) (ok : AbOk dw sl rs os bs ig sy dr t nc) (hT : zT H ≤ B + 142 + 5 * nc) (hN : zN H ≤ 102646 + 64 * nc)
    (hp : p H = some (.inr n, znew H (0, 0) 6)) (hkx : kx n = z_rt kk) (hk0 : kk ≠ 0)
    (ref : ∀ Hm, MS Hm B dw sl rs al os bs ig tl sy dr t → ∃ H2 b, mdl Hm = some (b, H2) ∧ KM Hm H2 B ∧ MS H2 B dw sl rs al os bs ig tl sy dr t ∧ zI H2 (B + 95) 58 = kk) :
    Call H B nc (z_bx (z_vr 12 (some B) p) ans kx) mdl := by
  obtain ⟨S1, hk⟩ := S.th
  have M1 := M.kc S.2.1 hk
  obtain ⟨H2, b, r1, r2, r3, r4⟩ := ref _ M1
  have S2 := S1.km r2
  refine ⟨(dw, sl, rs, al, os, bs, ig, tl, sy, dr, t), znew H (0, 0) 6, H2, kk, b, ?_, r1, r4, fun q => absurd q hk0, ⟨⟨lo, lb, li, wl, S2⟩, r3, ok.up hnc, ?_, ?_⟩, ?_⟩
  · have e : z_vr 12 (some B) p H = some (.inr n, znew H (0, 0) 6) := by
      have : z_vr 12 (some B) p H = p H := if_pos S.1.1.1
      rw [this, hp]
    simp only [z_bx, e, hkx, z_rt]
  · obtain ⟨f', g', rfl, k2⟩ := r2
    show zT H + 1 ≤ _
    omega
  · obtain ⟨f', g', rfl, k2⟩ := r2
    show zN H + 6 ≤ _
    omega
  · obtain ⟨f', g', rfl, k2⟩ := r2
    exact ⟨rfl, M1.1.1.1, rfl⟩
theorem KC.refl (H : ZH) (B : Nat) : KC H H B := ⟨rfl, Nat.le_refl _, by omega, Nat.le_refl _, by omega, fun _ _ => rfl, fun _ _ _ => ⟨rfl, rfl, rfl⟩⟩
theorem KC.ints {f' : FI} (h : ∀ b, B + 95 ≤ b → b ≤ B + 141 → f' b = zI H b) : KC H (hI H f') B := ⟨rfl, Nat.le_refl _, by show zT H ≤ zT H + 5; omega, Nat.le_refl _, by show zN H ≤ zN H + 64; omega, fun _ _ => rfl, fun b h1 h2 => ⟨h b h1 h2, rfl, rfl⟩⟩
theorem KM.mk_ {f' : FI} {g' : FL} {ss as : List Nat} (m : MAt H (B + 95) (arM B)) (F : MFr (zI H) f' (zL H) g' (arM B) (B + 95) ss as) (h3 : ∀ i ∈ as, (mSz i).1 ≠ 0) : KM H (hM H f' g') B := by
  refine ⟨f', g', rfl, fun b hb => F.2 b (by omega) (fun q => ?_)⟩
  obtain ⟨j, j1, j2⟩ := List.mem_map.mp q
  have := arM_in (B := B) (h3 j j1)
  omega
/-- only static cells' whole numbers change -/
theorem CS.ints {f' : FI} (S : CS H B dw sl rs al os bs ig tl sy dr t lo lb li wl) (c : CC f' B dw' sl rs al' os' bs' ig' tl' sy t' lo' lb' li' wl') (F : Fr (zI H) f' (AA B)) : CS (hI H f') B dw' sl rs al' os' bs' ig' tl' sy dr t' lo' lb' li' wl' :=
  ⟨S.1, S.2.1, S.2.2.1, c, CD.fr S.2.2.2.2 F⟩
/-- a field of the main object changes -/
theorem CC.pI {f : FI} {j : Nat} {v : Int32} (c : CC f B dw sl rs al os bs ig tl sy t lo lb li wl) (h10 : j ≠ 10) (h11 : j ≠ 11) (h12 : j ≠ 12) : CC (zu f B j v) B dw sl rs al os bs ig tl sy t lo lb li wl := by
  obtain ⟨c1, c2, c3, c4, c5, c6, c7, c8, c9, c10⟩ := c
  have n : ∀ b, B < b → zu f B j v b = f b := fun b hb => zu_ne (by omega) _ _
  refine ⟨by rw [zu_cell, if_neg (by omega)]; exact c1, c2.fr (fun a h1 h2 => n a (by omega)), c3, c4, ?_, ?_, c7.fr (fun a h1 h2 => n a (by omega)), ?_, ?_, ?_⟩
  · unfold AlC at *; rw [n _ (by omega)]; exact c5
  · unfold ToldC at *; rw [n _ (by omega)]; exact c6
  · rw [n _ (by omega), n _ (by omega)]; exact c8
  · rw [zu_cell, if_neg (by omega)]
    rcases c9 with q | ⟨q1, q2⟩
    · exact Or.inl q
    · exact Or.inr ⟨q1, q2.congr (fun b h1 h2 => n b (by omega))⟩
  · rw [zu_cell, if_neg (by omega)]
    rcases c10 with q | ⟨i, q1, q2, q3⟩
    · exact Or.inl q
    · exact Or.inr ⟨i, q1, q2, q3.congr (fun b h1 h2 => n b (by omega))⟩
/-- another draft -/
theorem CC.dft {f : FI} {w : Wd} (c : CC f B dw sl rs al os bs ig tl sy t lo lb li wl) : CC (zu f B 10 (I (cN w))) B w sl rs al os bs ig tl sy t lo lb li wl := by
  obtain ⟨c1, c2, c3, c4, c5, c6, c7, c8, c9, c10⟩ := c
  have n : ∀ b, B < b → zu f B 10 (I (cN w)) b = f b := fun b hb => zu_ne (by omega) _ _
  refine ⟨zu_same _ _ _ _, c2.fr (fun a h1 h2 => n a (by omega)), c3, c4, ?_, ?_, c7.fr (fun a h1 h2 => n a (by omega)), ?_, ?_, ?_⟩
  · unfold AlC at *; rw [n _ (by omega)]; exact c5
  · unfold ToldC at *; rw [n _ (by omega)]; exact c6
  · rw [n _ (by omega), n _ (by omega)]; exact c8
  · rw [zu_cell, if_neg (by decide)]
    rcases c9 with q | ⟨q1, q2⟩
    · exact Or.inl q
    · exact Or.inr ⟨q1, q2.congr (fun b h1 h2 => n b (by omega))⟩
  · rw [zu_cell, if_neg (by decide)]
    rcases c10 with q | ⟨i, q1, q2, q3⟩
    · exact Or.inl q
    · exact Or.inr ⟨i, q1, q2, q3.congr (fun b h1 h2 => n b (by omega))⟩
theorem isLt_eq' (h : ZH) {c : Nat} (hc : c < 100000) : p_X11_isLetter (I c) h = some (if 97 ≤ c ∧ c ≤ 104 then 1 else 0, h) := by
  have e1 : (97 : Int32) ≤ I (c : Int) ↔ 97 ≤ c := by rw [lit, I_le (by decide) (by omega)]; omega
  have e2 : I (c : Int) ≤ (104 : Int32) ↔ c ≤ 104 := by rw [lit, I_le (by omega) (by decide)]; omega
  simp only [p_X11_isLetter, z_b, isIn_eq, bI_rz, e1, e2]
theorem mIn_lt (h : ZH) {c : Nat} (hc : c < 100000) : p_X12_in (I c) 97 104 h = some (if 97 ≤ c ∧ c ≤ 104 then 1 else 0, h) := by
  have e1 : (97 : Int32) ≤ I (c : Int) ↔ 97 ≤ c := by rw [lit, I_le (by decide) (by omega)]; omega
  have e2 : I (c : Int) ≤ (104 : Int32) ↔ c ≤ 104 := by rw [lit, I_le (by omega) (by decide)]; omega
  rw [min_eq]
  simp only [e1, e2]
/-- the reference's long field -/
theorem MC.dft {f : FI} {g : FL} {w : Wd} (m : MC f g B dw sl rs al os bs ig tl sy dr t) : MC f (zu g (B + 95) 0 (J (mN w))) B w sl rs al os bs ig tl sy dr t := by
  have h : MC f (zu g (B + 95) 0 (J (mN dw))) B dw sl rs al os bs ig tl sy dr t := m.congr (fun b _ _ => ⟨rfl, by
    by_cases q : b = B + 95
    · subst q
      funext j
      rw [zu_cell]
      by_cases z : j = 0
      · rw [if_pos z, z]; exact m.1.symm
      · rw [if_neg z]
    · exact zu_ne q _ _⟩)
  have e : ∀ j, (mSz j).1 ≠ 0 → zu g (B + 95) 0 (J (mN w)) (arM B j) = g (arM B j) := fun j hj => zu_ne (by have := arM_in (B := B) hj; omega) _ _
  unfold MC SsM StM RsM RuM AlM OwM BaM IgM ToldC SyM StyM DrM TxM TC TbIs at *
  rw [e 2 (by decide), e 11 (by decide), e 18 (by decide), e 21 (by decide), e 23 (by decide), e 28 (by decide), e 31 (by decide), e 36 (by decide), zu_same]
  exact ⟨rfl, m.2⟩
/-- a field of the reference changes that says nothing of the state -/
theorem MC.pI {f : FI} {g : FL} {j : Nat} {v : Int32} (m : MC f g B dw sl rs al os bs ig tl sy dr t) (hj : j = 58 ∨ j = 52 ∨ j = 56 ∨ j = 40) : MC (zu f (B + 95) j v) g B dw sl rs al os bs ig tl sy dr t := by
  have e : ∀ i, (mSz i).1 ≠ 0 → zu f (B + 95) j v (arM B i) = f (arM B i) := fun i hi => zu_ne (by have := arM_in (B := B) hi; omega) _ _
  have c : ∀ i, i ≠ j → zu f (B + 95) j v (B + 95) i = f (B + 95) i := fun i hi => by rw [zu_cell, if_neg hi]
  unfold MC SsM StM RsM RuM AlM OwM BaM IgM ToldC SyM StyM DrM TxM TC TbIs at *
  rw [e 3 (by decide), e 4 (by decide), e 5 (by decide), e 6 (by decide), e 8 (by decide), e 9 (by decide), e 10 (by decide), e 12 (by decide), e 13 (by decide), e 14 (by decide), e 15 (by decide), e 16 (by decide), e 19 (by decide), e 24 (by decide), e 25 (by decide), e 27 (by decide), e 29 (by decide), e 30 (by decide), e 33 (by decide), e 37 (by decide), e 38 (by decide), e 39 (by decide), c 1 (by omega), c 7 (by omega), c 17 (by omega), c 20 (by omega), c 22 (by omega), c 26 (by omega), c 32 (by omega), c 34 (by omega), c 35 (by omega)]
  exact m
end
