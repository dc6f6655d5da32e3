/-! ===== the whole state ===== -/
/-- drafted word, stems, rules, letters that sound alike, own words, barred ones, ignored ones with how often, what is told, styles, drafted items, the text -/
abbrev AS : Type := Wd × List St × List Ru × (Nat → Nat → Bool) × List Ow × List Ow × List Ow × (Nat → Nat) × List Sty × List It × List Nat
section
variable (dw : Wd) (sl : List St) (rs : List Ru) (al : Nat → Nat → Bool) (os bs ig : List Ow) (tl : Nat → Nat) (sy : List Sty) (dr : List It) (t : List Nat)
def AbOk (nc : Nat) : Prop := (isW dw ∧ dw.length ≤ 10) ∧ (sl.length ≤ 12 ∧ ∀ s ∈ sl, StOk s) ∧ (rs.length ≤ 8 ∧ ∀ r ∈ rs, RuOk r) ∧ (os.length ≤ 10 ∧ bs.length ≤ 10 ∧ (∀ w, fnx w os 0 ≠ none → fnx w bs 0 = none) ∧ ∀ p ∈ bs, p.2 = 0) ∧ (sy.length ≤ 8 ∧ ∀ s ∈ sy, SyOk s) ∧ (dr.length ≤ 3 ∧ ∀ it ∈ dr, ItOk it) ∧ (∀ c ∈ t, isSg c) ∧ ((ig.map Prod.fst).Nodup ∧ ig.length ≤ nc ∧ ∀ p ∈ ig, WdOk p.1 ∧ p.2 ≤ nc) ∧ nc ≤ 512
end
/-- the class's book of ignored words and the reference's row: the class forgets those that were learnt -/
def IgR (li : Bk) (ig : List Ow) : Prop := SB li ∧ ∀ c v, (c, v) ∈ li ↔ ∃ p ∈ ig, c = cN p.1 ∧ v = p.2 ∧ p.2 ≠ 0
/-- the class's static part; lo, lb, li are its books, wl the words that may be suggested -/
def CC (f : FI) (B : Nat) (dw : Wd) (sl : List St) (rs : List Ru) (al : Nat → Nat → Bool) (os bs ig : List Ow) (tl : Nat → Nat) (sy : List Sty) (t : List Nat) (lo lb li : Bk) (wl : List Wd) : Prop :=
  f B 10 = I (cN dw) ∧ BoC f B (madeOf rs sl []) lo lb li ∧ (OwR lo os ∧ OwR lb bs ∧ IgR li ig) ∧ BkW (sugO lo (sugM lb (madeOf rs sl []) [])) wl ∧ AlC f (B + 26) al ∧ ToldC f (B + 39) tl ∧ FoC f (B + 48) (arL (B + 48)) t ∧ (f (B + 71) 0 = 0 ∧ f (B + 73) 0 = 0) ∧
  (f B 11 = 0 ∨ f B 11 = 1 ∧ PrC f B (fun i => rdW (madeOf rs sl []) lo lb (wdT t i)) tl t sy) ∧
  (f B 12 = -1 ∨ ∃ j, j < (wsOf t).length ∧ f B 12 = I (j : Nat) ∧ SuC f (B + 24) (arL (B + 24)) (cst (ltr (wdT t j)) al (wdT t j).length) wl)
/-- the class's lists and drafted style -/
abbrev CDx (H : ZH) (f : FI) (B : Nat) (sl : List St) (rs : List Ru) (sy : List Sty) (dr : List It) (dsx dsr da a1 n1 : Nat) (o1 : List Nat) (a2 n2 : Nat) (o2 : List Nat) (a3 n3 : Nat) (o3 : List Nat) : Prop :=
    (zR H B 9 = some dsx ∧ Ob H 8 dsx (fun _ => dsr) (fun _ => da) sSz ∧ f dsx 1 = I dr.length ∧ (∀ (j : Nat) (it : It), dr[j]? = some it → f da j = I (itC it)) ∧ dsx ∉ AA B ∧ da ∉ AA B ∧ dsx < zT H ∧ da < zT H ∧ dsr < zT H) ∧
    (LsAt H (B + 2) a1 n1 o1 ∧ f (B + 2) 2 = I sl.length ∧ o1.length = sl.length ∧ (∀ i, i < sl.length → ∃ s, sl[i]? = some s ∧ StIs H f (o1.getD i 0) s ∧ o1.getD i 0 ∉ AA B ++ [dsx, da] ∧ o1.getD i 0 < zT H)) ∧
    (LsAt H (B + 3) a2 n2 o2 ∧ f (B + 3) 2 = I rs.length ∧ o2.length = rs.length ∧ o2.Nodup ∧ (∀ i, i < rs.length → ∃ r, rs[i]? = some r ∧ RuIs H f (o2.getD i 0) r ∧ o2.getD i 0 ∉ AA B ++ [dsx, da] ∧ o2.getD i 0 < zT H)) ∧
    (LsAt H (B + 42) a3 n3 o3 ∧ f (B + 42) 2 = I sy.length ∧ o3.length = sy.length ∧ (∀ i, i < sy.length → ∃ s, sy[i]? = some s ∧ ∃ sr sa, Ob H 8 (o3.getD i 0) (fun _ => sr) (fun _ => sa) sSz ∧ f (o3.getD i 0) 1 = I s.1.length ∧ f (o3.getD i 0) 2 = I s.2.1 ∧ f (o3.getD i 0) 3 = I (cN s.2.2) ∧ (∀ (j : Nat) (it : It), s.1[j]? = some it → f sa j = I (itC it)) ∧ o3.getD i 0 ∉ AA B ++ [dsx, da] ∧ sa ∉ AA B ++ [dsx, da] ∧ o3.getD i 0 < zT H ∧ sr < zT H ∧ sa < zT H)) ∧
    (a1 < zT H ∧ a2 < zT H ∧ a3 < zT H ∧ (a1 ≠ a2 ∨ zK H a1 = (5, 0)) ∧ (a1 ≠ a3 ∨ zK H a1 = (5, 0)) ∧ (a2 ≠ a3 ∨ zK H a2 = (5, 0)) ∧ (zK H a1 = (5, 0) ∨ B + 142 ≤ a1) ∧ (zK H a2 = (5, 0) ∨ B + 142 ≤ a2) ∧ (zK H a3 = (5, 0) ∨ B + 142 ≤ a3))
def CD (H : ZH) (f : FI) (B : Nat) (sl : List St) (rs : List Ru) (sy : List Sty) (dr : List It) : Prop :=
  ∃ dsx dsr da a1 n1 o1 a2 n2 o2 a3 n3 o3, CDx H f B sl rs sy dr dsx dsr da a1 n1 o1 a2 n2 o2 a3 n3 o3
/-- the reference's rows of ignored words, of drafted items -/
def IgM (f : FI) (g : FL) (ar : Nat → Nat) (M : Nat) (ig : List Ow) : Prop := f M 22 = I ig.length ∧ ∀ (i : Nat) (p : Ow), ig[i]? = some p → g (ar 23) i = J (mN p.1) ∧ f (ar 24) i = I p.2
def DrM (f : FI) (g : FL) (ar : Nat → Nat) (dr : List It) : Prop := f (ar 29) 8 = I dr.length ∧ ∀ (j : Nat) (it : It), dr[j]? = some it → f (ar 27) (24 + j) = I (itK it) ∧ ∀ w, it = .inr w → g (ar 28) (24 + j) = J (mN w)
def MC (f : FI) (g : FL) (B : Nat) (dw : Wd) (sl : List St) (rs : List Ru) (al : Nat → Nat → Bool) (os bs ig : List Ow) (tl : Nat → Nat) (sy : List Sty) (dr : List It) (t : List Nat) : Prop :=
  g (B + 95) 0 = J (mN dw) ∧ SsM f g (arM B) (B + 95) sl ∧ RsM f g (arM B) (B + 95) rs ∧ AlM f (arM B) al ∧ OwM f g (arM B) (B + 95) os ∧ BaM f g (arM B) (B + 95) bs ∧ IgM f g (arM B) (B + 95) ig ∧ ToldC f (arM B 25) tl ∧ SyM f g (arM B) (B + 95) sy ∧ (DrM f g (arM B) dr ∧ ∀ i, rs.length ≤ i → f (arM B 15) i = 0) ∧ TxM f (arM B) (B + 95) t ∧ (f (B + 95) 34 = 1 ∧ TC f g (arM B) (B + 95) (madeOf rs sl []) ∨ f (B + 95) 34 = 0)
/-- class and reference in one heap, after nc calls -/
def CS (H : ZH) (B : Nat) (dw : Wd) (sl : List St) (rs : List Ru) (al : Nat → Nat → Bool) (os bs ig : List Ow) (tl : Nat → Nat) (sy : List Sty) (dr : List It) (t : List Nat) (lo lb li : Bk) (wl : List Wd) : Prop :=
  CSh H B ∧ B + 142 ≤ zT H ∧ (zD H).1 < B ∧ CC (zI H) B dw sl rs al os bs ig tl sy t lo lb li wl ∧ CD H (zI H) B sl rs sy dr
def MS (H : ZH) (B : Nat) (dw : Wd) (sl : List St) (rs : List Ru) (al : Nat → Nat → Bool) (os bs ig : List Ow) (tl : Nat → Nat) (sy : List Sty) (dr : List It) (t : List Nat) : Prop :=
  MSh H B ∧ MC (zI H) (zL H) B dw sl rs al os bs ig tl sy dr t
section
variable {H H' : ZH} {B : Nat} {f f' : FI} {g g' : FL} {dw : Wd} {sl : List St} {rs : List Ru} {al : Nat → Nat → Bool} {os bs ig : List Ow} {tl : Nat → Nat} {sy : List Sty} {dr : List It} {t : List Nat} {lo lb li : Bk} {wl : List Wd}
theorem arM_in {B j : Nat} (hj : (mSz j).1 ≠ 0) : B + 96 ≤ arM B j ∧ arM B j < B + 141 := by
  have := (mSz_fl j (mSz_lt hj) hj).1
  unfold arM; omega
/-- what the reference's part says rests on its own cells -/
theorem MC.congr (m : MC f g B dw sl rs al os bs ig tl sy dr t) (h : ∀ b, B + 95 ≤ b → b < B + 141 → f' b = f b ∧ g' b = g b) : MC f' g' B dw sl rs al os bs ig tl sy dr t := by
  have hM := h (B + 95) (Nat.le_refl _) (by omega)
  have ha : ∀ j, (mSz j).1 ≠ 0 → f' (arM B j) = f (arM B j) ∧ g' (arM B j) = g (arM B j) := fun j hj => by
    have := arM_in (B := B) hj
    exact h _ (by omega) (by omega)
  unfold MC SsM StM RsM RuM AlM OwM BaM IgM ToldC SyM StyM DrM TxM TC TbIs at *
  rw [hM.1, hM.2, (ha 3 (by decide)).1, (ha 4 (by decide)).1, (ha 5 (by decide)).1, (ha 6 (by decide)).1, (ha 8 (by decide)).1, (ha 9 (by decide)).1, (ha 10 (by decide)).1, (ha 12 (by decide)).1, (ha 13 (by decide)).1, (ha 14 (by decide)).1, (ha 15 (by decide)).1, (ha 16 (by decide)).1, (ha 19 (by decide)).1, (ha 24 (by decide)).1, (ha 25 (by decide)).1, (ha 27 (by decide)).1, (ha 29 (by decide)).1, (ha 30 (by decide)).1, (ha 33 (by decide)).1, (ha 37 (by decide)).1, (ha 38 (by decide)).1, (ha 39 (by decide)).1, (ha 2 (by decide)).2, (ha 11 (by decide)).2, (ha 18 (by decide)).2, (ha 21 (by decide)).2, (ha 23 (by decide)).2, (ha 28 (by decide)).2, (ha 31 (by decide)).2, (ha 36 (by decide)).2]
  exact m
theorem MSh.M (S : MSh H B) : MAt H (B + 95) (arM B) := S.1
/-- a call of the class: only its own cells, and new ones -/
def KC (H H' : ZH) (B : Nat) : Prop := zD H' = zD H ∧ zT H ≤ zT H' ∧ zT H' ≤ zT H + 5 ∧ zN H ≤ zN H' ∧ zN H' ≤ zN H + 64 ∧ (∀ b, b < zT H → zK H' b = zK H b) ∧ ∀ b, B + 95 ≤ b → b ≤ B + 141 → zI H' b = zI H b ∧ zL H' b = zL H b ∧ zR H' b = zR H b
/-- a call of the reference: only its own cells -/
def KM (H H' : ZH) (B : Nat) : Prop := ∃ f' g', H' = hM H f' g' ∧ ∀ b, b < B + 95 ∨ B + 141 ≤ b → f' b = zI H b ∧ g' b = zL H b
theorem MS.kc (S : MS H B dw sl rs al os bs ig tl sy dr t) (hT : B + 142 ≤ zT H) (k : KC H H' B) : MS H' B dw sl rs al os bs ig tl sy dr t := by
  obtain ⟨k1, k2, -, -, -, k3, k4⟩ := k
  refine ⟨S.1.mv (fun b h1 h2 => k3 b (by omega)) (fun j => by rw [(k4 (B + 95) (by omega) (by omega)).2.2]), S.2.congr (fun b h1 h2 => ⟨(k4 b h1 (by omega)).1, (k4 b h1 (by omega)).2.1⟩)⟩
theorem PrC.congr {R : Nat → Nat} (p : PrC f B R tl t sy) (h : ∀ b, B + 79 ≤ b → b < B + 92 → f' b = f b) : PrC f' B R tl t sy := by
  unfold PrC RcC MkC at *
  rw [h (B + 79) (by omega) (by omega), h (arL (B + 79) 0) (by unfold arL; omega) (by unfold arL; omega), h (arL (B + 79) 1) (by unfold arL; omega) (by unfold arL; omega), h (arL (B + 79) 2) (by unfold arL; omega) (by unfold arL; omega), h (arL (B + 79) 3) (by unfold arL; omega) (by unfold arL; omega), h (arL (B + 79) 4) (by unfold arL; omega) (by unfold arL; omega), h (arL (B + 79) 5) (by unfold arL; omega) (by unfold arL; omega)]
  exact p
theorem SuC.congr {cs : Wd → Nat} (p : SuC f (B + 24) (arL (B + 24)) cs wl) (h : ∀ b, B + 24 ≤ b → b < B + 37 → f' b = f b) : SuC f' (B + 24) (arL (B + 24)) cs wl := by
  unfold SuC at *
  rw [h (B + 24) (by omega) (by omega), h (arL (B + 24) 4) (by unfold arL; omega) (by unfold arL; omega), h (arL (B + 24) 5) (by unfold arL; omega) (by unfold arL; omega)]
  exact p
theorem CC.congr (c : CC f B dw sl rs al os bs ig tl sy t lo lb li wl) (h : ∀ b, B ≤ b → b < B + 92 → f' b = f b) : CC f' B dw sl rs al os bs ig tl sy t lo lb li wl := by
  obtain ⟨c1, c2, c3, c4, c5, c6, c7, c8, c9, c10⟩ := c
  refine ⟨by rw [h B (by omega) (by omega)]; exact c1, c2.fr (fun a h1 h2 => h a (by omega) (by omega)), c3, c4, ?_, ?_, c7.fr (fun a h1 h2 => h a (by omega) (by omega)), ?_, ?_, ?_⟩
  · unfold AlC at *; rw [h (B + 26) (by omega) (by omega)]; exact c5
  · unfold ToldC at *; rw [h (B + 39) (by omega) (by omega)]; exact c6
  · rw [h (B + 71) (by omega) (by omega), h (B + 73) (by omega) (by omega)]; exact c8
  · rw [h B (by omega) (by omega)]
    rcases c9 with q | ⟨q1, q2⟩
    · exact Or.inl q
    · exact Or.inr ⟨q1, q2.congr (fun b h1 h2 => h b (by omega) (by omega))⟩
  · rw [h B (by omega) (by omega)]
    rcases c10 with q | ⟨j, q1, q2, q3⟩
    · exact Or.inl q
    · exact Or.inr ⟨j, q1, q2, q3.congr (fun b h1 h2 => h b (by omega) (by omega))⟩
theorem StIs.congr {h' h : ZH} {a : Nat} {s : St} (S : StIs h f a s) (hk : zK h' a = zK h a) (hf : f' a = f a) : StIs h' f' a s := by
  unfold StIs at *; rw [hk, hf]; exact S
theorem RuIs.congr {h' h : ZH} {a : Nat} {s : Ru} (S : RuIs h f a s) (hk : zK h' a = zK h a) (hf : f' a = f a) : RuIs h' f' a s := by
  unfold RuIs at *; rw [hk, hf]; exact S
theorem LsAt.mv {h h' : ZH} {a arr n : Nat} {os : List Nat} (l : LsAt h a arr n os) (h1 : zK h' a = zK h a) (h2 : zR h' a 1 = zR h a 1) (h3 : zK h' arr = zK h arr) (h4 : zR h' arr = zR h arr) (h5 : zD h' = zD h) : LsAt h' a arr n os := by
  unfold LsAt at *; rw [h1, h2, h3, h4, h5]; exact l
theorem ob8_mv {h h' : ZH} {x r a : Nat} (o : Ob h 8 x (fun _ => r) (fun _ => a) sSz) (h1 : zK h' x = zK h x) (h2 : zR h' x 0 = zR h x 0) (h3 : zK h' r = zK h r) (h4 : zR h' r 0 = zR h r 0) (h5 : zK h' a = zK h a) : Ob h' 8 x (fun _ => r) (fun _ => a) sSz :=
  o.mv h1 (fun j hj => by rw [sSz_lt hj]; exact ⟨h2, h3, h4, h5⟩)
theorem ob8_k {h : ZH} {x r a : Nat} (o : Ob h 8 x (fun _ => r) (fun _ => a) sSz) : zK h x = (14, 0) ∧ zK h r = (11, 0) ∧ zK h a = (1, 3) := ⟨o.1, (o.2.1 0 (by decide)).2.1.1, (o.2.1 0 (by decide)).2.1.2.2.1⟩
/-- only static cells' whole numbers change -/
theorem CDx.fr {dsx dsr da a1 n1 a2 n2 a3 n3 : Nat} {o1 o2 o3 : List Nat} (c : CDx H f B sl rs sy dr dsx dsr da a1 n1 o1 a2 n2 o2 a3 n3 o3) (F : Fr f f' (AA B)) : CDx H f' B sl rs sy dr dsx dsr da a1 n1 o1 a2 n2 o2 a3 n3 o3 := by
  obtain ⟨⟨x1, x2, x3, x4, x5, x6, x7⟩, ⟨y1, y2, y3, y4⟩, ⟨z1, z2, z3, z4, z5⟩, ⟨w1, w2, w3, w4⟩, v⟩ := c
  have out : ∀ {a : Nat}, a ∉ AA B ++ [dsx, da] → f' a = f a := fun {a} ha => F a (fun q => ha (List.mem_append.mpr (Or.inl q)))
  have l2 : f' (B + 2) = f (B + 2) := F _ (fun q => by have := AA_mem.mp q; omega)
  have l3 : f' (B + 3) = f (B + 3) := F _ (fun q => by have := AA_mem.mp q; omega)
  have l4 : f' (B + 42) = f (B + 42) := F _ (fun q => by have := AA_mem.mp q; omega)
  refine ⟨⟨x1, x2, by rw [F _ x5]; exact x3, by rw [F _ x6]; exact x4, x5, x6, x7⟩, ⟨y1, by rw [l2]; exact y2, y3, fun i hi => ?_⟩, ⟨z1, by rw [l3]; exact z2, z3, z4, fun i hi => ?_⟩, ⟨w1, by rw [l4]; exact w2, w3, fun i hi => ?_⟩, v⟩
  · obtain ⟨s, s1, s2, s3, s4⟩ := y4 i hi
    exact ⟨s, s1, s2.congr rfl (out s3), s3, s4⟩
  · obtain ⟨s, s1, s2, s3, s4⟩ := z5 i hi
    exact ⟨s, s1, s2.congr rfl (out s3), s3, s4⟩
  · obtain ⟨s, s1, sr, sa, s2, s3, s4, s5, s6, s7, s8, s9⟩ := w4 i hi
    exact ⟨s, s1, sr, sa, s2, by rw [out s7]; exact s3, by rw [out s7]; exact s4, by rw [out s7]; exact s5, by rw [out s8]; exact s6, s7, s8, s9⟩
theorem CD.fr (c : CD H f B sl rs sy dr) (F : Fr f f' (AA B)) : CD H f' B sl rs sy dr := by
  obtain ⟨dsx, dsr, da, a1, n1, o1, a2, n2, o2, a3, n3, o3, c⟩ := c
  exact ⟨dsx, dsr, da, a1, n1, o1, a2, n2, o2, a3, n3, o3, CDx.fr c F⟩
/-- a heap that differs only above the top -/
theorem CDx.mv {dsx dsr da a1 n1 a2 n2 a3 n3 : Nat} {o1 o2 o3 : List Nat} (c : CDx H f B sl rs sy dr dsx dsr da a1 n1 o1 a2 n2 o2 a3 n3 o3) (hB : B + 142 ≤ zT H) (hdf : (zD H).1 < B) (h1 : zT H ≤ zT H') (h2 : zD H' = zD H) (hK : ∀ b, b < zT H → zK H' b = zK H b) (hR : ∀ b, b < zT H → zR H' b = zR H b) (hF : ∀ b, b < zT H → f' b = f b) : CDx H' f' B sl rs sy dr dsx dsr da a1 n1 o1 a2 n2 o2 a3 n3 o3 := by
  obtain ⟨⟨x1, x2, x3, x4, x5, x6, x7, x8, x9⟩, ⟨y1, y2, y3, y4⟩, ⟨z1, z2, z3, z4, z5⟩, ⟨w1, w2, w3, w4⟩, ⟨v1, v2, v3, v4⟩⟩ := c
  refine ⟨⟨by rw [hR B (by omega)]; exact x1, ob8_mv x2 (hK _ x7) (by rw [hR _ x7]) (hK _ x9) (by rw [hR _ x9]) (hK _ x8), by rw [hF _ x7]; exact x3, by rw [hF _ x8]; exact x4, x5, x6, by omega, by omega, by omega⟩,
    ⟨y1.mv (hK _ (by omega)) (by rw [hR _ (by omega)]) (hK _ v1) (hR _ v1) h2, by rw [hF _ (by omega)]; exact y2, y3, fun i hi => ?_⟩, ⟨z1.mv (hK _ (by omega)) (by rw [hR _ (by omega)]) (hK _ v2) (hR _ v2) h2, by rw [hF _ (by omega)]; exact z2, z3, z4, fun i hi => ?_⟩, ⟨w1.mv (hK _ (by omega)) (by rw [hR _ (by omega)]) (hK _ v3) (hR _ v3) h2, by rw [hF _ (by omega)]; exact w2, w3, fun i hi => ?_⟩, ⟨by omega, by omega, by omega, by rw [hK _ v1, hK _ v2, hK _ v3]; exact v4⟩⟩
  · obtain ⟨s, s1, s2, s3, s4⟩ := y4 i hi
    exact ⟨s, s1, s2.congr (hK _ s4) (hF _ s4), s3, by omega⟩
  · obtain ⟨s, s1, s2, s3, s4⟩ := z5 i hi
    exact ⟨s, s1, s2.congr (hK _ s4) (hF _ s4), s3, by omega⟩
  · obtain ⟨s, s1, sr, sa, s2, s3, s4, s5, s6, s7, s8, s9, s10, s11⟩ := w4 i hi
    exact ⟨s, s1, sr, sa, ob8_mv s2 (hK _ s9) (by rw [hR _ s9]) (hK _ s10) (by rw [hR _ s10]) (hK _ s11), by rw [hF _ s9]; exact s3, by rw [hF _ s9]; exact s4, by rw [hF _ s9]; exact s5, by rw [hF _ s11]; exact s6, s7, s8, by omega, by omega, by omega⟩
theorem CD.mv (c : CD H f B sl rs sy dr) (hB : B + 142 ≤ zT H) (hdf : (zD H).1 < B) (h1 : zT H ≤ zT H') (h2 : zD H' = zD H) (hK : ∀ b, b < zT H → zK H' b = zK H b) (hR : ∀ b, b < zT H → zR H' b = zR H b) (hF : ∀ b, b < zT H → f' b = f b) : CD H' f' B sl rs sy dr := by
  obtain ⟨dsx, dsr, da, a1, n1, o1, a2, n2, o2, a3, n3, o3, c⟩ := c
  exact ⟨dsx, dsr, da, a1, n1, o1, a2, n2, o2, a3, n3, o3, CDx.mv c hB hdf h1 h2 hK hR hF⟩
theorem CS.km (S : CS H B dw sl rs al os bs ig tl sy dr t lo lb li wl) (k : KM H H' B) : CS H' B dw sl rs al os bs ig tl sy dr t lo lb li wl := by
  obtain ⟨f', g', rfl, k2⟩ := k
  obtain ⟨s1, s2, s3, s4, s5⟩ := S
  refine ⟨s1, s2, s3, s4.congr (fun b h1 h2 => (k2 b (by omega)).1), ?_⟩
  have F : Fr (zI H) f' (AA B) := fun b hb => by
    by_cases q : B + 95 ≤ b ∧ b < B + 141
    · exact absurd (AA_mem.mpr (by omega)) hb
    · exact (k2 b (by omega)).1
  exact CD.fr s5 F
/-- a refused call makes only its exception -/
theorem CS.th (S : CS H B dw sl rs al os bs ig tl sy dr t lo lb li wl) : CS (znew H (0, 0) 6) B dw sl rs al os bs ig tl sy dr t lo lb li wl ∧ KC H (znew H (0, 0) 6) B := by
  obtain ⟨s1, s2, s3, s4, s5⟩ := S
  have hK : ∀ b, b < zT H → zK (znew H (0, 0) 6) b = zK H b := fun b hb => zw_ne (by omega) _
  have hI' : ∀ b, b < zT H → zI (znew H (0, 0) 6) b = zI H b := fun b hb => zw_ne (by omega) _
  have hL' : ∀ b, b < zT H → zL (znew H (0, 0) 6) b = zL H b := fun b hb => zw_ne (by omega) _
  have hR' : ∀ b, b < zT H → zR (znew H (0, 0) 6) b = zR H b := fun b hb => zw_ne (by omega) _
  have hTn : zT (znew H (0, 0) 6) = zT H + 1 := rfl
  have hNn : zN (znew H (0, 0) 6) = zN H + 6 := rfl
  refine ⟨⟨s1.mv (fun b h1 h2 => hK b (by omega)) (fun b j h1 h2 _ _ _ _ => by rw [hR' b (by omega)]), by omega, s3, s4.congr (fun b h1 h2 => hI' b (by omega)), CD.mv s5 s2 s3 (by omega) rfl hK hR' hI'⟩, rfl, by omega, by omega, by omega, by omega, hK, fun b h1 h2 => ⟨hI' b (by omega), hL' b (by omega), hR' b (by omega)⟩⟩
end
