/-- a rule with other flags to follow -/
def ruMo (r : Ru) (v : Nat) : Ru := (r.1, r.2.1, r.2.2.1, r.2.2.2.1, r.2.2.2.2.1, r.2.2.2.2.2.1, r.2.2.2.2.2.2.1, v)
section
variable {H H' H1 : ZH} {B nc : Nat} {f f' : FI} {g g' : FL} {dw dw' : Wd} {sl sl' : List St} {rs rs' : List Ru} {al al' : Nat → Nat → Bool} {os bs ig os' bs' ig' : List Ow} {tl tl' : Nat → Nat} {sy sy' : List Sty} {dr dr' : List It} {t t' : List Nat} {lo lb li lo' lb' li' : Bk} {wl wl' : List Wd} {lm : Bk}
theorem CD.rl (c : CD H f B sl rs sy dr) (hr : ∀ r ∈ rs, RuOk r) : RsIs H f (B + 3) rs [B + 4, B + 6, B + 8] := by
  obtain ⟨dsx, dsr, da, a1, n1, o1, a2, n2, o2, a3, n3, o3, x, y, ⟨z1, z2, z3, z4, z5⟩, w, v⟩ := c
  refine ⟨a2, n2, o2, z1, z2, z3, fun q => by simp only [List.mem_cons, List.not_mem_nil, or_false] at q; omega, fun i hi => ?_⟩
  obtain ⟨r, r1, r2, r3, r4⟩ := z5 i hi
  refine ⟨r, r1, r2, hr r (List.mem_of_getElem? r1), fun q => r3 (List.mem_append.mpr (Or.inl (AA_mem.mpr ?_)))⟩
  simp only [List.mem_cons, List.not_mem_nil, or_false] at q; omega
theorem CD.stl (c : CD H f B sl rs sy dr) (hr : ∀ s ∈ sl, StOk s) : SsIs H f (B + 2) sl [B + 4, B + 6, B + 8] := by
  obtain ⟨dsx, dsr, da, a1, n1, o1, a2, n2, o2, a3, n3, o3, x, ⟨y1, y2, y3, y4⟩, z, w, v⟩ := c
  refine ⟨a1, n1, o1, y1, y2, y3, fun q => by simp only [List.mem_cons, List.not_mem_nil, or_false] at q; omega, fun i hi => ?_⟩
  obtain ⟨r, r1, r2, r3, r4⟩ := y4 i hi
  refine ⟨r, r1, r2, hr r (List.mem_of_getElem? r1), fun q => r3 (List.mem_append.mpr (Or.inl (AA_mem.mpr ?_)))⟩
  simp only [List.mem_cons, List.not_mem_nil, or_false] at q; omega
/-- the words are made again -/
theorem cremake (C : CSh H B) (c : CD H f B sl rs sy dr) (hr : rs.length ≤ 8 ∧ ∀ r ∈ rs, RuOk r) (hs : sl.length ≤ 12 ∧ ∀ s ∈ sl, StOk s) (K : BoC f B lm lo lb li) :
    ∃ f', p_X2_remake (some (B + 1)) (hI H f) = some ((), hI H f') ∧ BoC f' B (madeOf rs sl []) lo lb li ∧ CD H f' B sl rs sy dr ∧ ∀ b, b ≠ B + 4 → b ≠ B + 6 → b ≠ B + 8 → b ≠ B + 19 → b ≠ B + 21 → b ≠ B + 23 → f' b = f b := by
  obtain ⟨k1, k2, k3, k4, k5⟩ := C.2.2.1
  obtain ⟨f', p1, p2, p3, p4⟩ := rmk_eq C.2.1 k1 k2 k3 k4 (fun a ha q => by simp only [List.mem_cons, List.not_mem_nil, or_false] at ha q; omega) (fun a ha q => by simp only [List.mem_cons, List.not_mem_nil, or_false] at ha q; omega) hr.1 hs.1 (c.rl hr.2) (c.stl hs.2) K.1 K.2.1 K.2.2.1 K.2.2.2.1
  have n : ∀ b, b ≠ B + 4 → b ≠ B + 6 → b ≠ B + 8 → b ≠ B + 19 → b ≠ B + 21 → b ≠ B + 23 → f' b = f b := fun b h1 h2 h3 h4 h5 h6 => p4 b (by simp only [List.mem_cons, List.not_mem_nil, or_false, not_or]; exact ⟨h1, h2, h3, h4, h5, h6⟩)
  refine ⟨f', p1, ⟨p2, ?_, ?_, p3, ?_⟩, c.fr (p4.mono (fun a ha => by simp only [List.mem_cons, List.not_mem_nil, or_false] at ha; exact AA_mem.mpr (by omega))), n⟩
  · have := K.2.1
    unfold BkIs at *
    rw [n (B + 9) (by omega) (by omega) (by omega) (by omega) (by omega) (by omega), n (B + 11) (by omega) (by omega) (by omega) (by omega) (by omega) (by omega), n (B + 13) (by omega) (by omega) (by omega) (by omega) (by omega) (by omega)]; exact this
  · have := K.2.2.1
    unfold BkIs at *
    rw [n (B + 14) (by omega) (by omega) (by omega) (by omega) (by omega) (by omega), n (B + 16) (by omega) (by omega) (by omega) (by omega) (by omega) (by omega), n (B + 18) (by omega) (by omega) (by omega) (by omega) (by omega) (by omega)]; exact this
  · have := K.2.2.2.2
    unfold BkIs at *
    rw [n (B + 43) (by omega) (by omega) (by omega) (by omega) (by omega) (by omega), n (B + 45) (by omega) (by omega) (by omega) (by omega) (by omega) (by omega), n (B + 47) (by omega) (by omega) (by omega) (by omega) (by omega) (by omega)]; exact this
/-- the class's part with other made words -/
theorem CC.md (c : CC f B dw sl rs al os bs ig tl sy t lo lb li wl) (hd : f' B 10 = I (cN dw')) (h11 : f' B 11 = 0) (h12 : f' B 12 = -1) (h : ∀ b, B + 24 ≤ b → b < B + 92 → b ≠ B + 42 → f' b = f b) (K : BoC f' B (madeOf rs' sl' []) lo lb li) (W : BkW (sugO lo (sugM lb (madeOf rs' sl' []) [])) wl') : CC f' B dw' sl' rs' al os bs ig tl sy' t lo lb li wl' := by
  obtain ⟨c1, c2, c3, c4, c5, c6, c7, c8, c9, c10⟩ := c
  refine ⟨hd, K, c3, W, ?_, ?_, c7.fr (fun a h1 h2 => h a (by omega) (by omega) (by omega)), ?_, Or.inl h11, Or.inl h12⟩
  · unfold AlC at *; rw [h (B + 26) (by omega) (by omega) (by omega)]; exact c5
  · unfold ToldC at *; rw [h (B + 39) (by omega) (by omega) (by omega)]; exact c6
  · rw [h (B + 71) (by omega) (by omega) (by omega), h (B + 73) (by omega) (by omega) (by omega)]; exact c8
theorem mo_ok {r : Ru} (h : RuOk r) {v : Nat} (hv : v ≤ 63) : RuOk (ruMo r v) := ⟨h.1, h.2.1, h.2.2.1, h.2.2.2.1, h.2.2.2.2.1, h.2.2.2.2.2.1, h.2.2.2.2.2.2.1, hv⟩
/-- a rule gets other flags to follow -/
theorem CD.mo (c : CD H f B sl rs sy dr) {i : Nat} (hi : i < rs.length) : ∃ o r, rs[i]? = some r ∧ RuIs H f o r ∧ (∀ b, B ≤ b → b < B + 142 → b < B + 92 ∨ B + 95 ≤ b → b ≠ o) ∧ p_Jx4a65c_get_915e3 (some (B + 3)) (I i) (hI H f) = some (some o, hI H f) ∧
    ∀ v, CD H (zu f o 7 (I (v : Nat))) B sl (rs.set i (ruMo r v)) sy dr := by
  obtain ⟨dsx, dsr, da, a1, n1, o1, a2, n2, o2, a3, n3, o3, ⟨x1, x2, x3, x4, x5, x6, x7⟩, ⟨y1, y2, y3, y4⟩, ⟨z1, z2, z3, z4, z5⟩, ⟨w1, w2, w3, w4⟩, v⟩ := c
  obtain ⟨k1, k2, k3⟩ := ob8_k x2
  obtain ⟨r, r1, r2, r3, r4⟩ := z5 i hi
  have ko := r2.1
  have ls : ∀ {a arr n os}, LsAt H a arr n os → a ≠ o2.getD i 0 := fun {a arr n os} l e => by
    have := l.1
    rw [e, ko] at this; cases this
  have io : i < o2.length := by omega
  have gt := ls_get (f := f) z1 (by rw [z3]; exact z2) io
  refine ⟨o2.getD i 0, r, r1, r2, fun b h1 h2 h3 => ?_, gt, fun u => ?_⟩
  · by_cases q : b = B + 2 ∨ b = B + 3 ∨ b = B + 42
    · rcases q with rfl | rfl | rfl
      · exact ls y1
      · exact ls z1
      · exact ls w1
    · exact fun e => r3 (List.mem_append.mpr (Or.inl (e ▸ AA_mem.mpr (by omega))))
  · have n : ∀ b, b ≠ o2.getD i 0 → zu f (o2.getD i 0) 7 (I (u : Nat)) b = f b := fun b h1 => zu_ne h1 _ _
    have kd : ∀ {b : Nat} {k : Nat × Nat}, zK H b = k → k ≠ (12, 0) → b ≠ o2.getD i 0 := fun {b k} h1 h2 e => h2 (by rw [← h1, e, ko])
    refine ⟨dsx, dsr, da, a1, n1, o1, a2, n2, o2, a3, n3, o3, ⟨x1, x2, by rw [n _ (kd k1 (by decide))]; exact x3, by rw [n _ (kd k3 (by decide))]; exact x4, x5, x6, x7⟩, ⟨y1, by rw [n _ (ls y1)]; exact y2, y3, fun j hj => ?_⟩, ⟨z1, by rw [n _ (ls z1), List.length_set]; exact z2, by rw [List.length_set]; exact z3, z4, fun j hj => ?_⟩, ⟨w1, by rw [n _ (ls w1)]; exact w2, w3, fun j hj => ?_⟩, v⟩
    · obtain ⟨s, s1, s2, s3, s4⟩ := y4 j hj
      exact ⟨s, s1, s2.congr rfl (n _ (kd s2.1 (by decide))), s3, s4⟩
    · rw [List.length_set] at hj
      obtain ⟨s, s1, s2, s3, s4⟩ := z5 j hj
      by_cases e : i = j
      · subst e
        refine ⟨ruMo r u, by rw [List.getElem?_set, if_pos rfl, if_pos hi], ?_, s3, s4⟩
        have c7 : ∀ k, k ≠ 7 → zu f (o2.getD i 0) 7 (I (u : Nat)) (o2.getD i 0) k = f (o2.getD i 0) k := fun k hk => by rw [zu_cell, if_neg hk]
        obtain ⟨t0, t1, t2, t3, t4, t5, t6, t7, t8⟩ := r2
        exact ⟨t0, by rw [c7 0 (by decide)]; exact t1, by rw [c7 1 (by decide)]; exact t2, by rw [c7 2 (by decide)]; exact t3, by rw [c7 3 (by decide)]; exact t4, by rw [c7 4 (by decide)]; exact t5, by rw [c7 5 (by decide)]; exact t6, by rw [c7 6 (by decide)]; exact t7, zu_same _ _ _ _⟩
      · refine ⟨s, by rw [List.getElem?_set, if_neg e]; exact s1, s2.congr rfl (n _ (fun q => e ?_)), s3, s4⟩
        have jo : j < o2.length := by omega
        have g1 : o2[j]? = some (o2.getD j 0) := getD_some (d := 0) jo
        have g2 : o2[i]? = some (o2.getD i 0) := getD_some (d := 0) io
        rw [q] at g1
        exact (nd_inj z4 g2 g1)
    · obtain ⟨s, s1, sr, sa, s2, s3, s4, s5, s6, s7, s8, s9⟩ := w4 j hj
      obtain ⟨q1, q2, q3⟩ := ob8_k s2
      exact ⟨s, s1, sr, sa, s2, by rw [n _ (kd q1 (by decide))]; exact s3, by rw [n _ (kd q1 (by decide))]; exact s4, by rw [n _ (kd q1 (by decide))]; exact s5, by rw [n _ (kd q3 (by decide))]; exact s6, s7, s8, s9⟩
theorem CD.rsize (c : CD H f B sl rs sy dr) : p_Jx4a65c_size_8abf5 (some (B + 3)) (hI H f) = some (I rs.length, hI H f) ∧ zK H (B + 3) = (6, 0) := by
  obtain ⟨dsx, dsr, da, a1, n1, o1, a2, n2, o2, a3, n3, o3, x, y, ⟨z1, z2, z3, z4, z5⟩, w, v⟩ := c
  have := ls_size (f := f) z1 (by rw [z3]; exact z2)
  rw [z3] at this
  exact ⟨this, z1.1⟩
theorem call_more (S : ST H B nc (dw, sl, rs, al, os, bs, ig, tl, sy, dr, t)) (hnc : nc < 512) (x x2 : Int32) : Call H B nc (p_L_more (some B) x x2 (some (B + 141))) (p_X12_more (some (B + 95)) x x2) := by
  obtain ⟨⟨lo, lb, li, wl, C⟩, M, ok, hT, hN⟩ := S
  obtain ⟨z, rfl, hz⟩ := int_of x
  obtain ⟨y, rfl, hy⟩ := int_of x2
  have cc := C.2.2.2.1
  have n1 : ¬ ((1 : Int32) = 0) := by decide
  have rl := ok.2.2.1.1
  have e1 : I (rs.length : Int) - 1 = I ((rs.length : Int) - 1) := by rw [show (1 : Int32) = I 1 from rfl, I_sub]
  have e2 : ((0 : Int32) ≤ I z ∧ I z ≤ I ((rs.length : Int) - 1)) ↔ (0 ≤ z ∧ z < rs.length) := by
    rw [lit, I_le (by decide) (by omega), I_le (by omega) (by omega)]; omega
  have r63 : ((0 : Int32) ≤ I y ∧ I y ≤ 63) ↔ (0 ≤ y ∧ y < 64) := by rw [lit, lit, I_le (by decide) hy, I_le hy (by decide)]; omega
  have c63 : ∀ h, p_X11_isIn (I y) 0 63 h = some (if 0 ≤ y ∧ y < 64 then 1 else 0, h) := fun h => by rw [isIn_eq]; simp only [r63]
  have m63 : ∀ h, p_X12_in (I y) 0 63 h = some (if 0 ≤ y ∧ y < 64 then 1 else 0, h) := fun h => by rw [min_eq]; simp only [r63]
  obtain ⟨sz, k3⟩ := CD.rsize C.2.2.2.2
  have lx := C.1.2.1
  have vr0 : ∀ (α : Type) (k : ZM α) (f : FI), z_vr 3 (some (B + cRf 0)) k (hI H f) = k (hI H f) := fun α k f => lx_vr C.1 k
  have vrl : ∀ (α : Type) (k : ZM α), z_vr 0 (some (B + 3)) k (hI H (zI H)) = k (hI H (zI H)) := fun α k => if_pos k3
  have g31 : z_gR 3 1 (some (B + 1)) (hI H (zI H)) = some (some (B + 3), hI H (zI H)) := by
    have e : zR (hI H (zI H)) (B + 1) 1 = some (B + 3) := lx.2.2.1
    exact (if_pos lx.1).trans (by rw [e])
  have m7 : ∀ Hm, MS Hm B dw sl rs al os bs ig tl sy dr t → z_gI 13 7 (some (B + 95)) Hm = some (I rs.length, Hm) := fun Hm Mm => (m_gI (f := zI Hm) (g := zL Hm) Mm.1.1 7).trans (by rw [Mm.2.2.2.1.1]; rfl)
  have refM : ∀ (k : Int32), k = 1 ∨ k = 2 ∨ k = 3 → ∀ Hm, MS Hm B dw sl rs al os bs ig tl sy dr t → ∃ H2, p_X12_more_b47 (some (B + 95)) (I z) (I y) (some (B + 95)) k Hm = some (0, H2) ∧ KM Hm H2 B ∧ MS H2 B dw sl rs al os bs ig tl sy dr t ∧ zI H2 (B + 95) 58 = k := fun k hk Hm Mm => by
    have m := Mm.1.1
    refine ⟨hM Hm (zu (zI Hm) (B + 95) 58 k) (zL Hm), ?_, KM.pI _ _, Mm.pI (Or.inl rfl), zu_same _ _ _ _⟩
    have g1 : ¬ k ≤ 0 := by rcases hk with rfl | rfl | rfl <;> decide
    show p_X12_more_b47 _ _ _ _ _ (hM Hm (zI Hm) (zL Hm)) = _
    simp only [p_X12_more_b47, z_b, z_rt, ite_ap, m_pI m, m_gI m, zu_same, g1, if_false]
  by_cases q : 0 ≤ z ∧ z < rs.length
  · obtain ⟨i, rfl⟩ : ∃ i : Nat, z = i := ⟨z.toNat, by omega⟩
    have hi : i < rs.length := by omega
    obtain ⟨o, r, r1, r2, r3, r4, r5⟩ := CD.mo C.2.2.2.2 hi
    have rok := ok.2.2.1.2 r (List.mem_of_getElem? r1)
    have ra : p_X2_ruleAt (some (B + cRf 0)) (I (i : Int)) (hI H (zI H)) = some (some o, hI H (zI H)) := by
      show p_X2_ruleAt (some (B + 1)) (I (i : Int)) (hI H (zI H)) = _
      have ct : z_ct 6 (some o) (hI H (zI H)) = some ((), hI H (zI H)) := if_pos r2.1
      simp only [p_X2_ruleAt, z_b, z_rt, ite_ap, g31, vrl, sz, e1, isIn_eq, e2]
      rw [if_pos q, if_neg n1]
      simp only [g31, vrl, r4, ct]
    have os1 : ¬ (some o = none) := by simp
    have gi : ∀ j, z_gI 6 j (some o) (hI H (zI H)) = some (zI H o j, hI H (zI H)) := fun j => if_pos r2.1
    have pi : ∀ v, z_pI 6 7 (some o) v (hI H (zI H)) = some ((), hI H (zu (zI H) o 7 v)) := fun v => if_pos r2.1
    obtain ⟨t0, t1, t2, t3, t4, t5, t6, t7, t8⟩ := id r2
    have m9 : ∀ Hm, MS Hm B dw sl rs al os bs ig tl sy dr t → z_gR 13 9 (some (B + 95)) Hm = some (some (arM B 9), Hm) ∧ z_aI (some (arM B 9)) (I i) Hm = some (if r.isEnd = true then 1 else 0, Hm) := fun Hm Mm => by
      obtain ⟨r', q1, q2, q3⟩ := Mm.2.2.2.1.2.2 i hi
      rw [r1] at q1
      cases Option.some.inj q1
      exact ⟨m_gR (f := zI Hm) (g := zL Hm) Mm.1.1 9 (by decide), (m_aI (f := zI Hm) (g := zL Hm) Mm.1.1 9 8 (by decide) (show i < 8 by omega) (by decide)).trans (by rw [q2.2.1]; rfl)⟩
    by_cases qy : 0 ≤ y ∧ y < 64
    · obtain ⟨v, rfl⟩ : ∃ i : Nat, y = i := ⟨y.toNat, by omega⟩
      by_cases qe : r.isEnd = true
      · have rs' : (rs.set i (ruMo r v)).length ≤ 8 ∧ ∀ r' ∈ rs.set i (ruMo r v), RuOk r' := by
          refine ⟨by rw [List.length_set]; exact rl, fun r' hr' => ?_⟩
          rcases List.mem_or_eq_of_mem_set hr' with h | h
          · exact ok.2.2.1.2 r' h
          · rw [h]; exact mo_ok rok (by omega)
        have nn : ∀ b, B ≤ b → b < B + 142 → b < B + 92 ∨ B + 95 ≤ b → zu (zI H) o 7 (I (v : Nat)) b = zI H b := fun b h1 h2 h3 => zu_ne (r3 b h1 h2 h3) _ _
        have K1 : BoC (zu (zI H) o 7 (I (v : Nat))) B (madeOf rs sl []) lo lb li := cc.2.1.fr (fun a h1 h2 => nn a (by omega) (by omega) (by omega))
        obtain ⟨f2, p1, p2, p3, p4⟩ := cremake C.1 (r5 v) rs' ok.2.1 K1
        have fr : ∀ b, B ≤ b → b < B + 142 → b < B + 92 ∨ B + 95 ≤ b → b ≠ B → b ≠ B + 4 → b ≠ B + 6 → b ≠ B + 8 → b ≠ B + 19 → b ≠ B + 21 → b ≠ B + 23 → fgt f2 B b = zI H b := fun b h1 h2 h3 h0 h4 h5 h6 h7 h8 h9 => (fgt_ne h0).trans ((p4 b h4 h5 h6 h7 h8 h9).trans (nn b h1 h2 h3))
        have ok' : AbOk dw sl (rs.set i (ruMo r v)) os bs ig sy dr t (nc + 1) := by
          have u := ok.up hnc
          exact ⟨u.1, u.2.1, rs', u.2.2.2⟩
        obtain ⟨wl', hW'⟩ := wl_new ok' cc.2.2.1.1 cc.2.2.1.2.1
        have c' : CC (fgt f2 B) B dw sl (rs.set i (ruMo r v)) al os bs ig tl sy t lo lb li wl' :=
          cc.md (by rw [fgt_j (by decide) (by decide), p4 B (by omega) (by omega) (by omega) (by omega) (by omega) (by omega), nn B (by omega) (by omega) (by omega)]; exact cc.1) fgt_11 fgt_12 (fun b h1 h2 h3 => fr b (by omega) (by omega) (Or.inl h2) (by omega) (by omega) (by omega) (by omega) (by omega) (by omega) (by omega)) (p2.fr (fun a h1 h2 => fgt_ne (by omega))) hW'
        have cd' : CD H (fgt f2 B) B sl (rs.set i (ruMo r v)) sy dr := p3.fr (fun b hb => fgt_ne (fun q => hb (AA_mem.mpr (by omega))))
        refine call_ok (H1 := hI H (fgt f2 B)) (v := I r.more) rfl hnc C M hT hN ?_ (KC.ints (fun b h1 h2 => fr b (by omega) (by omega) (by omega) (by omega) (by omega) (by omega) (by omega) (by omega) (by omega) (by omega))) ⟨C.1, C.2.1, C.2.2.1, c', cd'⟩ ok' (fun Hm Mm => ?_)
        · show p_X11_more (some B) (I (i : Int)) (I (v : Int)) (hI H (zI H)) = some (Sum.inl _, _)
          have p1' : p_X2_remake (some (B + cRf 0)) (hI H (zu (zI H) o 7 (I (v : Nat)))) = some ((), hI H f2) := p1
          simp only [p_X11_more, z_b, ite_ap, x_gR C.1 0 (by decide), vr0, ra, os1, not_false_eq_true, if_true, c63]
          rw [if_pos qy, if_pos n1]
          simp only [gi, t2, if_pos qe, n1, not_false_eq_true, if_true, t8, pi, x_gR C.1 0 (by decide), vr0, p1', x_vr C.1, forget_eq C.1, z_xrt]
        · have m := Mm.1.1
          have M0 : MS (hM Hm (zu (zI Hm) (B + 95) 58 0) (zL Hm)) B dw sl rs al os bs ig tl sy dr t := Mm.pI (Or.inl rfl)
          have n15 := (m.2.1 15 (by decide)).2.2
          have F : MFr (zu (zI Hm) (B + 95) 58 0) (zu (zu (zu (zI Hm) (B + 95) 58 0) (arM B 15) i (I (v : Nat))) (B + 95) 34 0) (zL Hm) (zL Hm) (arM B) (B + 95) [34] [15] :=
            ⟨fun j hj => ⟨by rw [zu_cell, if_neg (fun q => hj (by simp [q])), zu_ne n15.symm], rfl⟩, fun b' h1 h2 => ⟨by rw [zu_ne h1, zu_ne (fun q => h2 (by simp [q]))], rfl⟩⟩
          obtain ⟨k1, k2, k3, k4, k5, k6, k7, k8, k9, k10, k11, k12⟩ := MC.comps Mm.1 M0.2 F (by decide)
          have R0 : RsM (zu (zI Hm) (B + 95) 58 0) (zL Hm) (arM B) (B + 95) rs := M0.2.2.2.1
          have R1 : RsM (zu (zu (zu (zI Hm) (B + 95) 58 0) (arM B 15) i (I (v : Nat))) (B + 95) 34 0) (zL Hm) (arM B) (B + 95) (rs.set i (ruMo r v)) := by
            obtain ⟨s1, s2, s3⟩ := R0
            have t1 : ∀ j, (mSz j).1 ≠ 0 → j ≠ 15 → zu (zu (zu (zI Hm) (B + 95) 58 0) (arM B 15) i (I (v : Nat))) (B + 95) 34 0 (arM B j) = zu (zI Hm) (B + 95) 58 0 (arM B j) := fun j hj h1 => by
              rw [zu_ne (m.2.1 j hj).2.2, zu_ne (fun e => absurd (m.2.2 j 15 hj (by decide) e) h1)]
            refine ⟨by rw [zu_cell, if_neg (by decide), zu_ne n15.symm, List.length_set]; exact s1, by rw [List.length_set]; exact s2, fun k hk => ?_⟩
            rw [List.length_set] at hk
            obtain ⟨r', q1, q2, q3⟩ := s3 k hk
            by_cases e : i = k
            · subst e
              rw [r1] at q1
              cases Option.some.inj q1
              refine ⟨ruMo r v, by rw [List.getElem?_set, if_pos rfl, if_pos hi], ?_, mo_ok q3 (by omega)⟩
              unfold RuM at *
              rw [t1 8 (by decide) (by decide), t1 9 (by decide) (by decide), t1 10 (by decide) (by decide), t1 12 (by decide) (by decide), t1 13 (by decide) (by decide), t1 14 (by decide) (by decide)]
              exact ⟨q2.1, q2.2.1, q2.2.2.1, q2.2.2.2.1, q2.2.2.2.2.1, q2.2.2.2.2.2.1, q2.2.2.2.2.2.2.1, by rw [zu_ne n15, zu_same]; rfl⟩
            · refine ⟨r', by rw [List.getElem?_set, if_neg e]; exact q1, ?_, q3⟩
              unfold RuM at *
              rw [t1 8 (by decide) (by decide), t1 9 (by decide) (by decide), t1 10 (by decide) (by decide), t1 12 (by decide) (by decide), t1 13 (by decide) (by decide), t1 14 (by decide) (by decide)]
              exact ⟨q2.1, q2.2.1, q2.2.2.1, q2.2.2.2.1, q2.2.2.2.2.1, q2.2.2.2.2.2.1, q2.2.2.2.2.2.2.1, by rw [zu_ne n15, zu_cell, if_neg (fun q => e q.symm)]; exact q2.2.2.2.2.2.2.2⟩
          have kD : DrM (zu (zu (zu (zI Hm) (B + 95) 58 0) (arM B 15) i (I (v : Nat))) (B + 95) 34 0) (zL Hm) (arM B) dr := by
            have D0 : DrM (zu (zI Hm) (B + 95) 58 0) (zL Hm) (arM B) dr := M0.2.2.2.2.2.2.2.2.2.2.1.1
            unfold DrM at *
            rw [(F.at_ m (j := 27) (by decide) (by decide) (by decide)).1, (F.at_ m (j := 29) (by decide) (by decide) (by decide)).1]; exact D0
          have kZ : ∀ j, (rs.set i (ruMo r v)).length ≤ j → zu (zu (zu (zI Hm) (B + 95) 58 0) (arM B 15) i (I (v : Nat))) (B + 95) 34 0 (arM B 15) j = 0 := fun j hj => by
            rw [List.length_set] at hj
            rw [zu_ne n15, zu_cell, if_neg (by omega)]
            exact M0.2.2.2.2.2.2.2.2.2.2.1.2 j hj
          obtain ⟨r', q1, q2, q3⟩ := R0.2.2 i hi
          rw [r1] at q1
          cases Option.some.inj q1
          refine ⟨hM Hm (zu (zu (zu (zI Hm) (B + 95) 58 0) (arM B 15) i (I (v : Nat))) (B + 95) 34 0) (zL Hm), ?_, (KM.pI 58 0).trans (KM.mk_ (H := hM Hm (zu (zI Hm) (B + 95) 58 0) (zL Hm)) m F (by decide)), ⟨Mm.1, k1 (by decide), k2 (by decide) (by decide), R1, k4 (by decide), k5 (by decide) (by decide), k6 (by decide) (by decide), k7 (by decide) (by decide), k8 (by decide), k9 (by decide) (by decide), ⟨kD, kZ⟩, k11 (by decide) (by decide), Or.inr (zu_same _ _ _ _)⟩, ?_⟩
          · have g00 : (0 : Int32) ≤ 0 := by decide
            have v15 := q2.2.2.2.2.2.2.2
            simp only [p_X12_more, z_b, ite_ap, m7 Hm Mm, e1, min_eq, e2]
            rw [if_pos q, if_pos n1]
            simp only [r63]
            rw [if_pos qy, if_pos n1]
            simp only [(m9 Hm Mm).1, (m9 Hm Mm).2, if_pos qe, n1, not_false_eq_true, if_true]
            show p_X12_more_b47 _ _ _ _ _ (hM Hm (zI Hm) (zL Hm)) = _
            simp only [p_X12_more_b47, z_b, z_rt, ite_ap, m_pI m, m_gI m, zu_same, g00, if_true, m_gR m 15 (by decide), m_aI m 15 8 (by decide) (show i < 8 by omega) (by decide), v15, m_sI m 15 8 (by decide) (show i < 8 by omega) (by decide), m_pZ m 34 (Or.inl rfl)]
          · show zu (zu (zu (zI Hm) (B + 95) 58 0) (arM B 15) i (I (v : Nat))) (B + 95) 34 0 (B + 95) 58 = 0
            rw [zu_cell, if_neg (by decide), zu_ne n15.symm, zu_same]
      · refine call_th (kk := 3) hnc C M ok hT hN (n := 1) ?_ rfl (by decide) (fun Hm Mm => ?_)
        · show p_X11_more (some B) (I (i : Int)) (I (v : Int)) (hI H (zI H)) = _
          simp only [p_X11_more, z_b, ite_ap, x_gR C.1 0 (by decide), vr0, ra, os1, not_false_eq_true, if_true, c63]
          rw [if_pos qy, if_pos n1]
          simp only [gi, t2, if_neg qe, not_true_eq_false, if_false]
          rfl
        · obtain ⟨H2, p1, p2, p3, p4⟩ := refM 3 (Or.inr (Or.inr rfl)) Hm Mm
          refine ⟨H2, 0, ?_, p2, p3, p4⟩
          simp only [p_X12_more, z_b, ite_ap, m7 Hm Mm, e1, min_eq, e2]
          rw [if_pos q, if_pos n1]
          simp only [r63]
          rw [if_pos qy, if_pos n1]
          simp only [(m9 Hm Mm).1, (m9 Hm Mm).2, if_neg qe, not_true_eq_false, if_false]
          exact p1
    · refine call_th (kk := 2) hnc C M ok hT hN (n := 0) ?_ rfl (by decide) (fun Hm Mm => ?_)
      · show p_X11_more (some B) (I (i : Int)) (I y) (hI H (zI H)) = _
        simp only [p_X11_more, z_b, ite_ap, x_gR C.1 0 (by decide), vr0, ra, os1, not_false_eq_true, if_true, c63]
        rw [if_neg qy, if_neg (fun y => y rfl)]
        rfl
      · obtain ⟨H2, p1, p2, p3, p4⟩ := refM 2 (Or.inr (Or.inl rfl)) Hm Mm
        refine ⟨H2, 0, ?_, p2, p3, p4⟩
        simp only [p_X12_more, z_b, ite_ap, m7 Hm Mm, e1, min_eq, e2]
        rw [if_pos q, if_pos n1]
        simp only [r63]
        rw [if_neg qy, if_neg (fun y => y rfl)]
        exact p1
  · refine call_th (kk := 1) hnc C M ok hT hN (n := 2) ?_ rfl (by decide) (fun Hm Mm => ?_)
    · have ra : p_X2_ruleAt (some (B + cRf 0)) (I z) (hI H (zI H)) = some (none, hI H (zI H)) := by
        show p_X2_ruleAt (some (B + 1)) (I z) (hI H (zI H)) = _
        simp only [p_X2_ruleAt, z_b, z_rt, ite_ap, g31, vrl, sz, e1, isIn_eq, e2]
        rw [if_neg q, if_pos rfl]
      show p_X11_more (some B) (I z) (I y) (hI H (zI H)) = _
      simp only [p_X11_more, z_b, ite_ap, x_gR C.1 0 (by decide), vr0, ra, not_true_eq_false, if_false]
      rfl
    · obtain ⟨H2, p1, p2, p3, p4⟩ := refM 1 (Or.inl rfl) Hm Mm
      refine ⟨H2, 0, ?_, p2, p3, p4⟩
      simp only [p_X12_more, z_b, ite_ap, m7 Hm Mm, e1, min_eq, e2]
      rw [if_neg q, if_neg (fun y => y rfl)]
      exact p1
end
