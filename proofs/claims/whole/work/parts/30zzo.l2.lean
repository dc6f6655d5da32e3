section
variable {H H' H1 : ZH} {B nc : Nat} {f f' : FI} {g g' : FL} {dw : Wd} {sl : List St} {rs : List Ru} {al : Nat → Nat → Bool} {os bs ig : List Ow} {tl : Nat → Nat} {sy : List Sty} {dr : List It} {t : List Nat} {lo lb li : Bk} {wl : List Wd}
/-- what the reference's rows of what is found do not touch -/
theorem MC.frame {ss as : List Nat} (S : MSh H B) (m : MC f g B dw sl rs al os bs ig tl sy dr t) (F : MFr f f' g g' (arM B) (B + 95) ss as) (h1 : ∀ j ∈ [0, 1, 7, 17, 20, 22, 26, 32], j ∉ ss) (h2 : ∀ j ∈ [2, 3, 4, 5, 6, 8, 9, 10, 11, 12, 13, 14, 15, 16, 18, 19, 21, 23, 24, 25, 27, 28, 29, 30, 31, 33], j ∉ as) (h3 : ∀ i ∈ as, (mSz i).1 ≠ 0) (ht : f' (B + 95) 34 = 1 ∧ TC f' g' (arM B) (B + 95) (madeOf rs sl []) ∨ f' (B + 95) 34 = 0) : MC f' g' B dw sl rs al os bs ig tl sy dr t := by
  have e : ∀ j, (mSz j).1 ≠ 0 → j ∈ [2, 3, 4, 5, 6, 8, 9, 10, 11, 12, 13, 14, 15, 16, 18, 19, 21, 23, 24, 25, 27, 28, 29, 30, 31, 33] → f' (arM B j) = f (arM B j) ∧ g' (arM B j) = g (arM B j) := fun j hj hm => F.at_ S.1 hj (h2 j hm) h3
  have c : ∀ j, j ∈ [0, 1, 7, 17, 20, 22, 26, 32] → f' (B + 95) j = f (B + 95) j ∧ g' (B + 95) j = g (B + 95) j := fun j hj => F.1 j (h1 j hj)
  unfold MC SsM StM RsM RuM AlM OwM BaM IgM ToldC SyM StyM DrM TxM at *
  rw [(e 3 (by decide) (by decide)).1, (e 4 (by decide) (by decide)).1, (e 5 (by decide) (by decide)).1, (e 6 (by decide) (by decide)).1, (e 8 (by decide) (by decide)).1, (e 9 (by decide) (by decide)).1, (e 10 (by decide) (by decide)).1, (e 12 (by decide) (by decide)).1, (e 13 (by decide) (by decide)).1, (e 14 (by decide) (by decide)).1, (e 15 (by decide) (by decide)).1, (e 16 (by decide) (by decide)).1, (e 19 (by decide) (by decide)).1, (e 24 (by decide) (by decide)).1, (e 25 (by decide) (by decide)).1, (e 27 (by decide) (by decide)).1, (e 29 (by decide) (by decide)).1, (e 30 (by decide) (by decide)).1, (e 33 (by decide) (by decide)).1, (e 2 (by decide) (by decide)).2, (e 11 (by decide) (by decide)).2, (e 18 (by decide) (by decide)).2, (e 21 (by decide) (by decide)).2, (e 23 (by decide) (by decide)).2, (e 28 (by decide) (by decide)).2, (e 31 (by decide) (by decide)).2, (c 0 (by decide)).2, (c 1 (by decide)).1, (c 7 (by decide)).1, (c 17 (by decide)).1, (c 20 (by decide)).1, (c 22 (by decide)).1, (c 26 (by decide)).1, (c 32 (by decide)).1]
  exact ⟨m.1, m.2.1, m.2.2.1, m.2.2.2.1, m.2.2.2.2.1, m.2.2.2.2.2.1, m.2.2.2.2.2.2.1, m.2.2.2.2.2.2.2.1, m.2.2.2.2.2.2.2.2.1, m.2.2.2.2.2.2.2.2.2.1, m.2.2.2.2.2.2.2.2.2.2.1, ht⟩
theorem made_le (ok : AbOk dw sl rs os bs ig sy dr t nc) : (madeOf rs sl []).length ≤ 1548 := by
  have := madeOf_le rs sl [] ok.2.2.1.1
  have := ok.2.1.1
  simp at *
  omega
/-- the readings that both find -/
def Rof (rs : List Ru) (sl : List St) (lo lb : Bk) (t : List Nat) : Nat → Nat := fun i => rdW (madeOf rs sl []) lo lb (wdT t i)
/-- the reference reads the text -/
theorem mreads (S : MS H B dw sl rs al os bs ig tl sy dr t) (ok : AbOk dw sl rs os bs ig sy dr t nc) (Ro : OwR lo os) (Rb : OwR lb bs) :
    ∃ H2, p_X12_reads (some (B + 95)) H = some ((), H2) ∧ KM H H2 B ∧ MS H2 B dw sl rs al os bs ig tl sy dr t ∧ RaM (zI H2) (zL H2) (arM B) (B + 95) t (Rof rs sl lo lb t) tl sy ∧ (zI H2 (B + 95) 34 = 1 ∧ TC (zI H2) (zL H2) (arM B) (B + 95) (madeOf rs sl [])) ∧ zI H2 (B + 95) 58 = zI H (B + 95) 58 := by
  obtain ⟨m1, m2, m3, m4, m5, m6, m7, m8, m9, m10, m11, m12⟩ := S.2
  obtain ⟨f', g', p1, p2, p3, p4, p5⟩ := reads_eq (h := H) (f := zI H) (g := zL H) S.1.1 (made_le ok) Ro Rb m3 m2 m12 m5 m6 m11 ok.2.2.2.2.2.2.1 m8 m9
  refine ⟨hM H f' g', p1, KM.mk_ S.1.1 p5 (by decide), ⟨S.1, S.2.frame S.1 p5 (by decide) (by decide) (by decide) (Or.inl ⟨p3, p4⟩)⟩, p2, ⟨p3, p4⟩, (p5.1 58 (by decide)).1⟩
theorem KM.trans {H2 : ZH} (a : KM H H1 B) (b : KM H1 H2 B) : KM H H2 B := by
  obtain ⟨f1, g1, rfl, k1⟩ := a
  obtain ⟨f2, g2, rfl, k2⟩ := b
  exact ⟨f2, g2, rfl, fun q hq => ⟨(k2 q hq).1.trans (k1 q hq).1, (k2 q hq).2.trans (k1 q hq).2⟩⟩
theorem KM.pI (j : Nat) (v : Int32) : KM H (hM H (zu (zI H) (B + 95) j v) (zL H)) B := ⟨_, _, rfl, fun b hb => ⟨zu_ne (by omega) _ _, rfl⟩⟩
theorem MS.pI {j : Nat} {v : Int32} (S : MS H B dw sl rs al os bs ig tl sy dr t) (hj : j = 58 ∨ j = 52 ∨ j = 56 ∨ j = 40) : MS (hM H (zu (zI H) (B + 95) j v) (zL H)) B dw sl rs al os bs ig tl sy dr t := ⟨S.1, S.2.pI hj⟩
/-- is there such a word: the reference reads first -/
theorem mhas (S : MS H B dw sl rs al os bs ig tl sy dr t) (ok : AbOk dw sl rs os bs ig sy dr t nc) (Ro : OwR lo os) (Rb : OwR lb bs) {z : Int} (hz : -2147483648 ≤ z ∧ z < 2147483648) :
    ∃ H2, p_X12_hasWord (some (B + 95)) (I z) H = some (if 0 ≤ z ∧ z < (wsOf t).length then 1 else 0, H2) ∧ KM H H2 B ∧ MS H2 B dw sl rs al os bs ig tl sy dr t ∧ RaM (zI H2) (zL H2) (arM B) (B + 95) t (Rof rs sl lo lb t) tl sy ∧ (zI H2 (B + 95) 34 = 1 ∧ TC (zI H2) (zL H2) (arM B) (B + 95) (madeOf rs sl [])) ∧ zI H2 (B + 95) 58 = if 0 ≤ z ∧ z < (wsOf t).length then 0 else 1 := by
  obtain ⟨H1, p1, p2, p3, p4, p5, p6⟩ := mreads S ok Ro Rb
  have hT : t.length ≤ 100 := S.2.2.2.2.2.2.2.2.2.2.2.1.2.1
  have w50 := ws_100 hT
  have m := p3.1.1
  have e40 : zI H1 (B + 95) 40 = I (wsOf t).length := p4.1.1
  have e1 : I ((wsOf t).length : Int) - 1 = I (((wsOf t).length : Int) - 1) := by rw [show (1 : Int32) = I 1 from rfl, I_sub]
  have e2 : ((0 : Int32) ≤ I z ∧ I z ≤ I (((wsOf t).length : Int) - 1)) ↔ (0 ≤ z ∧ z < (wsOf t).length) := by
    rw [lit, I_le (by decide) (by omega), I_le (by omega) (by omega)]; omega
  have hH1 : H1 = hM H1 (zI H1) (zL H1) := rfl
  have frRa : ∀ v : Int32, RaM (zu (zI H1) (B + 95) 58 v) (zL H1) (arM B) (B + 95) t (Rof rs sl lo lb t) tl sy := fun v => by
    have F : MFr (zI H1) (zu (zI H1) (B + 95) 58 v) (zL H1) (zL H1) (arM B) (B + 95) [58] [] := MFr.pI 58 v (by simp)
    refine ⟨p4.1.fr F m (by decide) (by decide) (by decide) (by decide) (by decide) (by decide), fun i hi => ?_⟩
    rw [(F.at_ m (j := 45) (by decide) (by decide) (by decide)).1, (F.at_ m (j := 46) (by decide) (by decide) (by decide)).1, (F.at_ m (j := 47) (by decide) (by decide) (by decide)).1, (F.at_ m (j := 48) (by decide) (by decide) (by decide)).1]
    exact p4.2 i hi
  have frT : ∀ v : Int32, zu (zI H1) (B + 95) 58 v (B + 95) 34 = 1 ∧ TC (zu (zI H1) (B + 95) 58 v) (zL H1) (arM B) (B + 95) (madeOf rs sl []) := fun v => by
    have F : MFr (zI H1) (zu (zI H1) (B + 95) 58 v) (zL H1) (zL H1) (arM B) (B + 95) [58] [] := MFr.pI 58 v (by simp)
    exact ⟨by rw [(F.1 34 (by decide)).1]; exact p5.1, p5.2.frM F m (by decide) (by decide) (by decide) (by decide) (by decide) (by decide)⟩
  have vr : ∀ (α : Type) (k : ZM α), z_vr 13 (some (B + 95)) k H = k H := fun α k => if_pos S.1.1.1
  have gi := m_gI (f := zI H1) (g := zL H1) m 40
  have pi := fun v => m_pI (f := zI H1) (g := zL H1) m 58 v
  by_cases q : 0 ≤ z ∧ z < (wsOf t).length
  · refine ⟨hM H1 (zu (zI H1) (B + 95) 58 0) (zL H1), ?_, p2.trans (KM.pI _ _), p3.pI (Or.inl rfl), frRa 0, frT 0, ?_⟩
    · rw [if_pos q]
      have gj := m_gI (f := zu (zI H1) (B + 95) 58 0) (g := zL H1) m 58
      rw [zu_same] at gj
      simp only [p_X12_hasWord, z_b, vr, p1]
      rw [hH1]
      simp only [gi, e40, e1, min_eq, e2]
      rw [if_pos q, if_neg (by decide)]
      simp only [p_X12_hasWord_b24, z_b, pi, gj, z_rz]
      rfl
    · rw [if_pos q]; exact zu_same _ _ _ _
  · refine ⟨hM H1 (zu (zI H1) (B + 95) 58 1) (zL H1), ?_, p2.trans (KM.pI _ _), p3.pI (Or.inl rfl), frRa 1, frT 1, ?_⟩
    · rw [if_neg q]
      have gj := m_gI (f := zu (zI H1) (B + 95) 58 1) (g := zL H1) m 58
      rw [zu_same] at gj
      simp only [p_X12_hasWord, z_b, vr, p1]
      rw [hH1]
      simp only [gi, e40, e1, min_eq, e2]
      rw [if_neg q, if_pos rfl]
      simp only [p_X12_hasWord_b24, z_b, pi, gj, z_rz]
      rfl
    · rw [if_neg q]; exact zu_same _ _ _ _
/-- is there such a word: the class -/
theorem chas (C : CSh H B) (F : FoC f (B + 48) (arL (B + 48)) t) {z : Int} (hz : -2147483648 ≤ z ∧ z < 2147483648) : p_X11_hasWord (some B) (I z) (hI H f) = some (if 0 ≤ z ∧ z < (wsOf t).length then 1 else 0, hI H f) := by
  have w50 := ws_100 F.1.2.1
  have e7 : f (B + 48) 7 = I (wsOf t).length := F.2.2.1.1
  have e1 : I ((wsOf t).length : Int) - 1 = I (((wsOf t).length : Int) - 1) := by rw [show (1 : Int32) = I 1 from rfl, I_sub]
  have e2 : ((0 : Int32) ≤ I z ∧ I z ≤ I (((wsOf t).length : Int) - 1)) ↔ (0 ≤ z ∧ z < (wsOf t).length) := by
    rw [lit, I_le (by decide) (by omega), I_le (by omega) (by omega)]; omega
  have vr5 : ∀ (α : Type) (k : ZM α), z_vr 10 (some (B + cRf 5)) k (hI H f) = k (hI H f) := fun α k => o_vr C.ot k
  have gi5 : z_gI 10 7 (some (B + cRf 5)) (hI H f) = some (f (B + 48) 7, hI H f) := o_gI C.ot 7
  simp only [p_X11_hasWord, p_X9_wordCount, z_b, z_rt, x_gR C 5 (by decide), vr5, gi5, e7, e1, isIn_eq, e2, bI_rz]
/-- the class has read the text -/
theorem cproof (S : CS H B dw sl rs al os bs ig tl sy dr t lo lb li wl) (ok : AbOk dw sl rs os bs ig sy dr t nc) :
    ∃ f', p_X11_proofread (some B) H = some ((), hI H f') ∧ CS (hI H f') B dw sl rs al os bs ig tl sy dr t lo lb li wl ∧ PrC f' B (Rof rs sl lo lb t) tl t sy ∧ f' B 11 = 1 ∧ (∀ j, j ≠ 11 → f' B j = zI H B j) ∧ Fr (zI H) f' (PA B) := by
  obtain ⟨s1, s2, s3, ⟨c1, c2, c3, c4, c5, c6, c7, c8, c9, c10⟩, cd⟩ := S
  have cd' := cd
  obtain ⟨dsx, dsr, da, a1, n1, o1, a2, n2, o2, a3, n3, o3, x, y, zz, ⟨w1, w2, w3, w4⟩, v⟩ := cd
  have hA : ∀ a ∈ PA B, a ∈ AA B := by
    intro a ha
    simp only [PA, List.mem_cons, List.not_mem_nil, or_false] at ha
    exact AA_mem.mpr (by omega)
  have sy' : SyIs H (zI H) (B + 42) sy (AA B) := ⟨a3, n3, o3, w1, w2, w3, fun q => by have := AA_mem.mp q; omega, fun i hi => by
    obtain ⟨s, s1, sr, sa, u1, u2, u3, u4, u5, u6, u7, u8⟩ := w4 i hi
    exact ⟨s, s1, ⟨_, _, u1, u2, u3, u4, u5, fun q => u6 (List.mem_append.mpr (Or.inl q)), fun q => u7 (List.mem_append.mpr (Or.inl q))⟩, ok.2.2.2.2.1.2 s (List.mem_of_getElem? s1)⟩⟩
  obtain ⟨f', p1, p2, p3, p4, p5⟩ := proof_eq (H := H) (f := zI H) (li := li) s1 c3.1 hA ok.2.2.2.2.1.1 c2 c7 c6 sy' c9
  have n : ∀ b, b ∉ PA B → f' b = zI H b := p5
  have np : ∀ {b}, b ≠ B → b ≠ B + 79 → b ≠ B + 41 → b ≠ B + 81 → b ≠ B + 83 → b ≠ B + 85 → b ≠ B + 87 → b ≠ B + 89 → b ≠ B + 91 → f' b = zI H b := fun {b} h1 h2 h3 h4 h5 h6 h7 h8 h9 => n b (by simp only [PA, List.mem_cons, List.not_mem_nil, or_false, not_or]; exact ⟨h1, h2, h3, h4, h5, h6, h7, h8, h9⟩)
  have cc : CC f' B dw sl rs al os bs ig tl sy t lo lb li wl := by
    refine ⟨by rw [p3 10 (by decide)]; exact c1, c2.fr (fun a h1 h2 => np (by omega) (by omega) (by omega) (by omega) (by omega) (by omega) (by omega) (by omega) (by omega)), c3, c4, ?_, ?_, c7.fr (fun a h1 h2 => np (by omega) (by omega) (by omega) (by omega) (by omega) (by omega) (by omega) (by omega) (by omega)), ?_, Or.inr ⟨p2, p4⟩, ?_⟩
    · unfold AlC at *; rw [np (b := B + 26) (by omega) (by omega) (by omega) (by omega) (by omega) (by omega) (by omega) (by omega) (by omega)]; exact c5
    · unfold ToldC at *; rw [np (b := B + 39) (by omega) (by omega) (by omega) (by omega) (by omega) (by omega) (by omega) (by omega) (by omega)]; exact c6
    · rw [np (b := B + 71) (by omega) (by omega) (by omega) (by omega) (by omega) (by omega) (by omega) (by omega) (by omega), np (b := B + 73) (by omega) (by omega) (by omega) (by omega) (by omega) (by omega) (by omega) (by omega) (by omega)]; exact c8
    · rw [p3 12 (by decide)]
      rcases c10 with q | ⟨i, q1, q2, q3⟩
      · exact Or.inl q
      · exact Or.inr ⟨i, q1, q2, q3.congr (fun b h1 h2 => np (by omega) (by omega) (by omega) (by omega) (by omega) (by omega) (by omega) (by omega) (by omega))⟩
  exact ⟨f', p1, ⟨s1, s2, s3, cc, CD.fr cd' (p5.mono hA)⟩, p4, p2, p3, p5⟩
end
