/-! ===== the law's loop ===== -/
theorem and31 (x : Int32) : ∃ n : Nat, n < 32 ∧ x &&& 31 = I (n : Int) := by
  refine ⟨(x.toBitVec &&& 31#32).toNat, ?_, ?_⟩
  · rw [BitVec.toNat_and]
    exact Nat.lt_of_le_of_lt Nat.and_le_right (by decide)
  · rw [← Int32.toBitVec_inj, Int32.toBitVec_and, I_bv, BitVec.ofNat_toNat, BitVec.setWidth_eq]
    rfl
theorem chr_of (x : Int32) : ∃ c : Nat, c < 65536 ∧ (Int32.toUInt32 x % 65536).toInt32 = I (c : Int) := by
  refine ⟨(Int32.toUInt32 x % 65536).toNat, ?_, ?_⟩
  · rw [UInt32.toNat_mod]
    exact Nat.mod_lt _ (by decide)
  · rw [← Int32.toBitVec_inj, I_bv]
    show (Int32.toUInt32 x % 65536).toBitVec = BitVec.ofNat 32 (Int32.toUInt32 x % 65536).toBitVec.toNat
    rw [BitVec.ofNat_toNat, BitVec.setWidth_eq]
theorem sw_lt {α : Type} {j : Nat} (hj : j ≤ 30) (kf : Nat → ZM α) (kd : ZM α) : z_sw (I (j : Int)) 30 kf kd = kf j := by
  unfold z_sw
  rw [I_toInt (by omega), if_neg (by omega)]
  rfl
theorem sw_31 {α : Type} (kf : Nat → ZM α) (kd : ZM α) : z_sw (I ((31 : Nat) : Int)) 30 kf kd = kd := by
  unfold z_sw
  rw [I_toInt (by omega), if_pos (by omega)]
/-- the law's answer is 1, within the room -/
def Gd (B : Nat) (x : Option (Int32 × ZH)) : Prop := ∃ H', x = some (1, H') ∧ zT H' ≤ B + 2702 ∧ zN H' ≤ 135414
def Z01 (m : ZM Int32) : Prop := ∀ h v h', m h = some (v, h') → v = 0 ∨ v = 1
theorem Z01.rz (x : Int32) : Z01 (z_rz x) := fun h v h' e => by
  unfold z_rz at e
  split at e
  · next q => cases e; exact q
  · cases e
theorem Z01.b {α : Type} {m : ZM α} {k : α → ZM Int32} (hk : ∀ x, Z01 (k x)) : Z01 (z_b m k) := fun h v h' e => by
  obtain ⟨x, h1, -, e2⟩ := z_b_inv e
  exact hk x h1 v h' e2
theorem Z01.n {α : Type} {v : α} {k : α → ZM Int32} (hk : Z01 (k v)) : Z01 (z_n v k) := hk
theorem Z01.ite {c : Prop} [Decidable c] {a b : ZM Int32} (ha : Z01 a) (hb : Z01 b) : Z01 (if c then a else b) := by
  split
  · exact ha
  · exact hb
section
variable {H H1 H2 : ZH} {B nc k b : Nat} {A A' : AS} {D : Nat × Nat × Nat × Nat × (Nat → Int32)}
theorem sA (hD : zD H = D) (hb : D.2.2.1 = b) (hL : D.2.2.2.1 ≤ 3584) {i : Nat} (hi : i < D.2.2.2.1) : z_sA (some b) (I (i : Int)) H = some (D.2.2.2.2 i, H) := by
  have e1 : ¬ (I (i : Int) < 0) := by rw [lit, I_lt (by omega) (by decide)]; omega
  have e2 : (I (i : Int)).toNatClampNeg = i := ix_nat (n := 3584) (by omega) (by decide)
  unfold z_sA
  rw [hD, e2, if_pos ⟨by rw [hb], fun q => q.elim e1 (fun z => absurd hi (Nat.not_lt.mpr z))⟩]
theorem ST.k19 {dw : Wd} {sl : List St} {rs : List Ru} {al : Nat → Nat → Bool} {os bs ig : List Ow} {tl : Nat → Nat} {sy : List Sty} {dr : List It} {t : List Nat} (S : ST H B nc (dw, sl, rs, al, os, bs, ig, tl, sy, dr, t)) : zK H (B + 95) = (19, 0) ∧ zK H (B + 141) = (2, 1) ∧ zK H B = (18, 0) := by
  obtain ⟨⟨lo, lb, li, wl, C⟩, M, -, -, -⟩ := S
  exact ⟨M.1.1.1, M.1.2, C.1.1.1⟩
theorem ST.kk (S : ST H B nc A) : zK H (B + 95) = (19, 0) ∧ zK H (B + 141) = (2, 1) ∧ zK H B = (18, 0) := by
  obtain ⟨dw, sl, rs, al, os, bs, ig, tl, sy, dr, t⟩ := A
  exact ST.k19 S
theorem aL_out (hk : zK H (B + 141) = (2, 1)) : z_aL (some (B + 141)) 0 H = some (zL H (B + 141) 0, H) := by
  have e : (0 : Int32).toNatClampNeg = 0 := rfl
  unfold z_aL
  simp only [hk, e]
  rw [if_pos ⟨trivial, by decide⟩]
theorem thr_eq (hk : zK H (B + 95) = (19, 0)) : z_vr 13 (some (B + 95)) (p_X12_thrown (some (B + 95))) H = some (zI H (B + 95) 58, H) := by
  have e : z_vr 13 (some (B + 95)) (p_X12_thrown (some (B + 95))) H = p_X12_thrown (some (B + 95)) H := if_pos hk
  have g : z_gI 13 58 (some (B + 95)) H = some (zI H (B + 95) 58, H) := if_pos hk
  rw [e]
  simp only [p_X12_thrown, z_b, z_rt, g]
theorem cmp_self (x : Int64) : lg_cmp x x = 0 := (lgc_eq0 x x).mpr rfl
/-- what follows a call of both -/
theorem tail_i {mdl K : ZM Int32} {kk bb : Int32} (c2 : mdl H1 = some (bb, H2)) (c3 : zI H2 (B + 95) 58 = kk) (c4 : kk = 0 → zL H2 (B + 141) 0 = Int32.toInt64 bb) (c5 : ST H2 B nc A) (c7 : zK H1 (B + 95) = (19, 0)) :
    z_b (z_vr 13 (some (B + 95)) mdl) (fun b => z_b (z_vr 13 (some (B + 95)) (p_X12_thrown (some (B + 95)))) fun th => if th = kk then (if ¬ kk = 0 then K else (z_b (z_aL (some (B + 141)) 0) fun o => if (lg_cmp o (Int32.toInt64 b)) = 0 then K else (z_rz 0))) else (z_rz 0)) H1 = K H2 := by
  obtain ⟨k1, k2, k3⟩ := c5.kk
  have e1 : z_vr 13 (some (B + 95)) mdl H1 = some (bb, H2) := (if_pos c7).trans c2
  simp only [z_b, e1, thr_eq k1, c3, if_true]
  by_cases q : kk = 0
  · simp only [q, not_true_eq_false, if_false, z_b, aL_out k2, c4 q, cmp_self, if_true]
  · simp only [q, not_false_eq_true, if_true]
theorem tail_b {mdl K : ZM Int32} {kk bb : Int32} (z : Z01 mdl) (c2 : mdl H1 = some (bb, H2)) (c3 : zI H2 (B + 95) 58 = kk) (c4 : kk = 0 → zL H2 (B + 141) 0 = Int32.toInt64 bb) (c5 : ST H2 B nc A) (c7 : zK H1 (B + 95) = (19, 0)) :
    z_b (z_vr 13 (some (B + 95)) mdl) (fun b => z_b (z_vr 13 (some (B + 95)) (p_X12_thrown (some (B + 95)))) fun th => if th = kk then (if ¬ kk = 0 then K else (z_b (z_aL (some (B + 141)) 0) fun o => if b = 0 then (if (lg_cmp o 0) = 0 then K else z_rz 0) else (if (lg_cmp o 1) = 0 then K else z_rz 0))) else (z_rz 0)) H1 = K H2 := by
  obtain ⟨k1, k2, k3⟩ := c5.kk
  have e1 : z_vr 13 (some (B + 95)) mdl H1 = some (bb, H2) := (if_pos c7).trans c2
  simp only [z_b, e1, thr_eq k1, c3, if_true]
  by_cases q : kk = 0
  · simp only [q, not_true_eq_false, if_false, z_b, aL_out k2, c4 q]
    rcases z _ _ _ c2 with rfl | rfl
    · rw [if_pos rfl, show Int32.toInt64 0 = 0 from rfl, cmp_self, if_pos rfl]
    · rw [if_neg (by decide), show Int32.toInt64 1 = 1 from rfl, cmp_self, if_pos rfl]
  · simp only [q, not_false_eq_true, if_true]
theorem ix1 (k j : Nat) : I ((7 * k : Nat) : Int) + I (j : Int) = I ((7 * k + j : Nat) : Int) := I_an _ _

theorem lk_letter (S : ST H B nc A) (hnc : nc < 512) (hD : zD H = D) (hb : D.2.2.1 = b) (hL : D.2.2.2.1 ≤ 3584) (hi : 7 * k + 6 < D.2.2.2.1) (r : Option Nat → Option Nat → Option Nat → Option Nat → Int32 → ZM Int32) (hK : ∀ H2 A', ST H2 B (nc + 1) A' → zD H2 = D → Gd B (p_L_law_b1892 r (some b) (some B) (some (B + 95)) (some (B + 141)) (I ((7 * k : Nat) : Int)) H2)) : Gd B (p_L_law_b180 r (some b) (some B) (some (B + 95)) (some (B + 141)) (I ((7 * k : Nat) : Int)) H) := by
  obtain ⟨dw, sl, rs, al, os, bs, ig, tl, sy, dr, t⟩ := A
  obtain ⟨c1, hc1, ec1⟩ := chr_of (D.2.2.2.2 (7 * k + 1))
  have x1 : I ((7 * k : Nat) : Int) + 1 = I ((7 * k + 1 : Nat) : Int) := ix1 k 1
  obtain ⟨A', H1, H2, kk, bb, g1, g2, g3, g4, g5, g6, g7, g8⟩ := call_letter S hnc hc1
  have s1 := sA hD hb hL (i := 7 * k + 1) (by omega)
  have u1 := sA (g8.trans hD) hb hL (i := 7 * k + 1) (by omega)
  have tl := tail_i (K := p_L_law_b235 r (some b) (some B) (some (B + 95)) (some (B + 141)) (I ((7 * k : Nat) : Int))) g2 g3 g4 g5 g7
  have e : p_L_law_b180 r (some b) (some B) (some (B + 95)) (some (B + 141)) (I ((7 * k : Nat) : Int)) H = p_L_law_b235 r (some b) (some B) (some (B + 95)) (some (B + 141)) (I ((7 * k : Nat) : Int)) H2 := by
    rw [← tl]
    simp only [p_L_law_b180, z_b, g1, x1, s1, u1, ec1]
  rw [e]
  exact hK H2 A' g5 (g6.trans hD)

theorem lk_scrap (S : ST H B nc A) (hnc : nc < 512) (hD : zD H = D) (hb : D.2.2.1 = b) (hL : D.2.2.2.1 ≤ 3584) (hi : 7 * k + 6 < D.2.2.2.1) (r : Option Nat → Option Nat → Option Nat → Option Nat → Int32 → ZM Int32) (hK : ∀ H2 A', ST H2 B (nc + 1) A' → zD H2 = D → Gd B (p_L_law_b1892 r (some b) (some B) (some (B + 95)) (some (B + 141)) (I ((7 * k : Nat) : Int)) H2)) : Gd B (p_L_law_b238 r (some b) (some B) (some (B + 95)) (some (B + 141)) (I ((7 * k : Nat) : Int)) H) := by
  obtain ⟨dw, sl, rs, al, os, bs, ig, tl, sy, dr, t⟩ := A
  obtain ⟨A', H1, H2, v, c1, c2, c3, c4, c5⟩ := call_scrap S hnc
  have e1 : z_vr 12 (some B) (p_X11_scrap (some B)) H = some (v, H1) := (if_pos S.kk.2.2).trans c1
  have e2 : z_vr 13 (some (B + 95)) (p_X12_scrap (some (B + 95))) H1 = some (v, H2) := (if_pos c5).trans c2
  have e : p_L_law_b238 r (some b) (some B) (some (B + 95)) (some (B + 141)) (I ((7 * k : Nat) : Int)) H = p_L_law_b1892 r (some b) (some B) (some (B + 95)) (some (B + 141)) (I ((7 * k : Nat) : Int)) H2 := by
    simp only [p_L_law_b238, z_b, ite_ap, e1, e2, if_true]
  rw [e]
  exact hK H2 A' c3 (c4.trans hD)

theorem lk_stem (S : ST H B nc A) (hnc : nc < 512) (hD : zD H = D) (hb : D.2.2.1 = b) (hL : D.2.2.2.1 ≤ 3584) (hi : 7 * k + 6 < D.2.2.2.1) (r : Option Nat → Option Nat → Option Nat → Option Nat → Int32 → ZM Int32) (hK : ∀ H2 A', ST H2 B (nc + 1) A' → zD H2 = D → Gd B (p_L_law_b1892 r (some b) (some B) (some (B + 95)) (some (B + 141)) (I ((7 * k : Nat) : Int)) H2)) : Gd B (p_L_law_b251 r (some b) (some B) (some (B + 95)) (some (B + 141)) (I ((7 * k : Nat) : Int)) H) := by
  obtain ⟨dw, sl, rs, al, os, bs, ig, tl, sy, dr, t⟩ := A
  have x1 : I ((7 * k : Nat) : Int) + 1 = I ((7 * k + 1 : Nat) : Int) := ix1 k 1
  have x2 : I ((7 * k : Nat) : Int) + 2 = I ((7 * k + 2 : Nat) : Int) := ix1 k 2
  have x3 : I ((7 * k : Nat) : Int) + 3 = I ((7 * k + 3 : Nat) : Int) := ix1 k 3
  have x4 : I ((7 * k : Nat) : Int) + 4 = I ((7 * k + 4 : Nat) : Int) := ix1 k 4
  obtain ⟨A', H1, H2, kk, bb, g1, g2, g3, g4, g5, g6, g7, g8⟩ := call_stem S hnc (D.2.2.2.2 (7 * k + 1)) (D.2.2.2.2 (7 * k + 2)) (D.2.2.2.2 (7 * k + 3)) (D.2.2.2.2 (7 * k + 4))
  have s1 := sA hD hb hL (i := 7 * k + 1) (by omega)
  have u1 := sA (g8.trans hD) hb hL (i := 7 * k + 1) (by omega)
  have s2 := sA hD hb hL (i := 7 * k + 2) (by omega)
  have u2 := sA (g8.trans hD) hb hL (i := 7 * k + 2) (by omega)
  have s3 := sA hD hb hL (i := 7 * k + 3) (by omega)
  have u3 := sA (g8.trans hD) hb hL (i := 7 * k + 3) (by omega)
  have s4 := sA hD hb hL (i := 7 * k + 4) (by omega)
  have u4 := sA (g8.trans hD) hb hL (i := 7 * k + 4) (by omega)
  have tl := tail_i (K := p_L_law_b340 r (some b) (some B) (some (B + 95)) (some (B + 141)) (I ((7 * k : Nat) : Int))) g2 g3 g4 g5 g7
  have e : p_L_law_b251 r (some b) (some B) (some (B + 95)) (some (B + 141)) (I ((7 * k : Nat) : Int)) H = p_L_law_b340 r (some b) (some B) (some (B + 95)) (some (B + 141)) (I ((7 * k : Nat) : Int)) H2 := by
    rw [← tl]
    simp only [p_L_law_b251, z_b, g1, x1, x2, x3, x4, s1, u1, s2, u2, s3, u3, s4, u4]
  rw [e]
  exact hK H2 A' g5 (g6.trans hD)

theorem lk_more (S : ST H B nc A) (hnc : nc < 512) (hD : zD H = D) (hb : D.2.2.1 = b) (hL : D.2.2.2.1 ≤ 3584) (hi : 7 * k + 6 < D.2.2.2.1) (r : Option Nat → Option Nat → Option Nat → Option Nat → Int32 → ZM Int32) (hK : ∀ H2 A', ST H2 B (nc + 1) A' → zD H2 = D → Gd B (p_L_law_b1892 r (some b) (some B) (some (B + 95)) (some (B + 141)) (I ((7 * k : Nat) : Int)) H2)) : Gd B (p_L_law_b479 r (some b) (some B) (some (B + 95)) (some (B + 141)) (I ((7 * k : Nat) : Int)) H) := by
  obtain ⟨dw, sl, rs, al, os, bs, ig, tl, sy, dr, t⟩ := A
  have x1 : I ((7 * k : Nat) : Int) + 1 = I ((7 * k + 1 : Nat) : Int) := ix1 k 1
  have x2 : I ((7 * k : Nat) : Int) + 2 = I ((7 * k + 2 : Nat) : Int) := ix1 k 2
  obtain ⟨A', H1, H2, kk, bb, g1, g2, g3, g4, g5, g6, g7, g8⟩ := call_more S hnc (D.2.2.2.2 (7 * k + 1)) (D.2.2.2.2 (7 * k + 2))
  have s1 := sA hD hb hL (i := 7 * k + 1) (by omega)
  have u1 := sA (g8.trans hD) hb hL (i := 7 * k + 1) (by omega)
  have s2 := sA hD hb hL (i := 7 * k + 2) (by omega)
  have u2 := sA (g8.trans hD) hb hL (i := 7 * k + 2) (by omega)
  have tl := tail_i (K := p_L_law_b544 r (some b) (some B) (some (B + 95)) (some (B + 141)) (I ((7 * k : Nat) : Int))) g2 g3 g4 g5 g7
  have e : p_L_law_b479 r (some b) (some B) (some (B + 95)) (some (B + 141)) (I ((7 * k : Nat) : Int)) H = p_L_law_b544 r (some b) (some B) (some (B + 95)) (some (B + 141)) (I ((7 * k : Nat) : Int)) H2 := by
    rw [← tl]
    simp only [p_L_law_b479, z_b, g1, x1, x2, s1, u1, s2, u2]
  rw [e]
  exact hK H2 A' g5 (g6.trans hD)

theorem Z01_sound (v0 : Option Nat) (v1 v2 : Int32) : Z01 (p_X12_sound v0 v1 v2) := by
  have h80 : ∀ a c s, (s = 0 ∨ s = 1) → Z01 (p_X12_sound_b80 v0 a c s) := fun a c s _ => Z01.b (fun _ => Z01.b (fun _ => Z01.b (fun _ => Z01.b (fun _ => Z01.rz _))))
  have h33 : ∀ s0 s1, Z01 (p_X12_sound_b33 v0 v1 v2 s0 s1) := fun s0 s1 => Z01.b (fun _ => Z01.b (fun _ => Z01.ite (Z01.n (Z01.n (Z01.b (fun _ => Z01.b (fun _ => Z01.ite (h80 _ _ 0 (Or.inl rfl)) (h80 _ _ 1 (Or.inr rfl))))))) (Z01.rz _)))
  exact Z01.b (fun _ => Z01.ite (h33 _ _) (Z01.b (fun _ => Z01.ite (h33 _ _) (Z01.ite (h33 _ _) (h33 _ _)))))

theorem lk_sound (S : ST H B nc A) (hnc : nc < 512) (hD : zD H = D) (hb : D.2.2.1 = b) (hL : D.2.2.2.1 ≤ 3584) (hi : 7 * k + 6 < D.2.2.2.1) (r : Option Nat → Option Nat → Option Nat → Option Nat → Int32 → ZM Int32) (hK : ∀ H2 A', ST H2 B (nc + 1) A' → zD H2 = D → Gd B (p_L_law_b1892 r (some b) (some B) (some (B + 95)) (some (B + 141)) (I ((7 * k : Nat) : Int)) H2)) : Gd B (p_L_law_b547 r (some b) (some B) (some (B + 95)) (some (B + 141)) (I ((7 * k : Nat) : Int)) H) := by
  obtain ⟨dw, sl, rs, al, os, bs, ig, tl, sy, dr, t⟩ := A
  obtain ⟨c1, hc1, ec1⟩ := chr_of (D.2.2.2.2 (7 * k + 1))
  obtain ⟨c2, hc2, ec2⟩ := chr_of (D.2.2.2.2 (7 * k + 2))
  have x1 : I ((7 * k : Nat) : Int) + 1 = I ((7 * k + 1 : Nat) : Int) := ix1 k 1
  have x2 : I ((7 * k : Nat) : Int) + 2 = I ((7 * k + 2 : Nat) : Int) := ix1 k 2
  obtain ⟨A', H1, H2, kk, bb, g1, g2, g3, g4, g5, g6, g7, g8⟩ := call_sound S hnc hc1 hc2
  have s1 := sA hD hb hL (i := 7 * k + 1) (by omega)
  have u1 := sA (g8.trans hD) hb hL (i := 7 * k + 1) (by omega)
  have s2 := sA hD hb hL (i := 7 * k + 2) (by omega)
  have u2 := sA (g8.trans hD) hb hL (i := 7 * k + 2) (by omega)
  have tl := tail_b (K := p_L_law_b623 r (some b) (some B) (some (B + 95)) (some (B + 141)) (I ((7 * k : Nat) : Int))) (Z01_sound _ _ _) g2 g3 g4 g5 g7
  have e : p_L_law_b547 r (some b) (some B) (some (B + 95)) (some (B + 141)) (I ((7 * k : Nat) : Int)) H = p_L_law_b623 r (some b) (some B) (some (B + 95)) (some (B + 141)) (I ((7 * k : Nat) : Int)) H2 := by
    rw [← tl]
    simp only [p_L_law_b547, z_b, g1, x1, x2, s1, u1, s2, u2, ec1, ec2, p_L_law_b617]
  rw [e]
  exact hK H2 A' g5 (g6.trans hD)

theorem lk_own (S : ST H B nc A) (hnc : nc < 512) (hD : zD H = D) (hb : D.2.2.1 = b) (hL : D.2.2.2.1 ≤ 3584) (hi : 7 * k + 6 < D.2.2.2.1) (r : Option Nat → Option Nat → Option Nat → Option Nat → Int32 → ZM Int32) (hK : ∀ H2 A', ST H2 B (nc + 1) A' → zD H2 = D → Gd B (p_L_law_b1892 r (some b) (some B) (some (B + 95)) (some (B + 141)) (I ((7 * k : Nat) : Int)) H2)) : Gd B (p_L_law_b626 r (some b) (some B) (some (B + 95)) (some (B + 141)) (I ((7 * k : Nat) : Int)) H) := by
  obtain ⟨dw, sl, rs, al, os, bs, ig, tl, sy, dr, t⟩ := A
  have x1 : I ((7 * k : Nat) : Int) + 1 = I ((7 * k + 1 : Nat) : Int) := ix1 k 1
  have x2 : I ((7 * k : Nat) : Int) + 2 = I ((7 * k + 2 : Nat) : Int) := ix1 k 2
  obtain ⟨A', H1, H2, kk, bb, g1, g2, g3, g4, g5, g6, g7, g8⟩ := call_own S hnc (D.2.2.2.2 (7 * k + 1)) (D.2.2.2.2 (7 * k + 2))
  have s1 := sA hD hb hL (i := 7 * k + 1) (by omega)
  have u1 := sA (g8.trans hD) hb hL (i := 7 * k + 1) (by omega)
  have s2 := sA hD hb hL (i := 7 * k + 2) (by omega)
  have u2 := sA (g8.trans hD) hb hL (i := 7 * k + 2) (by omega)
  have tl := tail_i (K := p_L_law_b691 r (some b) (some B) (some (B + 95)) (some (B + 141)) (I ((7 * k : Nat) : Int))) g2 g3 g4 g5 g7
  have e : p_L_law_b626 r (some b) (some B) (some (B + 95)) (some (B + 141)) (I ((7 * k : Nat) : Int)) H = p_L_law_b691 r (some b) (some B) (some (B + 95)) (some (B + 141)) (I ((7 * k : Nat) : Int)) H2 := by
    rw [← tl]
    simp only [p_L_law_b626, z_b, g1, x1, x2, s1, u1, s2, u2]
  rw [e]
  exact hK H2 A' g5 (g6.trans hD)

theorem lk_bar (S : ST H B nc A) (hnc : nc < 512) (hD : zD H = D) (hb : D.2.2.1 = b) (hL : D.2.2.2.1 ≤ 3584) (hi : 7 * k + 6 < D.2.2.2.1) (r : Option Nat → Option Nat → Option Nat → Option Nat → Int32 → ZM Int32) (hK : ∀ H2 A', ST H2 B (nc + 1) A' → zD H2 = D → Gd B (p_L_law_b1892 r (some b) (some B) (some (B + 95)) (some (B + 141)) (I ((7 * k : Nat) : Int)) H2)) : Gd B (p_L_law_b694 r (some b) (some B) (some (B + 95)) (some (B + 141)) (I ((7 * k : Nat) : Int)) H) := by
  obtain ⟨dw, sl, rs, al, os, bs, ig, tl, sy, dr, t⟩ := A
  obtain ⟨A', H1, H2, kk, bb, g1, g2, g3, g4, g5, g6, g7, g8⟩ := call_bar S hnc 
  have tl := tail_i (K := p_L_law_b735 r (some b) (some B) (some (B + 95)) (some (B + 141)) (I ((7 * k : Nat) : Int))) g2 g3 g4 g5 g7
  have e : p_L_law_b694 r (some b) (some B) (some (B + 95)) (some (B + 141)) (I ((7 * k : Nat) : Int)) H = p_L_law_b735 r (some b) (some B) (some (B + 95)) (some (B + 141)) (I ((7 * k : Nat) : Int)) H2 := by
    rw [← tl]
    simp only [p_L_law_b694, z_b, g1]
  rw [e]
  exact hK H2 A' g5 (g6.trans hD)

theorem lk_ignore (S : ST H B nc A) (hnc : nc < 512) (hD : zD H = D) (hb : D.2.2.1 = b) (hL : D.2.2.2.1 ≤ 3584) (hi : 7 * k + 6 < D.2.2.2.1) (r : Option Nat → Option Nat → Option Nat → Option Nat → Int32 → ZM Int32) (hK : ∀ H2 A', ST H2 B (nc + 1) A' → zD H2 = D → Gd B (p_L_law_b1892 r (some b) (some B) (some (B + 95)) (some (B + 141)) (I ((7 * k : Nat) : Int)) H2)) : Gd B (p_L_law_b738 r (some b) (some B) (some (B + 95)) (some (B + 141)) (I ((7 * k : Nat) : Int)) H) := by
  obtain ⟨dw, sl, rs, al, os, bs, ig, tl, sy, dr, t⟩ := A
  have x1 : I ((7 * k : Nat) : Int) + 1 = I ((7 * k + 1 : Nat) : Int) := ix1 k 1
  obtain ⟨A', H1, H2, kk, bb, g1, g2, g3, g4, g5, g6, g7, g8⟩ := call_ignore S hnc (D.2.2.2.2 (7 * k + 1))
  have s1 := sA hD hb hL (i := 7 * k + 1) (by omega)
  have u1 := sA (g8.trans hD) hb hL (i := 7 * k + 1) (by omega)
  have tl := tail_i (K := p_L_law_b791 r (some b) (some B) (some (B + 95)) (some (B + 141)) (I ((7 * k : Nat) : Int))) g2 g3 g4 g5 g7
  have e : p_L_law_b738 r (some b) (some B) (some (B + 95)) (some (B + 141)) (I ((7 * k : Nat) : Int)) H = p_L_law_b791 r (some b) (some B) (some (B + 95)) (some (B + 141)) (I ((7 * k : Nat) : Int)) H2 := by
    rw [← tl]
    simp only [p_L_law_b738, z_b, g1, x1, s1, u1]
  rw [e]
  exact hK H2 A' g5 (g6.trans hD)

theorem lk_tell (S : ST H B nc A) (hnc : nc < 512) (hD : zD H = D) (hb : D.2.2.1 = b) (hL : D.2.2.2.1 ≤ 3584) (hi : 7 * k + 6 < D.2.2.2.1) (r : Option Nat → Option Nat → Option Nat → Option Nat → Int32 → ZM Int32) (hK : ∀ H2 A', ST H2 B (nc + 1) A' → zD H2 = D → Gd B (p_L_law_b1892 r (some b) (some B) (some (B + 95)) (some (B + 141)) (I ((7 * k : Nat) : Int)) H2)) : Gd B (p_L_law_b794 r (some b) (some B) (some (B + 95)) (some (B + 141)) (I ((7 * k : Nat) : Int)) H) := by
  obtain ⟨dw, sl, rs, al, os, bs, ig, tl, sy, dr, t⟩ := A
  have x1 : I ((7 * k : Nat) : Int) + 1 = I ((7 * k + 1 : Nat) : Int) := ix1 k 1
  have x2 : I ((7 * k : Nat) : Int) + 2 = I ((7 * k + 2 : Nat) : Int) := ix1 k 2
  have x3 : I ((7 * k : Nat) : Int) + 3 = I ((7 * k + 3 : Nat) : Int) := ix1 k 3
  obtain ⟨A', H1, H2, kk, bb, g1, g2, g3, g4, g5, g6, g7, g8⟩ := call_tell S hnc (D.2.2.2.2 (7 * k + 1)) (D.2.2.2.2 (7 * k + 2)) (D.2.2.2.2 (7 * k + 3))
  have s1 := sA hD hb hL (i := 7 * k + 1) (by omega)
  have u1 := sA (g8.trans hD) hb hL (i := 7 * k + 1) (by omega)
  have s2 := sA hD hb hL (i := 7 * k + 2) (by omega)
  have u2 := sA (g8.trans hD) hb hL (i := 7 * k + 2) (by omega)
  have s3 := sA hD hb hL (i := 7 * k + 3) (by omega)
  have u3 := sA (g8.trans hD) hb hL (i := 7 * k + 3) (by omega)
  have tl := tail_i (K := p_L_law_b871 r (some b) (some B) (some (B + 95)) (some (B + 141)) (I ((7 * k : Nat) : Int))) g2 g3 g4 g5 g7
  have e : p_L_law_b794 r (some b) (some B) (some (B + 95)) (some (B + 141)) (I ((7 * k : Nat) : Int)) H = p_L_law_b871 r (some b) (some B) (some (B + 95)) (some (B + 141)) (I ((7 * k : Nat) : Int)) H2 := by
    rw [← tl]
    simp only [p_L_law_b794, z_b, g1, x1, x2, x3, s1, u1, s2, u2, s3, u3]
  rw [e]
  exact hK H2 A' g5 (g6.trans hD)

theorem lk_item (S : ST H B nc A) (hnc : nc < 512) (hD : zD H = D) (hb : D.2.2.1 = b) (hL : D.2.2.2.1 ≤ 3584) (hi : 7 * k + 6 < D.2.2.2.1) (r : Option Nat → Option Nat → Option Nat → Option Nat → Int32 → ZM Int32) (hK : ∀ H2 A', ST H2 B (nc + 1) A' → zD H2 = D → Gd B (p_L_law_b1892 r (some b) (some B) (some (B + 95)) (some (B + 141)) (I ((7 * k : Nat) : Int)) H2)) : Gd B (p_L_law_b874 r (some b) (some B) (some (B + 95)) (some (B + 141)) (I ((7 * k : Nat) : Int)) H) := by
  obtain ⟨dw, sl, rs, al, os, bs, ig, tl, sy, dr, t⟩ := A
  have x1 : I ((7 * k : Nat) : Int) + 1 = I ((7 * k + 1 : Nat) : Int) := ix1 k 1
  obtain ⟨A', H1, H2, kk, bb, g1, g2, g3, g4, g5, g6, g7, g8⟩ := call_item S hnc (D.2.2.2.2 (7 * k + 1))
  have s1 := sA hD hb hL (i := 7 * k + 1) (by omega)
  have u1 := sA (g8.trans hD) hb hL (i := 7 * k + 1) (by omega)
  have tl := tail_i (K := p_L_law_b927 r (some b) (some B) (some (B + 95)) (some (B + 141)) (I ((7 * k : Nat) : Int))) g2 g3 g4 g5 g7
  have e : p_L_law_b874 r (some b) (some B) (some (B + 95)) (some (B + 141)) (I ((7 * k : Nat) : Int)) H = p_L_law_b927 r (some b) (some B) (some (B + 95)) (some (B + 141)) (I ((7 * k : Nat) : Int)) H2 := by
    rw [← tl]
    simp only [p_L_law_b874, z_b, g1, x1, s1, u1]
  rw [e]
  exact hK H2 A' g5 (g6.trans hD)

theorem lk_style (S : ST H B nc A) (hnc : nc < 512) (hD : zD H = D) (hb : D.2.2.1 = b) (hL : D.2.2.2.1 ≤ 3584) (hi : 7 * k + 6 < D.2.2.2.1) (r : Option Nat → Option Nat → Option Nat → Option Nat → Int32 → ZM Int32) (hK : ∀ H2 A', ST H2 B (nc + 1) A' → zD H2 = D → Gd B (p_L_law_b1892 r (some b) (some B) (some (B + 95)) (some (B + 141)) (I ((7 * k : Nat) : Int)) H2)) : Gd B (p_L_law_b930 r (some b) (some B) (some (B + 95)) (some (B + 141)) (I ((7 * k : Nat) : Int)) H) := by
  obtain ⟨dw, sl, rs, al, os, bs, ig, tl, sy, dr, t⟩ := A
  have x1 : I ((7 * k : Nat) : Int) + 1 = I ((7 * k + 1 : Nat) : Int) := ix1 k 1
  obtain ⟨A', H1, H2, kk, bb, g1, g2, g3, g4, g5, g6, g7, g8⟩ := call_style S hnc (D.2.2.2.2 (7 * k + 1))
  have s1 := sA hD hb hL (i := 7 * k + 1) (by omega)
  have u1 := sA (g8.trans hD) hb hL (i := 7 * k + 1) (by omega)
  have tl := tail_i (K := p_L_law_b983 r (some b) (some B) (some (B + 95)) (some (B + 141)) (I ((7 * k : Nat) : Int))) g2 g3 g4 g5 g7
  have e : p_L_law_b930 r (some b) (some B) (some (B + 95)) (some (B + 141)) (I ((7 * k : Nat) : Int)) H = p_L_law_b983 r (some b) (some B) (some (B + 95)) (some (B + 141)) (I ((7 * k : Nat) : Int)) H2 := by
    rw [← tl]
    simp only [p_L_law_b930, z_b, g1, x1, s1, u1]
  rw [e]
  exact hK H2 A' g5 (g6.trans hD)

theorem lk_put (S : ST H B nc A) (hnc : nc < 512) (hD : zD H = D) (hb : D.2.2.1 = b) (hL : D.2.2.2.1 ≤ 3584) (hi : 7 * k + 6 < D.2.2.2.1) (r : Option Nat → Option Nat → Option Nat → Option Nat → Int32 → ZM Int32) (hK : ∀ H2 A', ST H2 B (nc + 1) A' → zD H2 = D → Gd B (p_L_law_b1892 r (some b) (some B) (some (B + 95)) (some (B + 141)) (I ((7 * k : Nat) : Int)) H2)) : Gd B (p_L_law_b986 r (some b) (some B) (some (B + 95)) (some (B + 141)) (I ((7 * k : Nat) : Int)) H) := by
  obtain ⟨dw, sl, rs, al, os, bs, ig, tl, sy, dr, t⟩ := A
  obtain ⟨c2, hc2, ec2⟩ := chr_of (D.2.2.2.2 (7 * k + 2))
  have x1 : I ((7 * k : Nat) : Int) + 1 = I ((7 * k + 1 : Nat) : Int) := ix1 k 1
  have x2 : I ((7 * k : Nat) : Int) + 2 = I ((7 * k + 2 : Nat) : Int) := ix1 k 2
  obtain ⟨A', H1, H2, kk, bb, g1, g2, g3, g4, g5, g6, g7, g8⟩ := call_put S hnc (D.2.2.2.2 (7 * k + 1)) hc2
  have s1 := sA hD hb hL (i := 7 * k + 1) (by omega)
  have u1 := sA (g8.trans hD) hb hL (i := 7 * k + 1) (by omega)
  have s2 := sA hD hb hL (i := 7 * k + 2) (by omega)
  have u2 := sA (g8.trans hD) hb hL (i := 7 * k + 2) (by omega)
  have tl := tail_i (K := p_L_law_b1053 r (some b) (some B) (some (B + 95)) (some (B + 141)) (I ((7 * k : Nat) : Int))) g2 g3 g4 g5 g7
  have e : p_L_law_b986 r (some b) (some B) (some (B + 95)) (some (B + 141)) (I ((7 * k : Nat) : Int)) H = p_L_law_b1053 r (some b) (some B) (some (B + 95)) (some (B + 141)) (I ((7 * k : Nat) : Int)) H2 := by
    rw [← tl]
    simp only [p_L_law_b986, z_b, g1, x1, x2, s1, u1, s2, u2, ec2]
  rw [e]
  exact hK H2 A' g5 (g6.trans hD)

theorem lk_take (S : ST H B nc A) (hnc : nc < 512) (hD : zD H = D) (hb : D.2.2.1 = b) (hL : D.2.2.2.1 ≤ 3584) (hi : 7 * k + 6 < D.2.2.2.1) (r : Option Nat → Option Nat → Option Nat → Option Nat → Int32 → ZM Int32) (hK : ∀ H2 A', ST H2 B (nc + 1) A' → zD H2 = D → Gd B (p_L_law_b1892 r (some b) (some B) (some (B + 95)) (some (B + 141)) (I ((7 * k : Nat) : Int)) H2)) : Gd B (p_L_law_b1056 r (some b) (some B) (some (B + 95)) (some (B + 141)) (I ((7 * k : Nat) : Int)) H) := by
  obtain ⟨dw, sl, rs, al, os, bs, ig, tl, sy, dr, t⟩ := A
  have x1 : I ((7 * k : Nat) : Int) + 1 = I ((7 * k + 1 : Nat) : Int) := ix1 k 1
  obtain ⟨A', H1, H2, kk, bb, g1, g2, g3, g4, g5, g6, g7, g8⟩ := call_take S hnc (D.2.2.2.2 (7 * k + 1))
  have s1 := sA hD hb hL (i := 7 * k + 1) (by omega)
  have u1 := sA (g8.trans hD) hb hL (i := 7 * k + 1) (by omega)
  have tl := tail_i (K := p_L_law_b1109 r (some b) (some B) (some (B + 95)) (some (B + 141)) (I ((7 * k : Nat) : Int))) g2 g3 g4 g5 g7
  have e : p_L_law_b1056 r (some b) (some B) (some (B + 95)) (some (B + 141)) (I ((7 * k : Nat) : Int)) H = p_L_law_b1109 r (some b) (some B) (some (B + 95)) (some (B + 141)) (I ((7 * k : Nat) : Int)) H2 := by
    rw [← tl]
    simp only [p_L_law_b1056, z_b, g1, x1, s1, u1]
  rw [e]
  exact hK H2 A' g5 (g6.trans hD)

theorem lk_correct (S : ST H B nc A) (hnc : nc < 512) (hD : zD H = D) (hb : D.2.2.1 = b) (hL : D.2.2.2.1 ≤ 3584) (hi : 7 * k + 6 < D.2.2.2.1) (r : Option Nat → Option Nat → Option Nat → Option Nat → Int32 → ZM Int32) (hK : ∀ H2 A', ST H2 B (nc + 1) A' → zD H2 = D → Gd B (p_L_law_b1892 r (some b) (some B) (some (B + 95)) (some (B + 141)) (I ((7 * k : Nat) : Int)) H2)) : Gd B (p_L_law_b1112 r (some b) (some B) (some (B + 95)) (some (B + 141)) (I ((7 * k : Nat) : Int)) H) := by
  obtain ⟨dw, sl, rs, al, os, bs, ig, tl, sy, dr, t⟩ := A
  obtain ⟨A', H1, H2, v, c1, c2, c3, c4, c5⟩ := call_correct S hnc
  have e1 : z_vr 12 (some B) (p_X11_correct (some B)) H = some (v, H1) := (if_pos S.kk.2.2).trans c1
  have e2 : z_vr 13 (some (B + 95)) (p_X12_correct (some (B + 95))) H1 = some (v, H2) := (if_pos c5).trans c2
  have e : p_L_law_b1112 r (some b) (some B) (some (B + 95)) (some (B + 141)) (I ((7 * k : Nat) : Int)) H = p_L_law_b1892 r (some b) (some B) (some (B + 95)) (some (B + 141)) (I ((7 * k : Nat) : Int)) H2 := by
    simp only [p_L_law_b1112, z_b, ite_ap, e1, e2, if_true]
  rw [e]
  exact hK H2 A' c3 (c4.trans hD)

theorem lk_length (S : ST H B nc A) (hnc : nc < 512) (hD : zD H = D) (hb : D.2.2.1 = b) (hL : D.2.2.2.1 ≤ 3584) (hi : 7 * k + 6 < D.2.2.2.1) (r : Option Nat → Option Nat → Option Nat → Option Nat → Int32 → ZM Int32) (hK : ∀ H2 A', ST H2 B (nc + 1) A' → zD H2 = D → Gd B (p_L_law_b1892 r (some b) (some B) (some (B + 95)) (some (B + 141)) (I ((7 * k : Nat) : Int)) H2)) : Gd B (p_L_law_b1125 r (some b) (some B) (some (B + 95)) (some (B + 141)) (I ((7 * k : Nat) : Int)) H) := by
  obtain ⟨dw, sl, rs, al, os, bs, ig, tl, sy, dr, t⟩ := A
  obtain ⟨A', H1, H2, v, c1, c2, c3, c4, c5⟩ := call_length S hnc
  have e1 : z_vr 12 (some B) (p_X11_length (some B)) H = some (v, H1) := (if_pos S.kk.2.2).trans c1
  have e2 : z_vr 13 (some (B + 95)) (p_X12_length (some (B + 95))) H1 = some (v, H2) := (if_pos c5).trans c2
  have e : p_L_law_b1125 r (some b) (some B) (some (B + 95)) (some (B + 141)) (I ((7 * k : Nat) : Int)) H = p_L_law_b1892 r (some b) (some B) (some (B + 95)) (some (B + 141)) (I ((7 * k : Nat) : Int)) H2 := by
    simp only [p_L_law_b1125, z_b, ite_ap, e1, e2, if_true]
  rw [e]
  exact hK H2 A' c3 (c4.trans hD)

theorem lk_signAt (S : ST H B nc A) (hnc : nc < 512) (hD : zD H = D) (hb : D.2.2.1 = b) (hL : D.2.2.2.1 ≤ 3584) (hi : 7 * k + 6 < D.2.2.2.1) (r : Option Nat → Option Nat → Option Nat → Option Nat → Int32 → ZM Int32) (hK : ∀ H2 A', ST H2 B (nc + 1) A' → zD H2 = D → Gd B (p_L_law_b1892 r (some b) (some B) (some (B + 95)) (some (B + 141)) (I ((7 * k : Nat) : Int)) H2)) : Gd B (p_L_law_b1138 r (some b) (some B) (some (B + 95)) (some (B + 141)) (I ((7 * k : Nat) : Int)) H) := by
  obtain ⟨dw, sl, rs, al, os, bs, ig, tl, sy, dr, t⟩ := A
  have x1 : I ((7 * k : Nat) : Int) + 1 = I ((7 * k + 1 : Nat) : Int) := ix1 k 1
  obtain ⟨A', H1, H2, kk, bb, g1, g2, g3, g4, g5, g6, g7, g8⟩ := call_signAt S hnc (D.2.2.2.2 (7 * k + 1))
  have s1 := sA hD hb hL (i := 7 * k + 1) (by omega)
  have u1 := sA (g8.trans hD) hb hL (i := 7 * k + 1) (by omega)
  have tl := tail_i (K := p_L_law_b1191 r (some b) (some B) (some (B + 95)) (some (B + 141)) (I ((7 * k : Nat) : Int))) g2 g3 g4 g5 g7
  have e : p_L_law_b1138 r (some b) (some B) (some (B + 95)) (some (B + 141)) (I ((7 * k : Nat) : Int)) H = p_L_law_b1191 r (some b) (some B) (some (B + 95)) (some (B + 141)) (I ((7 * k : Nat) : Int)) H2 := by
    rw [← tl]
    simp only [p_L_law_b1138, z_b, g1, x1, s1, u1]
  rw [e]
  exact hK H2 A' g5 (g6.trans hD)

theorem lk_words (S : ST H B nc A) (hnc : nc < 512) (hD : zD H = D) (hb : D.2.2.1 = b) (hL : D.2.2.2.1 ≤ 3584) (hi : 7 * k + 6 < D.2.2.2.1) (r : Option Nat → Option Nat → Option Nat → Option Nat → Int32 → ZM Int32) (hK : ∀ H2 A', ST H2 B (nc + 1) A' → zD H2 = D → Gd B (p_L_law_b1892 r (some b) (some B) (some (B + 95)) (some (B + 141)) (I ((7 * k : Nat) : Int)) H2)) : Gd B (p_L_law_b1194 r (some b) (some B) (some (B + 95)) (some (B + 141)) (I ((7 * k : Nat) : Int)) H) := by
  obtain ⟨dw, sl, rs, al, os, bs, ig, tl, sy, dr, t⟩ := A
  obtain ⟨A', H1, H2, v, c1, c2, c3, c4, c5⟩ := call_words S hnc
  have e1 : z_vr 12 (some B) (p_X11_words (some B)) H = some (v, H1) := (if_pos S.kk.2.2).trans c1
  have e2 : z_vr 13 (some (B + 95)) (p_X12_words (some (B + 95))) H1 = some (v, H2) := (if_pos c5).trans c2
  have e : p_L_law_b1194 r (some b) (some B) (some (B + 95)) (some (B + 141)) (I ((7 * k : Nat) : Int)) H = p_L_law_b1892 r (some b) (some B) (some (B + 95)) (some (B + 141)) (I ((7 * k : Nat) : Int)) H2 := by
    simp only [p_L_law_b1194, z_b, ite_ap, e1, e2, if_true]
  rw [e]
  exact hK H2 A' c3 (c4.trans hD)

theorem lk_wordAt (S : ST H B nc A) (hnc : nc < 512) (hD : zD H = D) (hb : D.2.2.1 = b) (hL : D.2.2.2.1 ≤ 3584) (hi : 7 * k + 6 < D.2.2.2.1) (r : Option Nat → Option Nat → Option Nat → Option Nat → Int32 → ZM Int32) (hK : ∀ H2 A', ST H2 B (nc + 1) A' → zD H2 = D → Gd B (p_L_law_b1892 r (some b) (some B) (some (B + 95)) (some (B + 141)) (I ((7 * k : Nat) : Int)) H2)) : Gd B (p_L_law_b1207 r (some b) (some B) (some (B + 95)) (some (B + 141)) (I ((7 * k : Nat) : Int)) H) := by
  obtain ⟨dw, sl, rs, al, os, bs, ig, tl, sy, dr, t⟩ := A
  have x1 : I ((7 * k : Nat) : Int) + 1 = I ((7 * k + 1 : Nat) : Int) := ix1 k 1
  obtain ⟨A', H1, H2, kk, bb, g1, g2, g3, g4, g5, g6, g7, g8⟩ := call_wordAt S hnc (D.2.2.2.2 (7 * k + 1))
  have s1 := sA hD hb hL (i := 7 * k + 1) (by omega)
  have u1 := sA (g8.trans hD) hb hL (i := 7 * k + 1) (by omega)
  have tl := tail_i (K := p_L_law_b1260 r (some b) (some B) (some (B + 95)) (some (B + 141)) (I ((7 * k : Nat) : Int))) g2 g3 g4 g5 g7
  have e : p_L_law_b1207 r (some b) (some B) (some (B + 95)) (some (B + 141)) (I ((7 * k : Nat) : Int)) H = p_L_law_b1260 r (some b) (some B) (some (B + 95)) (some (B + 141)) (I ((7 * k : Nat) : Int)) H2 := by
    rw [← tl]
    simp only [p_L_law_b1207, z_b, g1, x1, s1, u1]
  rw [e]
  exact hK H2 A' g5 (g6.trans hD)

theorem Z01_isRight (v0 : Option Nat) (v1 : Int32) : Z01 (p_X12_isRight v0 v1) :=
  Z01.b (fun _ => Z01.ite (Z01.rz _) (Z01.b (fun _ => Z01.b (fun _ => Z01.ite (Z01.rz _) (Z01.rz _)))))

theorem lk_isRight (S : ST H B nc A) (hnc : nc < 512) (hD : zD H = D) (hb : D.2.2.1 = b) (hL : D.2.2.2.1 ≤ 3584) (hi : 7 * k + 6 < D.2.2.2.1) (r : Option Nat → Option Nat → Option Nat → Option Nat → Int32 → ZM Int32) (hK : ∀ H2 A', ST H2 B (nc + 1) A' → zD H2 = D → Gd B (p_L_law_b1892 r (some b) (some B) (some (B + 95)) (some (B + 141)) (I ((7 * k : Nat) : Int)) H2)) : Gd B (p_L_law_b1263 r (some b) (some B) (some (B + 95)) (some (B + 141)) (I ((7 * k : Nat) : Int)) H) := by
  obtain ⟨dw, sl, rs, al, os, bs, ig, tl, sy, dr, t⟩ := A
  have x1 : I ((7 * k : Nat) : Int) + 1 = I ((7 * k + 1 : Nat) : Int) := ix1 k 1
  obtain ⟨A', H1, H2, kk, bb, g1, g2, g3, g4, g5, g6, g7, g8⟩ := call_isRight S hnc (D.2.2.2.2 (7 * k + 1))
  have s1 := sA hD hb hL (i := 7 * k + 1) (by omega)
  have u1 := sA (g8.trans hD) hb hL (i := 7 * k + 1) (by omega)
  have tl := tail_b (K := p_L_law_b1323 r (some b) (some B) (some (B + 95)) (some (B + 141)) (I ((7 * k : Nat) : Int))) (Z01_isRight _ _) g2 g3 g4 g5 g7
  have e : p_L_law_b1263 r (some b) (some B) (some (B + 95)) (some (B + 141)) (I ((7 * k : Nat) : Int)) H = p_L_law_b1323 r (some b) (some B) (some (B + 95)) (some (B + 141)) (I ((7 * k : Nat) : Int)) H2 := by
    rw [← tl]
    simp only [p_L_law_b1263, z_b, g1, x1, s1, u1, p_L_law_b1317]
  rw [e]
  exact hK H2 A' g5 (g6.trans hD)

theorem lk_readings (S : ST H B nc A) (hnc : nc < 512) (hD : zD H = D) (hb : D.2.2.1 = b) (hL : D.2.2.2.1 ≤ 3584) (hi : 7 * k + 6 < D.2.2.2.1) (r : Option Nat → Option Nat → Option Nat → Option Nat → Int32 → ZM Int32) (hK : ∀ H2 A', ST H2 B (nc + 1) A' → zD H2 = D → Gd B (p_L_law_b1892 r (some b) (some B) (some (B + 95)) (some (B + 141)) (I ((7 * k : Nat) : Int)) H2)) : Gd B (p_L_law_b1326 r (some b) (some B) (some (B + 95)) (some (B + 141)) (I ((7 * k : Nat) : Int)) H) := by
  obtain ⟨dw, sl, rs, al, os, bs, ig, tl, sy, dr, t⟩ := A
  have x1 : I ((7 * k : Nat) : Int) + 1 = I ((7 * k + 1 : Nat) : Int) := ix1 k 1
  obtain ⟨A', H1, H2, kk, bb, g1, g2, g3, g4, g5, g6, g7, g8⟩ := call_readings S hnc (D.2.2.2.2 (7 * k + 1))
  have s1 := sA hD hb hL (i := 7 * k + 1) (by omega)
  have u1 := sA (g8.trans hD) hb hL (i := 7 * k + 1) (by omega)
  have tl := tail_i (K := p_L_law_b1379 r (some b) (some B) (some (B + 95)) (some (B + 141)) (I ((7 * k : Nat) : Int))) g2 g3 g4 g5 g7
  have e : p_L_law_b1326 r (some b) (some B) (some (B + 95)) (some (B + 141)) (I ((7 * k : Nat) : Int)) H = p_L_law_b1379 r (some b) (some B) (some (B + 95)) (some (B + 141)) (I ((7 * k : Nat) : Int)) H2 := by
    rw [← tl]
    simp only [p_L_law_b1326, z_b, g1, x1, s1, u1]
  rw [e]
  exact hK H2 A' g5 (g6.trans hD)

theorem lk_reading (S : ST H B nc A) (hnc : nc < 512) (hD : zD H = D) (hb : D.2.2.1 = b) (hL : D.2.2.2.1 ≤ 3584) (hi : 7 * k + 6 < D.2.2.2.1) (r : Option Nat → Option Nat → Option Nat → Option Nat → Int32 → ZM Int32) (hK : ∀ H2 A', ST H2 B (nc + 1) A' → zD H2 = D → Gd B (p_L_law_b1892 r (some b) (some B) (some (B + 95)) (some (B + 141)) (I ((7 * k : Nat) : Int)) H2)) : Gd B (p_L_law_b1382 r (some b) (some B) (some (B + 95)) (some (B + 141)) (I ((7 * k : Nat) : Int)) H) := by
  obtain ⟨dw, sl, rs, al, os, bs, ig, tl, sy, dr, t⟩ := A
  have x1 : I ((7 * k : Nat) : Int) + 1 = I ((7 * k + 1 : Nat) : Int) := ix1 k 1
  obtain ⟨A', H1, H2, kk, bb, g1, g2, g3, g4, g5, g6, g7, g8⟩ := call_reading S hnc (D.2.2.2.2 (7 * k + 1))
  have s1 := sA hD hb hL (i := 7 * k + 1) (by omega)
  have u1 := sA (g8.trans hD) hb hL (i := 7 * k + 1) (by omega)
  have tl := tail_i (K := p_L_law_b1435 r (some b) (some B) (some (B + 95)) (some (B + 141)) (I ((7 * k : Nat) : Int))) g2 g3 g4 g5 g7
  have e : p_L_law_b1382 r (some b) (some B) (some (B + 95)) (some (B + 141)) (I ((7 * k : Nat) : Int)) H = p_L_law_b1435 r (some b) (some B) (some (B + 95)) (some (B + 141)) (I ((7 * k : Nat) : Int)) H2 := by
    rw [← tl]
    simp only [p_L_law_b1382, z_b, g1, x1, s1, u1]
  rw [e]
  exact hK H2 A' g5 (g6.trans hD)

theorem lk_split (S : ST H B nc A) (hnc : nc < 512) (hD : zD H = D) (hb : D.2.2.1 = b) (hL : D.2.2.2.1 ≤ 3584) (hi : 7 * k + 6 < D.2.2.2.1) (r : Option Nat → Option Nat → Option Nat → Option Nat → Int32 → ZM Int32) (hK : ∀ H2 A', ST H2 B (nc + 1) A' → zD H2 = D → Gd B (p_L_law_b1892 r (some b) (some B) (some (B + 95)) (some (B + 141)) (I ((7 * k : Nat) : Int)) H2)) : Gd B (p_L_law_b1438 r (some b) (some B) (some (B + 95)) (some (B + 141)) (I ((7 * k : Nat) : Int)) H) := by
  obtain ⟨dw, sl, rs, al, os, bs, ig, tl, sy, dr, t⟩ := A
  have x1 : I ((7 * k : Nat) : Int) + 1 = I ((7 * k + 1 : Nat) : Int) := ix1 k 1
  obtain ⟨A', H1, H2, kk, bb, g1, g2, g3, g4, g5, g6, g7, g8⟩ := call_split S hnc (D.2.2.2.2 (7 * k + 1))
  have s1 := sA hD hb hL (i := 7 * k + 1) (by omega)
  have u1 := sA (g8.trans hD) hb hL (i := 7 * k + 1) (by omega)
  have tl := tail_i (K := p_L_law_b1491 r (some b) (some B) (some (B + 95)) (some (B + 141)) (I ((7 * k : Nat) : Int))) g2 g3 g4 g5 g7
  have e : p_L_law_b1438 r (some b) (some B) (some (B + 95)) (some (B + 141)) (I ((7 * k : Nat) : Int)) H = p_L_law_b1491 r (some b) (some B) (some (B + 95)) (some (B + 141)) (I ((7 * k : Nat) : Int)) H2 := by
    rw [← tl]
    simp only [p_L_law_b1438, z_b, g1, x1, s1, u1]
  rw [e]
  exact hK H2 A' g5 (g6.trans hD)

theorem lk_mistakes (S : ST H B nc A) (hnc : nc < 512) (hD : zD H = D) (hb : D.2.2.1 = b) (hL : D.2.2.2.1 ≤ 3584) (hi : 7 * k + 6 < D.2.2.2.1) (r : Option Nat → Option Nat → Option Nat → Option Nat → Int32 → ZM Int32) (hK : ∀ H2 A', ST H2 B (nc + 1) A' → zD H2 = D → Gd B (p_L_law_b1892 r (some b) (some B) (some (B + 95)) (some (B + 141)) (I ((7 * k : Nat) : Int)) H2)) : Gd B (p_L_law_b1494 r (some b) (some B) (some (B + 95)) (some (B + 141)) (I ((7 * k : Nat) : Int)) H) := by
  obtain ⟨dw, sl, rs, al, os, bs, ig, tl, sy, dr, t⟩ := A
  obtain ⟨A', H1, H2, v, c1, c2, c3, c4, c5⟩ := call_mistakes S hnc
  have e1 : z_vr 12 (some B) (p_X11_mistakes (some B)) H = some (v, H1) := (if_pos S.kk.2.2).trans c1
  have e2 : z_vr 13 (some (B + 95)) (p_X12_mistakes (some (B + 95))) H1 = some (v, H2) := (if_pos c5).trans c2
  have e : p_L_law_b1494 r (some b) (some B) (some (B + 95)) (some (B + 141)) (I ((7 * k : Nat) : Int)) H = p_L_law_b1892 r (some b) (some B) (some (B + 95)) (some (B + 141)) (I ((7 * k : Nat) : Int)) H2 := by
    simp only [p_L_law_b1494, z_b, ite_ap, e1, e2, if_true]
  rw [e]
  exact hK H2 A' c3 (c4.trans hD)

theorem lk_mistakeKind (S : ST H B nc A) (hnc : nc < 512) (hD : zD H = D) (hb : D.2.2.1 = b) (hL : D.2.2.2.1 ≤ 3584) (hi : 7 * k + 6 < D.2.2.2.1) (r : Option Nat → Option Nat → Option Nat → Option Nat → Int32 → ZM Int32) (hK : ∀ H2 A', ST H2 B (nc + 1) A' → zD H2 = D → Gd B (p_L_law_b1892 r (some b) (some B) (some (B + 95)) (some (B + 141)) (I ((7 * k : Nat) : Int)) H2)) : Gd B (p_L_law_b1507 r (some b) (some B) (some (B + 95)) (some (B + 141)) (I ((7 * k : Nat) : Int)) H) := by
  obtain ⟨dw, sl, rs, al, os, bs, ig, tl, sy, dr, t⟩ := A
  have x1 : I ((7 * k : Nat) : Int) + 1 = I ((7 * k + 1 : Nat) : Int) := ix1 k 1
  obtain ⟨A', H1, H2, kk, bb, g1, g2, g3, g4, g5, g6, g7, g8⟩ := call_mistakeKind S hnc (D.2.2.2.2 (7 * k + 1))
  have s1 := sA hD hb hL (i := 7 * k + 1) (by omega)
  have u1 := sA (g8.trans hD) hb hL (i := 7 * k + 1) (by omega)
  have tl := tail_i (K := p_L_law_b1560 r (some b) (some B) (some (B + 95)) (some (B + 141)) (I ((7 * k : Nat) : Int))) g2 g3 g4 g5 g7
  have e : p_L_law_b1507 r (some b) (some B) (some (B + 95)) (some (B + 141)) (I ((7 * k : Nat) : Int)) H = p_L_law_b1560 r (some b) (some B) (some (B + 95)) (some (B + 141)) (I ((7 * k : Nat) : Int)) H2 := by
    rw [← tl]
    simp only [p_L_law_b1507, z_b, g1, x1, s1, u1]
  rw [e]
  exact hK H2 A' g5 (g6.trans hD)

theorem lk_mistakeAt (S : ST H B nc A) (hnc : nc < 512) (hD : zD H = D) (hb : D.2.2.1 = b) (hL : D.2.2.2.1 ≤ 3584) (hi : 7 * k + 6 < D.2.2.2.1) (r : Option Nat → Option Nat → Option Nat → Option Nat → Int32 → ZM Int32) (hK : ∀ H2 A', ST H2 B (nc + 1) A' → zD H2 = D → Gd B (p_L_law_b1892 r (some b) (some B) (some (B + 95)) (some (B + 141)) (I ((7 * k : Nat) : Int)) H2)) : Gd B (p_L_law_b1563 r (some b) (some B) (some (B + 95)) (some (B + 141)) (I ((7 * k : Nat) : Int)) H) := by
  obtain ⟨dw, sl, rs, al, os, bs, ig, tl, sy, dr, t⟩ := A
  have x1 : I ((7 * k : Nat) : Int) + 1 = I ((7 * k + 1 : Nat) : Int) := ix1 k 1
  obtain ⟨A', H1, H2, kk, bb, g1, g2, g3, g4, g5, g6, g7, g8⟩ := call_mistakeAt S hnc (D.2.2.2.2 (7 * k + 1))
  have s1 := sA hD hb hL (i := 7 * k + 1) (by omega)
  have u1 := sA (g8.trans hD) hb hL (i := 7 * k + 1) (by omega)
  have tl := tail_i (K := p_L_law_b1616 r (some b) (some B) (some (B + 95)) (some (B + 141)) (I ((7 * k : Nat) : Int))) g2 g3 g4 g5 g7
  have e : p_L_law_b1563 r (some b) (some B) (some (B + 95)) (some (B + 141)) (I ((7 * k : Nat) : Int)) H = p_L_law_b1616 r (some b) (some B) (some (B + 95)) (some (B + 141)) (I ((7 * k : Nat) : Int)) H2 := by
    rw [← tl]
    simp only [p_L_law_b1563, z_b, g1, x1, s1, u1]
  rw [e]
  exact hK H2 A' g5 (g6.trans hD)

theorem lk_suggestions (S : ST H B nc A) (hnc : nc < 512) (hD : zD H = D) (hb : D.2.2.1 = b) (hL : D.2.2.2.1 ≤ 3584) (hi : 7 * k + 6 < D.2.2.2.1) (r : Option Nat → Option Nat → Option Nat → Option Nat → Int32 → ZM Int32) (hK : ∀ H2 A', ST H2 B (nc + 1) A' → zD H2 = D → Gd B (p_L_law_b1892 r (some b) (some B) (some (B + 95)) (some (B + 141)) (I ((7 * k : Nat) : Int)) H2)) : Gd B (p_L_law_b1619 r (some b) (some B) (some (B + 95)) (some (B + 141)) (I ((7 * k : Nat) : Int)) H) := by
  obtain ⟨dw, sl, rs, al, os, bs, ig, tl, sy, dr, t⟩ := A
  have x1 : I ((7 * k : Nat) : Int) + 1 = I ((7 * k + 1 : Nat) : Int) := ix1 k 1
  obtain ⟨A', H1, H2, kk, bb, g1, g2, g3, g4, g5, g6, g7, g8⟩ := call_suggestions S hnc (D.2.2.2.2 (7 * k + 1))
  have s1 := sA hD hb hL (i := 7 * k + 1) (by omega)
  have u1 := sA (g8.trans hD) hb hL (i := 7 * k + 1) (by omega)
  have tl := tail_i (K := p_L_law_b1672 r (some b) (some B) (some (B + 95)) (some (B + 141)) (I ((7 * k : Nat) : Int))) g2 g3 g4 g5 g7
  have e : p_L_law_b1619 r (some b) (some B) (some (B + 95)) (some (B + 141)) (I ((7 * k : Nat) : Int)) H = p_L_law_b1672 r (some b) (some B) (some (B + 95)) (some (B + 141)) (I ((7 * k : Nat) : Int)) H2 := by
    rw [← tl]
    simp only [p_L_law_b1619, z_b, g1, x1, s1, u1]
  rw [e]
  exact hK H2 A' g5 (g6.trans hD)

theorem lk_suggestionsByAll (S : ST H B nc A) (hnc : nc < 512) (hD : zD H = D) (hb : D.2.2.1 = b) (hL : D.2.2.2.1 ≤ 3584) (hi : 7 * k + 6 < D.2.2.2.1) (r : Option Nat → Option Nat → Option Nat → Option Nat → Int32 → ZM Int32) (hK : ∀ H2 A', ST H2 B (nc + 1) A' → zD H2 = D → Gd B (p_L_law_b1892 r (some b) (some B) (some (B + 95)) (some (B + 141)) (I ((7 * k : Nat) : Int)) H2)) : Gd B (p_L_law_b1675 r (some b) (some B) (some (B + 95)) (some (B + 141)) (I ((7 * k : Nat) : Int)) H) := by
  obtain ⟨dw, sl, rs, al, os, bs, ig, tl, sy, dr, t⟩ := A
  have x1 : I ((7 * k : Nat) : Int) + 1 = I ((7 * k + 1 : Nat) : Int) := ix1 k 1
  obtain ⟨A', H1, H2, kk, bb, g1, g2, g3, g4, g5, g6, g7, g8⟩ := call_suggestionsByAll S hnc (D.2.2.2.2 (7 * k + 1))
  have s1 := sA hD hb hL (i := 7 * k + 1) (by omega)
  have u1 := sA (g8.trans hD) hb hL (i := 7 * k + 1) (by omega)
  have tl := tail_i (K := p_L_law_b1728 r (some b) (some B) (some (B + 95)) (some (B + 141)) (I ((7 * k : Nat) : Int))) g2 g3 g4 g5 g7
  have e : p_L_law_b1675 r (some b) (some B) (some (B + 95)) (some (B + 141)) (I ((7 * k : Nat) : Int)) H = p_L_law_b1728 r (some b) (some B) (some (B + 95)) (some (B + 141)) (I ((7 * k : Nat) : Int)) H2 := by
    rw [← tl]
    simp only [p_L_law_b1675, z_b, g1, x1, s1, u1]
  rw [e]
  exact hK H2 A' g5 (g6.trans hD)

theorem lk_cost (S : ST H B nc A) (hnc : nc < 512) (hD : zD H = D) (hb : D.2.2.1 = b) (hL : D.2.2.2.1 ≤ 3584) (hi : 7 * k + 6 < D.2.2.2.1) (r : Option Nat → Option Nat → Option Nat → Option Nat → Int32 → ZM Int32) (hK : ∀ H2 A', ST H2 B (nc + 1) A' → zD H2 = D → Gd B (p_L_law_b1892 r (some b) (some B) (some (B + 95)) (some (B + 141)) (I ((7 * k : Nat) : Int)) H2)) : Gd B (p_L_law_b1731 r (some b) (some B) (some (B + 95)) (some (B + 141)) (I ((7 * k : Nat) : Int)) H) := by
  obtain ⟨dw, sl, rs, al, os, bs, ig, tl, sy, dr, t⟩ := A
  have x1 : I ((7 * k : Nat) : Int) + 1 = I ((7 * k + 1 : Nat) : Int) := ix1 k 1
  have x2 : I ((7 * k : Nat) : Int) + 2 = I ((7 * k + 2 : Nat) : Int) := ix1 k 2
  obtain ⟨A', H1, H2, kk, bb, g1, g2, g3, g4, g5, g6, g7, g8⟩ := call_cost S hnc (D.2.2.2.2 (7 * k + 1)) (D.2.2.2.2 (7 * k + 2))
  have s1 := sA hD hb hL (i := 7 * k + 1) (by omega)
  have u1 := sA (g8.trans hD) hb hL (i := 7 * k + 1) (by omega)
  have s2 := sA hD hb hL (i := 7 * k + 2) (by omega)
  have u2 := sA (g8.trans hD) hb hL (i := 7 * k + 2) (by omega)
  have tl := tail_i (K := p_L_law_b1796 r (some b) (some B) (some (B + 95)) (some (B + 141)) (I ((7 * k : Nat) : Int))) g2 g3 g4 g5 g7
  have e : p_L_law_b1731 r (some b) (some B) (some (B + 95)) (some (B + 141)) (I ((7 * k : Nat) : Int)) H = p_L_law_b1796 r (some b) (some B) (some (B + 95)) (some (B + 141)) (I ((7 * k : Nat) : Int)) H2 := by
    rw [← tl]
    simp only [p_L_law_b1731, z_b, g1, x1, x2, s1, u1, s2, u2]
  rw [e]
  exact hK H2 A' g5 (g6.trans hD)

theorem lk_suggested (S : ST H B nc A) (hnc : nc < 512) (hD : zD H = D) (hb : D.2.2.1 = b) (hL : D.2.2.2.1 ≤ 3584) (hi : 7 * k + 6 < D.2.2.2.1) (r : Option Nat → Option Nat → Option Nat → Option Nat → Int32 → ZM Int32) (hK : ∀ H2 A', ST H2 B (nc + 1) A' → zD H2 = D → Gd B (p_L_law_b1892 r (some b) (some B) (some (B + 95)) (some (B + 141)) (I ((7 * k : Nat) : Int)) H2)) : Gd B (p_L_law_b1799 r (some b) (some B) (some (B + 95)) (some (B + 141)) (I ((7 * k : Nat) : Int)) H) := by
  obtain ⟨dw, sl, rs, al, os, bs, ig, tl, sy, dr, t⟩ := A
  have x1 : I ((7 * k : Nat) : Int) + 1 = I ((7 * k + 1 : Nat) : Int) := ix1 k 1
  have x2 : I ((7 * k : Nat) : Int) + 2 = I ((7 * k + 2 : Nat) : Int) := ix1 k 2
  have x3 : I ((7 * k : Nat) : Int) + 3 = I ((7 * k + 3 : Nat) : Int) := ix1 k 3
  obtain ⟨A', H1, H2, kk, bb, g1, g2, g3, g4, g5, g6, g7, g8⟩ := call_suggested S hnc (D.2.2.2.2 (7 * k + 1)) (D.2.2.2.2 (7 * k + 2)) (D.2.2.2.2 (7 * k + 3))
  have s1 := sA hD hb hL (i := 7 * k + 1) (by omega)
  have u1 := sA (g8.trans hD) hb hL (i := 7 * k + 1) (by omega)
  have s2 := sA hD hb hL (i := 7 * k + 2) (by omega)
  have u2 := sA (g8.trans hD) hb hL (i := 7 * k + 2) (by omega)
  have s3 := sA hD hb hL (i := 7 * k + 3) (by omega)
  have u3 := sA (g8.trans hD) hb hL (i := 7 * k + 3) (by omega)
  have tl := tail_i (K := p_L_law_b1876 r (some b) (some B) (some (B + 95)) (some (B + 141)) (I ((7 * k : Nat) : Int))) g2 g3 g4 g5 g7
  have e : p_L_law_b1799 r (some b) (some B) (some (B + 95)) (some (B + 141)) (I ((7 * k : Nat) : Int)) H = p_L_law_b1876 r (some b) (some B) (some (B + 95)) (some (B + 141)) (I ((7 * k : Nat) : Int)) H2 := by
    rw [← tl]
    simp only [p_L_law_b1799, z_b, g1, x1, x2, x3, s1, u1, s2, u2, s3, u3]
  rw [e]
  exact hK H2 A' g5 (g6.trans hD)

theorem lk_made (S : ST H B nc A) (hnc : nc < 512) (hD : zD H = D) (hb : D.2.2.1 = b) (hL : D.2.2.2.1 ≤ 3584) (hi : 7 * k + 6 < D.2.2.2.1) (r : Option Nat → Option Nat → Option Nat → Option Nat → Int32 → ZM Int32) (hK : ∀ H2 A', ST H2 B (nc + 1) A' → zD H2 = D → Gd B (p_L_law_b1892 r (some b) (some B) (some (B + 95)) (some (B + 141)) (I ((7 * k : Nat) : Int)) H2)) : Gd B (p_L_law_b1879 r (some b) (some B) (some (B + 95)) (some (B + 141)) (I ((7 * k : Nat) : Int)) H) := by
  obtain ⟨dw, sl, rs, al, os, bs, ig, tl, sy, dr, t⟩ := A
  obtain ⟨A', H1, H2, v, c1, c2, c3, c4, c5⟩ := call_made S hnc
  have e1 : z_vr 12 (some B) (p_X11_made (some B)) H = some (v, H1) := (if_pos S.kk.2.2).trans c1
  have e2 : z_vr 13 (some (B + 95)) (p_X12_made (some (B + 95))) H1 = some (v, H2) := (if_pos c5).trans c2
  have e : p_L_law_b1879 r (some b) (some B) (some (B + 95)) (some (B + 141)) (I ((7 * k : Nat) : Int)) H = p_L_law_b1892 r (some b) (some B) (some (B + 95)) (some (B + 141)) (I ((7 * k : Nat) : Int)) H2 := by
    simp only [p_L_law_b1879, z_b, ite_ap, e1, e2, if_true]
  rw [e]
  exact hK H2 A' c3 (c4.trans hD)

theorem lk_rule (S : ST H B nc A) (hnc : nc < 512) (hD : zD H = D) (hb : D.2.2.1 = b) (hL : D.2.2.2.1 ≤ 3584) (hi : 7 * k + 6 < D.2.2.2.1) (r : Option Nat → Option Nat → Option Nat → Option Nat → Int32 → ZM Int32) (hK : ∀ H2 A', ST H2 B (nc + 1) A' → zD H2 = D → Gd B (p_L_law_b1892 r (some b) (some B) (some (B + 95)) (some (B + 141)) (I ((7 * k : Nat) : Int)) H2)) : Gd B (p_L_law_b343 r (some b) (some B) (some (B + 95)) (some (B + 141)) (I ((7 * k : Nat) : Int)) H) := by
  obtain ⟨dw, sl, rs, al, os, bs, ig, tl, sy, dr, t⟩ := A
  obtain ⟨c4, hc4, ec4⟩ := chr_of (D.2.2.2.2 (7 * k + 4))
  have x1 : I ((7 * k : Nat) : Int) + 1 = I ((7 * k + 1 : Nat) : Int) := ix1 k 1
  have x2 : I ((7 * k : Nat) : Int) + 2 = I ((7 * k + 2 : Nat) : Int) := ix1 k 2
  have x3 : I ((7 * k : Nat) : Int) + 3 = I ((7 * k + 3 : Nat) : Int) := ix1 k 3
  have x4 : I ((7 * k : Nat) : Int) + 4 = I ((7 * k + 4 : Nat) : Int) := ix1 k 4
  have x5 : I ((7 * k : Nat) : Int) + 5 = I ((7 * k + 5 : Nat) : Int) := ix1 k 5
  have x6 : I ((7 * k : Nat) : Int) + 6 = I ((7 * k + 6 : Nat) : Int) := ix1 k 6
  have s1 := sA hD hb hL (i := 7 * k + 1) (by omega)
  have s2 := sA hD hb hL (i := 7 * k + 2) (by omega)
  have s3 := sA hD hb hL (i := 7 * k + 3) (by omega)
  have s4 := sA hD hb hL (i := 7 * k + 4) (by omega)
  have s5 := sA hD hb hL (i := 7 * k + 5) (by omega)
  have s6 := sA hD hb hL (i := 7 * k + 6) (by omega)
  have key : ∀ z : Int32, (z = 0 ∨ z = 1) → (∀ f g : ZM Int32, (if D.2.2.2.2 (7 * k + 2) = 0 then f else g) = if z = 0 then f else g) → Gd B (p_L_law_b364 r (some b) (some B) (some (B + 95)) (some (B + 141)) (I ((7 * k : Nat) : Int)) (some B) (D.2.2.2.2 (7 * k + 1)) z H) := by
    intro z hz hif
    obtain ⟨A', H1, H2, kk, bb, g1, g2, g3, g4, g5, g6, g7, g8⟩ := call_rule S hnc (D.2.2.2.2 (7 * k + 1)) z (D.2.2.2.2 (7 * k + 3)) (D.2.2.2.2 (7 * k + 5)) (D.2.2.2.2 (7 * k + 6)) hz hc4
    have u1 := sA (g8.trans hD) hb hL (i := 7 * k + 1) (by omega)
    have u2 := sA (g8.trans hD) hb hL (i := 7 * k + 2) (by omega)
    have u3 := sA (g8.trans hD) hb hL (i := 7 * k + 3) (by omega)
    have u4 := sA (g8.trans hD) hb hL (i := 7 * k + 4) (by omega)
    have u5 := sA (g8.trans hD) hb hL (i := 7 * k + 5) (by omega)
    have u6 := sA (g8.trans hD) hb hL (i := 7 * k + 6) (by omega)
    have tl := tail_i (K := p_L_law_b476 r (some b) (some B) (some (B + 95)) (some (B + 141)) (I ((7 * k : Nat) : Int))) g2 g3 g4 g5 g7
    have e417 : p_L_law_b417 r (some b) (some B) (some (B + 95)) (some (B + 141)) (I ((7 * k : Nat) : Int)) kk (some (B + 95)) (D.2.2.2.2 (7 * k + 1)) z H1 = p_L_law_b476 r (some b) (some B) (some (B + 95)) (some (B + 141)) (I ((7 * k : Nat) : Int)) H2 := by
      rw [← tl]
      simp only [p_L_law_b417, z_b, x3, x4, x5, x6, u3, u4, u5, u6, ec4]
    have e : p_L_law_b364 r (some b) (some B) (some (B + 95)) (some (B + 141)) (I ((7 * k : Nat) : Int)) (some B) (D.2.2.2.2 (7 * k + 1)) z H = p_L_law_b476 r (some b) (some B) (some (B + 95)) (some (B + 141)) (I ((7 * k : Nat) : Int)) H2 := by
      rw [← e417]
      simp only [p_L_law_b364, z_b, x1, x2, x3, x4, x5, x6, s3, s4, s5, s6, ec4, g1, u1, u2]
      rw [hif]
      rcases hz with rfl | rfl
      · rw [if_pos rfl]
      · rw [if_neg (by decide)]
    rw [e]
    exact hK H2 A' g5 (g6.trans hD)
  by_cases q : D.2.2.2.2 (7 * k + 2) = 0
  · have e : p_L_law_b343 r (some b) (some B) (some (B + 95)) (some (B + 141)) (I ((7 * k : Nat) : Int)) H = p_L_law_b364 r (some b) (some B) (some (B + 95)) (some (B + 141)) (I ((7 * k : Nat) : Int)) (some B) (D.2.2.2.2 (7 * k + 1)) 0 H := by
      simp only [p_L_law_b343, z_b, x1, x2, s1, s2, q, if_true]
    rw [e]
    exact key 0 (Or.inl rfl) (fun f g => by rw [if_pos q, if_pos rfl])
  · have e : p_L_law_b343 r (some b) (some B) (some (B + 95)) (some (B + 141)) (I ((7 * k : Nat) : Int)) H = p_L_law_b364 r (some b) (some B) (some (B + 95)) (some (B + 141)) (I ((7 * k : Nat) : Int)) (some B) (D.2.2.2.2 (7 * k + 1)) 1 H := by
      simp only [p_L_law_b343, z_b, x1, x2, s1, s2, q, if_false]
    rw [e]
    exact key 1 (Or.inr rfl) (fun f g => by rw [if_neg q, if_neg (by decide)])
end
