section
variable {H H' H1 : ZH} {B nc : Nat} {f f' : FI} {g g' : FL} {dw dw' : Wd} {sl sl' : List St} {rs rs' : List Ru} {al al' : Nat → Nat → Bool} {os bs ig os' bs' ig' : List Ow} {tl tl' : Nat → Nat} {sy sy' : List Sty} {dr dr' : List It} {t t' : List Nat} {lo lb li lo' lb' li' : Bk} {wl wl' : List Wd}
/-- what the reference's part says, piece by piece, when some of its cells change -/
theorem MC.comps {ss as : List Nat} (S : MSh H B) (m : MC f g B dw sl rs al os bs ig tl sy dr t) (F : MFr f f' g g' (arM B) (B + 95) ss as) (h3 : ∀ i ∈ as, (mSz i).1 ≠ 0) :
    (0 ∉ ss → g' (B + 95) 0 = J (mN dw)) ∧ (1 ∉ ss → (∀ j ∈ [2, 3, 4, 5, 6], j ∉ as) → SsM f' g' (arM B) (B + 95) sl) ∧ (7 ∉ ss → (∀ j ∈ [8, 9, 10, 11, 12, 13, 14, 15], j ∉ as) → RsM f' g' (arM B) (B + 95) rs) ∧ (16 ∉ as → AlM f' (arM B) al) ∧
    (17 ∉ ss → (∀ j ∈ [18, 19], j ∉ as) → OwM f' g' (arM B) (B + 95) os) ∧ (20 ∉ ss → 21 ∉ as → BaM f' g' (arM B) (B + 95) bs) ∧ (22 ∉ ss → (∀ j ∈ [23, 24], j ∉ as) → IgM f' g' (arM B) (B + 95) ig) ∧ (25 ∉ as → ToldC f' (arM B 25) tl) ∧
    (26 ∉ ss → (∀ j ∈ [27, 28, 29, 30, 31], j ∉ as) → SyM f' g' (arM B) (B + 95) sy) ∧ ((∀ j ∈ [15, 27, 28, 29], j ∉ as) → DrM f' g' (arM B) dr ∧ ∀ i, rs.length ≤ i → f' (arM B 15) i = 0) ∧ (32 ∉ ss → 33 ∉ as → TxM f' (arM B) (B + 95) t) ∧
    (34 ∉ ss → 35 ∉ ss → (∀ j ∈ [36, 37, 38, 39], j ∉ as) → f' (B + 95) 34 = 1 ∧ TC f' g' (arM B) (B + 95) (madeOf rs sl []) ∨ f' (B + 95) 34 = 0) := by
  have e : ∀ j, (mSz j).1 ≠ 0 → j ∉ as → f' (arM B j) = f (arM B j) ∧ g' (arM B j) = g (arM B j) := fun j hj hm => F.at_ S.1 hj hm h3
  have c : ∀ j, j ∉ ss → f' (B + 95) j = f (B + 95) j ∧ g' (B + 95) j = g (B + 95) j := fun j hj => F.1 j hj
  obtain ⟨m1, m2, m3, m4, m5, m6, m7, m8, m9, m10, m11, m12⟩ := m
  refine ⟨fun h => ?_, fun h h' => ?_, fun h h' => ?_, fun h => ?_, fun h h' => ?_, fun h h' => ?_, fun h h' => ?_, fun h => ?_, fun h h' => ?_, fun h => ?_, fun h h' => ?_, fun h h' h'' => ?_⟩
  · rw [(c 0 h).2]; exact m1
  · unfold SsM StM at *
    rw [(c 1 h).1, (e 2 (by decide) (h' 2 (by simp))).2, (e 3 (by decide) (h' 3 (by simp))).1, (e 4 (by decide) (h' 4 (by simp))).1, (e 5 (by decide) (h' 5 (by simp))).1, (e 6 (by decide) (h' 6 (by simp))).1]; exact m2
  · unfold RsM RuM at *
    rw [(c 7 h).1, (e 8 (by decide) (h' 8 (by simp))).1, (e 9 (by decide) (h' 9 (by simp))).1, (e 10 (by decide) (h' 10 (by simp))).1, (e 11 (by decide) (h' 11 (by simp))).2, (e 12 (by decide) (h' 12 (by simp))).1, (e 13 (by decide) (h' 13 (by simp))).1, (e 14 (by decide) (h' 14 (by simp))).1, (e 15 (by decide) (h' 15 (by simp))).1]; exact m3
  · unfold AlM at *; rw [(e 16 (by decide) h).1]; exact m4
  · unfold OwM at *
    rw [(c 17 h).1, (e 18 (by decide) (h' 18 (by simp))).2, (e 19 (by decide) (h' 19 (by simp))).1]; exact m5
  · unfold BaM at *
    rw [(c 20 h).1, (e 21 (by decide) h').2]; exact m6
  · unfold IgM at *
    rw [(c 22 h).1, (e 23 (by decide) (h' 23 (by simp))).2, (e 24 (by decide) (h' 24 (by simp))).1]; exact m7
  · unfold ToldC at *; rw [(e 25 (by decide) h).1]; exact m8
  · unfold SyM StyM at *
    rw [(c 26 h).1, (e 27 (by decide) (h' 27 (by simp))).1, (e 28 (by decide) (h' 28 (by simp))).2, (e 29 (by decide) (h' 29 (by simp))).1, (e 30 (by decide) (h' 30 (by simp))).1, (e 31 (by decide) (h' 31 (by simp))).2]; exact m9
  · unfold DrM at *
    rw [(e 15 (by decide) (h 15 (by simp))).1, (e 27 (by decide) (h 27 (by simp))).1, (e 28 (by decide) (h 28 (by simp))).2, (e 29 (by decide) (h 29 (by simp))).1]; exact m10
  · unfold TxM at *
    rw [(c 32 h).1, (e 33 (by decide) h').1]; exact m11
  · unfold TC TbIs at *
    rw [(c 34 h).1, (c 35 h').1, (e 36 (by decide) (h'' 36 (by simp))).2, (e 37 (by decide) (h'' 37 (by simp))).1, (e 38 (by decide) (h'' 38 (by simp))).1, (e 39 (by decide) (h'' 39 (by simp))).1]; exact m12
/-- the class's part after what was found is forgotten -/
theorem CC.re (c : CC f B dw sl rs al os bs ig tl sy t lo lb li wl) (hd : f' B 10 = I (cN dw')) (h11 : f' B 11 = 0) (h12 : f' B 12 = -1) (hA : AlC f' (B + 26) al') (hT : ToldC f' (B + 39) tl') (h : ∀ b, B < b → b < B + 92 → b ≠ B + 26 → b ≠ B + 39 → f' b = f b) : CC f' B dw' sl rs al' os bs ig tl' sy' t lo lb li wl := by
  obtain ⟨c1, c2, c3, c4, c5, c6, c7, c8, c9, c10⟩ := c
  refine ⟨hd, c2.fr (fun a h1 h2 => h a (by omega) (by omega) (by omega) (by omega)), c3, c4, hA, hT, c7.fr (fun a h1 h2 => h a (by omega) (by omega) (by omega) (by omega)), ?_, Or.inl h11, Or.inl h12⟩
  rw [h (B + 71) (by omega) (by omega) (by omega) (by omega), h (B + 73) (by omega) (by omega) (by omega) (by omega)]; exact c8
def fgt (f : FI) (B : Nat) : FI := zu (zu f B 11 0) B 12 (-1)
theorem fgt_ne {b : Nat} (h : b ≠ B) : fgt f B b = f b := (zu_ne h _ _).trans (zu_ne h _ _)
theorem fgt_j {j : Nat} (h1 : j ≠ 11) (h2 : j ≠ 12) : fgt f B B j = f B j := by unfold fgt; rw [zu_cell, if_neg h2, zu_cell, if_neg h1]
theorem fgt_11 : fgt f B B 11 = 0 := by unfold fgt; rw [zu_cell, if_neg (by decide), zu_same]
theorem fgt_12 : fgt f B B 12 = -1 := zu_same _ _ _ _
theorem forget_eq (C : CSh H B) : p_X11_forgetAnswers (some B) (hI H f) = some ((), hI H (fgt f B)) := by
  simp only [p_X11_forgetAnswers, z_b, z_rt, x_pZ C 11 (Or.inl rfl), x_pI C]
  rfl
theorem call_tell (S : ST H B nc (dw, sl, rs, al, os, bs, ig, tl, sy, dr, t)) (hnc : nc < 512) (x x2 x3 : Int32) : Call H B nc (p_L_tell (some B) x x2 x3 (some (B + 141))) (p_X12_tell (some (B + 95)) x x2 x3) := by
  obtain ⟨⟨lo, lb, li, wl, C⟩, M, ok, hT, hN⟩ := S
  obtain ⟨z, rfl, hz⟩ := int_of x
  obtain ⟨y, rfl, hy⟩ := int_of x2
  obtain ⟨p, rfl, hp⟩ := int_of x3
  have cc := C.2.2.2.1
  have n1 : ¬ ((1 : Int32) = 0) := by decide
  have r3 : ∀ u : Int, (-2147483648 ≤ u ∧ u < 2147483648) → (((0 : Int32) ≤ I u ∧ I u ≤ 3) ↔ (0 ≤ u ∧ u < 4)) := fun u hu => by
    rw [lit, lit, I_le (by decide) hu, I_le hu (by decide)]; omega
  have r2 : ((0 : Int32) ≤ I p ∧ I p ≤ 2) ↔ (0 ≤ p ∧ p < 3) := by
    rw [lit, lit, I_le (by decide) hp, I_le hp (by decide)]; omega
  have c1 : ∀ h, p_X11_isIn (I z) 0 3 h = some (if 0 ≤ z ∧ z < 4 then 1 else 0, h) := fun h => by rw [isIn_eq]; simp only [r3 z hz]
  have c2 : ∀ h, p_X11_isIn (I y) 0 3 h = some (if 0 ≤ y ∧ y < 4 then 1 else 0, h) := fun h => by rw [isIn_eq]; simp only [r3 y hy]
  have c3 : ∀ h, p_X11_isIn (I p) 0 2 h = some (if 0 ≤ p ∧ p < 3 then 1 else 0, h) := fun h => by rw [isIn_eq]; simp only [r2]
  have d1 : ∀ h, p_X12_in (I z) 0 3 h = some (if 0 ≤ z ∧ z < 4 then 1 else 0, h) := fun h => by rw [min_eq]; simp only [r3 z hz]
  have d2 : ∀ h, p_X12_in (I y) 0 3 h = some (if 0 ≤ y ∧ y < 4 then 1 else 0, h) := fun h => by rw [min_eq]; simp only [r3 y hy]
  have d3 : ∀ h, p_X12_in (I p) 0 2 h = some (if 0 ≤ p ∧ p < 3 then 1 else 0, h) := fun h => by rw [min_eq]; simp only [r2]
  have refuse : ¬ ((0 ≤ z ∧ z < 4) ∧ (0 ≤ y ∧ y < 4) ∧ (0 ≤ p ∧ p < 3)) → p_X11_tell (some B) (I z) (I y) (I p) = p_X11_tell_b27 ∧ p_X12_tell (some (B + 95)) (I z) (I y) (I p) = p_X12_tell_b32 (some (B + 95)) (I z) (I y) (I p) (some (B + 95)) := fun q => by
    constructor <;> funext h
    · simp only [p_X11_tell, z_b, ite_ap, c1, c2, c3]
      by_cases u1 : 0 ≤ z ∧ z < 4
      · rw [if_pos u1, if_neg n1]
        by_cases u2 : 0 ≤ y ∧ y < 4
        · rw [if_pos u2, if_neg n1, if_neg (fun u3 => q ⟨u1, u2, u3⟩), if_neg (fun y => y rfl)]
        · rw [if_neg u2, if_pos rfl]
      · rw [if_neg u1, if_pos rfl]
    · simp only [p_X12_tell, z_b, ite_ap, d1, d2, d3]
      by_cases u1 : 0 ≤ z ∧ z < 4
      · rw [if_pos u1, if_neg n1]
        by_cases u2 : 0 ≤ y ∧ y < 4
        · rw [if_pos u2, if_neg n1, if_neg (fun u3 => q ⟨u1, u2, u3⟩), if_pos rfl]
        · rw [if_neg u2, if_pos rfl]
      · rw [if_neg u1, if_pos rfl]
  by_cases q : (0 ≤ z ∧ z < 4) ∧ (0 ≤ y ∧ y < 4) ∧ (0 ≤ p ∧ p < 3)
  · obtain ⟨q1, q2, q3⟩ := q
    obtain ⟨a, rfl⟩ : ∃ i : Nat, z = i := ⟨z.toNat, by omega⟩
    obtain ⟨b, rfl⟩ : ∃ i : Nat, y = i := ⟨y.toNat, by omega⟩
    obtain ⟨k, rfl⟩ : ∃ i : Nat, p = i := ⟨p.toNat, by omega⟩
    have ix : a * 4 + b < 16 := by omega
    have e1 : I (a : Int) * 4 + I (b : Int) = I ((a * 4 + b : Nat) : Int) := by rw [show (4 : Int32) = I ((4 : Nat) : Int) from rfl, I_mn, I_an]
    have e2 : 4 * I (a : Int) + I (b : Int) = I ((a * 4 + b : Nat) : Int) := by rw [show (4 : Int32) = I ((4 : Nat) : Int) from rfl, I_mn, I_an, Nat.mul_comm]
    have told : ∀ (f : FI) (A : Nat), ToldC f A tl → ToldC (zu f A (a * 4 + b) (I k)) A (fun i => if i = a * 4 + b then k else tl i) := fun f A T i hi => by
      rw [zu_cell]
      by_cases u : i = a * 4 + b
      · show _ = I ((if i = a * 4 + b then k else tl i : Nat) : Int) ∧ (if i = a * 4 + b then k else tl i) ≤ 2
        rw [if_pos u, if_pos u]; exact ⟨rfl, by omega⟩
      · show _ = I ((if i = a * 4 + b then k else tl i : Nat) : Int) ∧ (if i = a * 4 + b then k else tl i) ≤ 2
        rw [if_neg u, if_neg u]; exact T i hi
    have fr : ∀ b', b' ≠ B → b' ≠ B + 39 → zu (fgt (zI H) B) (B + 39) (a * 4 + b) (I k) b' = zI H b' := fun b' h1 h2 => (zu_ne h2 _ _).trans (fgt_ne h1)
    have hB : zu (fgt (zI H) B) (B + 39) (a * 4 + b) (I k) B = fgt (zI H) B B := zu_ne (by omega) _ _
    have c' : CC (zu (fgt (zI H) B) (B + 39) (a * 4 + b) (I k)) B dw sl rs al os bs ig (fun i => if i = a * 4 + b then k else tl i) sy t lo lb li wl := by
      refine cc.re ?_ ?_ ?_ ?_ ?_ (fun b' h1 h2 h3 h4 => fr b' (by omega) h4)
      · rw [hB, fgt_j (by decide) (by decide)]; exact cc.1
      · rw [hB]; exact fgt_11
      · rw [hB]; exact fgt_12
      · have := cc.2.2.2.2.1
        unfold AlC at *; rw [fr (B + 26) (by omega) (by omega)]; exact this
      · exact told _ _ (by
          have := cc.2.2.2.2.2.1
          unfold ToldC at *; rw [fgt_ne (by omega)]; exact this)
    refine call_ok (H1 := hI H (zu (fgt (zI H) B) (B + 39) (a * 4 + b) (I k))) (v := I (tl (a * 4 + b))) rfl hnc C M hT hN ?_ (KC.ints (fun b' h1 h2 => fr b' (by omega) (by omega))) (C.ints c' (fun b' hb => fr b' (fun q => hb (AA_mem.mpr (by omega))) (fun q => hb (AA_mem.mpr (by omega))))) (ok.up hnc) (fun Hm Mm => ?_)
    · have vr2 : ∀ (α : Type) (k : ZM α), z_vr 1 (some (B + cRf 2)) k (hI H (fgt (zI H) B)) = k (hI H (fgt (zI H) B)) := fun α k => o_vr C.1.og k
      have hv : fgt (zI H) B (arL (B + 37) 0) (a * 4 + b) = I (tl (a * 4 + b)) := by
        rw [fgt_ne (by unfold arL; omega)]
        exact (cc.2.2.2.2.2.1 _ ix).1
      have ct : p_X0_changeTold (some (B + cRf 2)) (I a) (I b) (I k) (hI H (fgt (zI H) B)) = some (I (tl (a * 4 + b)), hI H (zu (fgt (zI H) B) (B + 39) (a * 4 + b) (I k))) := by
        show p_X0_changeTold (some (B + 37)) (I a) (I b) (I k) (hI H (fgt (zI H) B)) = _
        simp only [p_X0_changeTold, z_b, z_rt, e1, o_gR C.1.og 0 (by decide), o_rv C.1.og 0 (by decide), o_get C.1.og 0 16 rfl ix, o_set C.1.og 0 16 rfl ix, hv]
        rfl
      show p_X11_tell (some B) (I (a : Int)) (I (b : Int)) (I (k : Int)) (hI H (zI H)) = some (Sum.inl _, _)
      simp only [p_X11_tell, z_b, z_rt, ite_ap, c1, c2, c3]
      rw [if_pos q1, if_neg n1, if_pos q2, if_neg n1, if_pos q3, if_pos n1]
      simp only [x_vr C.1, forget_eq C.1, x_gR C.1 2 (by decide), vr2, ct, z_xrt]
    · have m := Mm.1.1
      have M0 : MS (hM Hm (zu (zI Hm) (B + 95) 58 0) (zL Hm)) B dw sl rs al os bs ig tl sy dr t := Mm.pI (Or.inl rfl)
      have F1 : MFr (zu (zI Hm) (B + 95) 58 0) (zu (zu (zI Hm) (B + 95) 58 0) (arM B 25) (a * 4 + b) (I k)) (zL Hm) (zL Hm) (arM B) (B + 95) [] [25] := ⟨fun j _ => ⟨by rw [zu_ne (Ne.symm (m.2.1 25 (by decide)).2.2)], rfl⟩, fun b' h1 h2 => ⟨zu_ne (fun q => h2 (by simp [q])) _ _, rfl⟩⟩
      have cp := MC.comps Mm.1 M0.2 F1 (by decide)
      obtain ⟨k1, k2, k3, k4, k5, k6, k7, k8, k9, k10, k11, k12⟩ := cp
      have tl0 : ToldC (zu (zI Hm) (B + 95) 58 0) (arM B 25) tl := M0.2.2.2.2.2.2.2.2.1
      refine ⟨hM Hm (zu (zu (zI Hm) (B + 95) 58 0) (arM B 25) (a * 4 + b) (I k)) (zL Hm), ?_, (KM.pI 58 0).trans (KM.mk_ (H := hM Hm (zu (zI Hm) (B + 95) 58 0) (zL Hm)) m F1 (by decide)), ⟨Mm.1, k1 (by decide), k2 (by decide) (by decide), k3 (by decide) (by decide), k4 (by decide), k5 (by decide) (by decide), k6 (by decide) (by decide), k7 (by decide) (by decide), told _ _ tl0, k9 (by decide) (by decide), k10 (by decide), k11 (by decide) (by decide), k12 (by decide) (by decide) (by decide)⟩, ?_⟩
      · have g0 : (0 : Int32) ≤ 0 := by decide
        show p_X12_tell (some (B + 95)) (I (a : Int)) (I (b : Int)) (I (k : Int)) (hM Hm (zI Hm) (zL Hm)) = _
        simp only [p_X12_tell, p_X12_tell_b33, z_b, z_rt, ite_ap, d1, d2, d3]
        rw [if_pos q1, if_neg n1, if_pos q2, if_neg n1, if_pos q3, if_neg n1]
        simp only [m_pI m, m_gI m, zu_same, g0, if_true, e2, m_gR m 25 (by decide), m_aI m 25 16 (by decide) ix (by decide), m_sI m 25 16 (by decide) ix (by decide), (tl0 _ ix).1]
      · show zu (zu (zI Hm) (B + 95) 58 0) (arM B 25) (a * 4 + b) (I k) (B + 95) 58 = 0
        rw [zu_ne (Ne.symm (m.2.1 25 (by decide)).2.2), zu_same]
  · obtain ⟨t1, t2⟩ := refuse q
    refine call_th (kk := 1) hnc C M ok hT hN (n := 0) ?_ rfl (by decide) (fun Hm Mm => ?_)
    · rw [t1]; rfl
    · have m := Mm.1.1
      refine ⟨hM Hm (zu (zI Hm) (B + 95) 58 1) (zL Hm), 0, ?_, KM.pI _ _, Mm.pI (Or.inl rfl), zu_same _ _ _ _⟩
      have g1 : ¬ (1 : Int32) ≤ 0 := by decide
      rw [t2]
      show p_X12_tell_b32 _ _ _ _ _ (hM Hm (zI Hm) (zL Hm)) = _
      simp only [p_X12_tell_b32, p_X12_tell_b33, z_b, z_rt, ite_ap, m_pI m, m_gI m, zu_same, g1, if_false]
end
