/-- a kind or a form, or none -/
def op (z : Int) : Option Nat := if z = -1 then none else some z.toNat
theorem oz_op {z : Int} (h : -1 ≤ z) : oz (op z) = z := by
  unfold op
  by_cases q : z = -1
  · rw [if_pos q, q]; rfl
  · rw [if_neg q]
    show ((z.toNat : Nat) : Int) = z
    omega
theorem op_le {z : Int} {n : Nat} (h : z ≤ n) : ∀ b, op z = some b → b ≤ n := fun b hb => by
  unfold op at hb
  by_cases q : z = -1
  · rw [if_pos q] at hb; cases hb
  · rw [if_neg q] at hb
    cases hb; omega
/-- a border, or none -/
def bo (c : Nat) : Option Nat := if c = 32 then none else some (c - 97)
section
variable {H H' H1 : ZH} {B nc : Nat} {f f' : FI} {g g' : FL} {dw dw' : Wd} {sl sl' : List St} {rs rs' : List Ru} {al al' : Nat → Nat → Bool} {os bs ig os' bs' ig' : List Ow} {tl tl' : Nat → Nat} {sy sy' : List Sty} {dr dr' : List It} {t t' : List Nat} {lo lb li lo' lb' li' : Bk} {wl wl' : List Wd}
theorem mrule {Hm : ZH} (Mm : MS Hm B dw sl rs al os bs ig tl sy dr t) {k1 k3 c : Nat} {z5 z6 : Int} {x2 : Int32} (hx2 : x2 = 0 ∨ x2 = 1) (hc : c < 65536) (q3 : c = 32 ∨ 97 ≤ c ∧ c ≤ 104) (q4 : -1 ≤ z5) (q5 : -1 ≤ z6) (hl : rs.length < 8) {r : Ru} (hr : ((k1, (if x2 = 1 then true else false), k3, bo c, dw, op z5, op z6, 0) : Ru) = r) (rok : RuOk r) :
    ∃ H2, p_X12_rule_b98 (some (B + 95)) (I (k1 : Int)) x2 (I (k3 : Int)) (I c) (I z5) (I z6) (some (B + 95)) Hm = some (I rs.length, H2) ∧ KM Hm H2 B ∧ MS H2 B [] sl (rs ++ [r]) al os bs ig tl sy dr t ∧ zI H2 (B + 95) 58 = 0 := by
  have e32 : (I (c : Int) = 32) ↔ c = 32 := I_eqN (k := 32) (by omega) (by decide)
  have m7 : ∀ Hm, MS Hm B dw sl rs al os bs ig tl sy dr t → z_gI 13 7 (some (B + 95)) Hm = some (I rs.length, Hm) := fun Hm Mm => (m_gI (f := zI Hm) (g := zL Hm) Mm.1.1 7).trans (by rw [Mm.2.2.2.1.1]; rfl)
  have c8' : (I (rs.length : Int) = 8) ↔ rs.length = 8 := I_eqN (k := 8) (by omega) (by decide)
  have m := Mm.1.1
  have M0 : MS (hM Hm (zu (zI Hm) (B + 95) 58 0) (zL Hm)) B dw sl rs al os bs ig tl sy dr t := Mm.pI (Or.inl rfl)
  have nn : ∀ j, (mSz j).1 ≠ 0 → arM B j ≠ B + 95 := fun j hj => (m.2.1 j hj).2.2
  have inj : ∀ i j, (mSz i).1 ≠ 0 → (mSz j).1 ≠ 0 → i ≠ j → arM B i ≠ arM B j := fun i j hi hj hij e => hij (m.2.2 i j hi hj e)
  let n := rs.length
  let vB : Int32 := if ¬ I (c : Int) = 32 then (I (c : Int) - 97) + 1 else 0
  let vE : Int32 := if x2 = 0 then 0 else 1
  let fa := zu (zu (zu (zu (zu (zu (zu (zI Hm) (B + 95) 58 0) (arM B 8) n (I k1)) (arM B 9) n vE) (arM B 10) n (I k3)) (arM B 12) n vB) (arM B 13) n (I z5)) (arM B 14) n (I z6)
  let ga := zu (zL Hm) (arM B 11) n (J (mN dw))
  let fb := zu (zu fa (B + 95) 7 (I ((n + 1 : Nat) : Int))) (B + 95) 34 0
  have F : MFr (zu (zI Hm) (B + 95) 58 0) fb (zL Hm) ga (arM B) (B + 95) [7, 34] [8, 9, 10, 11, 12, 13, 14] := by
    refine ⟨fun j hj => ⟨?_, by rw [show ga (B + 95) = zL Hm (B + 95) from zu_ne (nn 11 (by decide)).symm _ _]⟩, fun b' g1 g2 => ⟨?_, zu_ne (fun q => g2 (by simp [q])) _ _⟩⟩
    · show zu (zu fa (B + 95) 7 _) (B + 95) 34 0 (B + 95) j = _
      rw [zu_cell, if_neg (fun q => hj (by simp [q])), zu_cell, if_neg (fun q => hj (by simp [q]))]
      show zu (zu (zu (zu (zu (zu _ (arM B 8) n _) (arM B 9) n _) (arM B 10) n _) (arM B 12) n _) (arM B 13) n _) (arM B 14) n _ (B + 95) j = _
      rw [zu_ne (nn 14 (by decide)).symm, zu_ne (nn 13 (by decide)).symm, zu_ne (nn 12 (by decide)).symm, zu_ne (nn 10 (by decide)).symm, zu_ne (nn 9 (by decide)).symm, zu_ne (nn 8 (by decide)).symm]
    · show zu (zu fa (B + 95) 7 _) (B + 95) 34 0 b' = _
      rw [zu_ne g1, zu_ne g1]
      show zu (zu (zu (zu (zu (zu _ (arM B 8) n _) (arM B 9) n _) (arM B 10) n _) (arM B 12) n _) (arM B 13) n _) (arM B 14) n _ b' = _
      rw [zu_ne (fun q => g2 (by simp [q])), zu_ne (fun q => g2 (by simp [q])), zu_ne (fun q => g2 (by simp [q])), zu_ne (fun q => g2 (by simp [q])), zu_ne (fun q => g2 (by simp [q])), zu_ne (fun q => g2 (by simp [q]))]
  obtain ⟨k1', k2'', k3', k4', k5, k6, k7, k8, k9, k10, k11, k12⟩ := MC.comps Mm.1 M0.2 F (by decide)
  have S0 : RsM (zu (zI Hm) (B + 95) 58 0) (zL Hm) (arM B) (B + 95) rs := M0.2.2.2.1
  have hz15 := M0.2.2.2.2.2.2.2.2.2.2.1.2
  -- the arrays after
  have at_ : ∀ j, (mSz j).1 ≠ 0 → fb (arM B j) = zu (zu (zu (zu (zu (zu (zu (zI Hm) (B + 95) 58 0) (arM B 8) n (I k1)) (arM B 9) n vE) (arM B 10) n (I k3)) (arM B 12) n vB) (arM B 13) n (I z5)) (arM B 14) n (I z6) (arM B j) := fun j hj => by
    show zu (zu fa (B + 95) 7 _) (B + 95) 34 0 (arM B j) = _
    rw [zu_ne (nn j hj), zu_ne (nn j hj)]
  have v8 : fb (arM B 8) = zu (zu (zI Hm) (B + 95) 58 0) (arM B 8) n (I k1) (arM B 8) := by
    rw [at_ 8 (by decide), zu_ne (inj 8 14 (by decide) (by decide) (by decide)), zu_ne (inj 8 13 (by decide) (by decide) (by decide)), zu_ne (inj 8 12 (by decide) (by decide) (by decide)), zu_ne (inj 8 10 (by decide) (by decide) (by decide)), zu_ne (inj 8 9 (by decide) (by decide) (by decide))]
  have v9 : fb (arM B 9) = zu (zu (zI Hm) (B + 95) 58 0) (arM B 9) n vE (arM B 9) := by
    rw [at_ 9 (by decide), zu_ne (inj 9 14 (by decide) (by decide) (by decide)), zu_ne (inj 9 13 (by decide) (by decide) (by decide)), zu_ne (inj 9 12 (by decide) (by decide) (by decide)), zu_ne (inj 9 10 (by decide) (by decide) (by decide))]
    funext j; rw [zu_cell, zu_cell, zu_ne (inj 9 8 (by decide) (by decide) (by decide))]
  have v10 : fb (arM B 10) = zu (zu (zI Hm) (B + 95) 58 0) (arM B 10) n (I k3) (arM B 10) := by
    rw [at_ 10 (by decide), zu_ne (inj 10 14 (by decide) (by decide) (by decide)), zu_ne (inj 10 13 (by decide) (by decide) (by decide)), zu_ne (inj 10 12 (by decide) (by decide) (by decide))]
    funext j; rw [zu_cell, zu_cell, zu_ne (inj 10 9 (by decide) (by decide) (by decide)), zu_ne (inj 10 8 (by decide) (by decide) (by decide))]
  have v12 : fb (arM B 12) = zu (zu (zI Hm) (B + 95) 58 0) (arM B 12) n vB (arM B 12) := by
    rw [at_ 12 (by decide), zu_ne (inj 12 14 (by decide) (by decide) (by decide)), zu_ne (inj 12 13 (by decide) (by decide) (by decide))]
    funext j; rw [zu_cell, zu_cell, zu_ne (inj 12 10 (by decide) (by decide) (by decide)), zu_ne (inj 12 9 (by decide) (by decide) (by decide)), zu_ne (inj 12 8 (by decide) (by decide) (by decide))]
  have v13 : fb (arM B 13) = zu (zu (zI Hm) (B + 95) 58 0) (arM B 13) n (I z5) (arM B 13) := by
    rw [at_ 13 (by decide), zu_ne (inj 13 14 (by decide) (by decide) (by decide))]
    funext j; rw [zu_cell, zu_cell, zu_ne (inj 13 12 (by decide) (by decide) (by decide)), zu_ne (inj 13 10 (by decide) (by decide) (by decide)), zu_ne (inj 13 9 (by decide) (by decide) (by decide)), zu_ne (inj 13 8 (by decide) (by decide) (by decide))]
  have v14 : fb (arM B 14) = zu (zu (zI Hm) (B + 95) 58 0) (arM B 14) n (I z6) (arM B 14) := by
    rw [at_ 14 (by decide)]
    funext j; rw [zu_cell, zu_cell, zu_ne (inj 14 13 (by decide) (by decide) (by decide)), zu_ne (inj 14 12 (by decide) (by decide) (by decide)), zu_ne (inj 14 10 (by decide) (by decide) (by decide)), zu_ne (inj 14 9 (by decide) (by decide) (by decide)), zu_ne (inj 14 8 (by decide) (by decide) (by decide))]
  have v15 : fb (arM B 15) = zu (zI Hm) (B + 95) 58 0 (arM B 15) := (F.at_ m (j := 15) (by decide) (by decide) (by decide)).1
  have evE : vE = (if (if x2 = 1 then true else false) = true then 1 else 0) := by
    show (if x2 = 0 then (0 : Int32) else 1) = _
    rcases hx2 with rfl | rfl <;> rfl
  have evB : vB = I (wb (bo c)) := by
    show (if ¬ I (c : Int) = 32 then (I (c : Int) - 97) + 1 else 0) = _
    unfold bo
    by_cases u : c = 32
    · rw [if_neg (fun y => y (e32.mpr u)), if_pos u]; rfl
    · have := q3.resolve_left u
      rw [if_pos (fun y => u (e32.mp y)), if_neg u, show (97 : Int32) = I ((97 : Nat) : Int) from rfl, I_sn _ _ (by omega)]
      exact I_add _ 1
  have S1 : RsM fb ga (arM B) (B + 95) (rs ++ [r]) := by
    refine ⟨?_, by rw [List.length_append, List.length_singleton]; omega, fun i hi => ?_⟩
    · show zu (zu fa (B + 95) 7 _) (B + 95) 34 0 (B + 95) 7 = _
      rw [zu_cell, if_neg (by decide), zu_same, List.length_append]; rfl
    · rw [List.length_append, List.length_singleton] at hi
      by_cases e : i < rs.length
      · obtain ⟨s, s1, s2, s3⟩ := S0.2.2 i e
        refine ⟨s, by rw [List.getElem?_append_left e]; exact s1, ?_, s3⟩
        have ne : ¬ i = n := by show ¬ i = rs.length; omega
        have g11 : ga (arM B 11) i = zL Hm (arM B 11) i := by
          show zu (zL Hm) (arM B 11) n _ (arM B 11) i = _
          rw [zu_cell, if_neg ne]
        unfold RuM at *
        rw [v8, v9, v10, v12, v13, v14, v15, zu_cell, if_neg ne, zu_cell, if_neg ne, zu_cell, if_neg ne, zu_cell, if_neg ne, zu_cell, if_neg ne, zu_cell, if_neg ne, g11]
        exact s2
      · have e' : i = n := by show i = rs.length; omega
        refine ⟨r, by rw [e']; show (rs ++ [r])[rs.length]? = _; rw [List.getElem?_append_right (Nat.le_refl _), Nat.sub_self]; rfl, ?_, rok⟩
        unfold RuM
        rw [v8, v9, v10, v12, v13, v14, v15, e', zu_same, zu_same, zu_same, zu_same, zu_same, zu_same, evE, evB, ← hr]
        refine ⟨rfl, rfl, rfl, zu_same _ _ _ _, rfl, ?_, ?_, ?_⟩
        · show I z5 = I (oz (op z5)); rw [oz_op q4]
        · show I z6 = I (oz (op z6)); rw [oz_op q5]
        · exact hz15 n (Nat.le_refl _)
  have kD : DrM fb ga (arM B) dr ∧ ∀ i, (rs ++ [r]).length ≤ i → fb (arM B 15) i = 0 := by
    obtain ⟨y1, y2⟩ := k10 (by decide)
    exact ⟨y1, fun i hi => y2 i (by rw [List.length_append, List.length_singleton] at hi; omega)⟩
  have mc : MC fb ga B dw sl (rs ++ [r]) al os bs ig tl sy dr t := ⟨k1' (by decide), k2'' (by decide) (by decide), S1, k4' (by decide), k5 (by decide) (by decide), k6 (by decide) (by decide), k7 (by decide) (by decide), k8 (by decide), k9 (by decide) (by decide), kD, k11 (by decide) (by decide), Or.inr (zu_same _ _ _ _)⟩
  refine ⟨hM Hm fb (zu ga (B + 95) 0 (J (mN []))), ?_, ?_, ⟨Mm.1, MC.dft mc⟩, ?_⟩
  · have g00 : (0 : Int32) ≤ 0 := by decide
    have g0 : zL Hm (B + 95) 0 = J (mN dw) := Mm.2.1
    have nl : ¬ rs.length = 8 := by omega
    simp only [p_X12_rule_b98, z_b, ite_ap, m7 Hm Mm, c8']
    rw [if_pos nl]
    have c1 : zu (zI Hm) (B + 95) 58 0 (B + 95) 7 = I n := S0.1
    have c1' : ∀ a, a ≠ B + 95 → ∀ (f : FI) k v, zu f a k v (B + 95) 7 = f (B + 95) 7 := fun a ha f k v => by rw [zu_ne ha.symm]
    have n8 : n < 8 := hl
    have e1 : I (n : Int) + 1 = I ((n + 1 : Nat) : Int) := I_add _ 1
    have e2 : I ((n + 1 : Nat) : Int) - 1 = I (n : Int) := by rw [show (1 : Int32) = I ((1 : Nat) : Int) from rfl, I_sn _ _ (by omega), Nat.add_sub_cancel]
    have e0 : (0 : Int64) = J (mN []) := rfl
    have c34 : ∀ (f : FI) v, zu f (B + 95) 34 v (B + 95) 7 = f (B + 95) 7 := fun f v => by rw [zu_cell, if_neg (by decide)]
    have last : ∀ (v : Int32) (f : FI) (g : FL), f (B + 95) 7 = I n → p_X12_rule_b201 (some (B + 95)) (I z5) (I z6) (some (arM B 12)) (I n) v (hM Hm f g) = some (I n, hM Hm (zu (zu (zu (zu (zu f (arM B 12) n v) (arM B 13) n (I z5)) (arM B 14) n (I z6)) (B + 95) 7 (I ((n + 1 : Nat) : Int))) (B + 95) 34 0) (zu g (B + 95) 0 (J (mN [])))) := fun v f g hf => by
      simp only [p_X12_rule_b201, z_b, z_rt, m_sI m 12 8 (by decide) n8 (by decide), m_gR m 13 (by decide), m_gI m, c1' _ (nn 12 (by decide)), hf, m_sI m 13 8 (by decide) n8 (by decide), m_gR m 14 (by decide), c1' _ (nn 13 (by decide)), m_sI m 14 8 (by decide) n8 (by decide), c1' _ (nn 14 (by decide)), e1, m_pI m, m_pL m, m_pZ m 34 (Or.inl rfl), c34, zu_same, e2, e0]
    have mid : ∀ (v : Int32) (f : FI) (g : FL), f (B + 95) 7 = I n → g (B + 95) 0 = J (mN dw) → p_X12_rule_b151 (some (B + 95)) (I (k3 : Int)) (I (c : Int)) (I z5) (I z6) (some (arM B 9)) (I n) v (hM Hm f g) = some (I n, hM Hm (zu (zu (zu (zu (zu (zu (zu f (arM B 9) n v) (arM B 10) n (I k3)) (arM B 12) n vB) (arM B 13) n (I z5)) (arM B 14) n (I z6)) (B + 95) 7 (I ((n + 1 : Nat) : Int))) (B + 95) 34 0) (zu (zu g (arM B 11) n (J (mN dw))) (B + 95) 0 (J (mN [])))) := fun v f g hf hg => by
      simp only [p_X12_rule_b151, z_b, ite_ap, m_sI m 9 8 (by decide) n8 (by decide), m_gR m 10 (by decide), m_gI m, c1' _ (nn 9 (by decide)), hf, m_sI m 10 8 (by decide) n8 (by decide), m_gR m 11 (by decide), c1' _ (nn 10 (by decide)), m_gL m, hg, m_sL m 11 8 (by decide) n8 (by decide), m_gR m 12 (by decide)]
      have hf2 : zu (zu f (arM B 9) n v) (arM B 10) n (I k3) (B + 95) 7 = I n := by rw [c1' _ (nn 10 (by decide)), c1' _ (nn 9 (by decide)), hf]
      have lA := last (I (c : Int) - 97 + 1) _ (zu g (arM B 11) n (J (mN dw))) hf2
      have lB := last 0 _ (zu g (arM B 11) n (J (mN dw))) hf2
      rw [lA, lB]
      show _ = some (I n, hM Hm (zu (zu (zu (zu (zu (zu (zu f (arM B 9) n v) (arM B 10) n (I k3)) (arM B 12) n (if ¬ I (c : Int) = 32 then (I (c : Int) - 97) + 1 else 0)) (arM B 13) n (I z5)) (arM B 14) n (I z6)) (B + 95) 7 (I ((n + 1 : Nat) : Int))) (B + 95) 34 0) (zu (zu g (arM B 11) n (J (mN dw))) (B + 95) 0 (J (mN []))))
      by_cases u : I (c : Int) = 32
      · rw [if_neg (fun y => y u), if_neg (fun y => y u)]
      · rw [if_pos u, if_pos u]
    show p_X12_rule_b112 _ _ _ _ _ _ _ _ _ (hM Hm (zI Hm) (zL Hm)) = _
    simp only [p_X12_rule_b112, z_b, z_rt, ite_ap, m_pI m, m_gI m, zu_same, g00, if_true, m_gR m 8 (by decide), c1, m_sI m 8 8 (by decide) n8 (by decide), m_gR m 9 (by decide), c1' _ (nn 8 (by decide))]
    have hf2 : zu (zu (zI Hm) (B + 95) 58 0) (arM B 8) n (I k1) (B + 95) 7 = I n := by rw [c1' _ (nn 8 (by decide))]; exact c1
    rw [mid 0 _ (zL Hm) hf2 g0, mid 1 _ (zL Hm) hf2 g0]
    show _ = some (I n, hM Hm (zu (zu (zu (zu (zu (zu (zu (zu (zu (zI Hm) (B + 95) 58 0) (arM B 8) n (I k1)) (arM B 9) n (if x2 = 0 then 0 else 1)) (arM B 10) n (I k3)) (arM B 12) n vB) (arM B 13) n (I z5)) (arM B 14) n (I z6)) (B + 95) 7 (I ((n + 1 : Nat) : Int))) (B + 95) 34 0) (zu (zu (zL Hm) (arM B 11) n (J (mN dw))) (B + 95) 0 (J (mN []))))
    by_cases u : x2 = 0
    · rw [if_pos u, if_pos u]
    · rw [if_neg u, if_neg u]
  · exact (KM.pI 58 0).trans ((KM.mk_ (H := hM Hm (zu (zI Hm) (B + 95) 58 0) (zL Hm)) m F (by decide)).trans ⟨_, _, rfl, fun b' hb => ⟨rfl, zu_ne (by omega) _ _⟩⟩)
  · show fb (B + 95) 58 = 0
    rw [(F.1 58 (by decide)).1, zu_same]
theorem crule (C : CS H B dw sl rs al os bs ig tl sy dr t lo lb li wl) (ok : AbOk dw sl rs os bs ig sy dr t nc) (hnc : nc < 512) {k1 k3 c : Nat} {z5 z6 : Int} {x2 : Int32} (hx2 : x2 = 0 ∨ x2 = 1) (q4 : -1 ≤ z5) (q5 : -1 ≤ z6) (hl : rs.length < 8) {r : Ru} (hr : ((k1, (if x2 = 1 then true else false), k3, bo c, dw, op z5, op z6, 0) : Ru) = r) (rok : RuOk r) :
    ∃ H1 wl', p_X11_rule_b148 (some B) (I (k1 : Int)) x2 (I (k3 : Int)) (I z5) (I z6) (I (oz (bo c))) (hI H (zI H)) = some (Sum.inl (I rs.length), H1) ∧ KC H H1 B ∧ CS H1 B [] sl (rs ++ [r]) al os bs ig tl sy dr t lo lb li wl' ∧ AbOk [] sl (rs ++ [r]) os bs ig sy dr t (nc + 1) := by
  have cc := C.2.2.2.1
  obtain ⟨sz, k2⟩ := CD.rsize C.2.2.2.2
  have hB := C.2.1
  generalize ho : zT H = o
  have oB : B + 142 ≤ o := by omega
  let h1 := znew H (12, 0) 8
  have K1 : ∀ b, b < o → zK h1 b = zK H b := fun b hb => zw_ne (by omega) _
  have R1 : ∀ b, b < o → zR h1 b = zR H b := fun b hb => zw_ne (by omega) _
  have L1 : ∀ b, b < o → zL h1 b = zL H b := fun b hb => zw_ne (by omega) _
  have I1 : ∀ b, b < o → zI h1 b = zI H b := fun b hb => zw_ne (by omega) _
  have Ko : zK h1 o = (12, 0) := by rw [← ho]; exact zw_same _ _ _
  have Io : ∀ j, zI h1 o j = 0 := fun j => by rw [← ho]; show zw (zI H) (zT H) _ (zT H) j = 0; rw [zw_same]
  have C1 : CSh h1 B := C.1.mv (fun b g1 g2 => K1 b (by omega)) (fun b j g1 g2 _ _ _ _ => by rw [R1 b (by omega)])
  let f2 := zu (zI h1) B 10 (I (cN []))
  let f3 := zu (zu (zu (zu (zu (zu (zu f2 o 0 (I k1)) o 1 x2) o 2 (I k3)) o 3 (I (oz (bo c)))) o 4 (I (cN dw))) o 5 (I z5)) o 6 (I z6)
  have f3n : ∀ b, b ≠ o → f3 b = f2 b := fun b hb => by
    show zu (zu (zu (zu (zu (zu (zu f2 o 0 _) o 1 _) o 2 _) o 3 _) o 4 _) o 5 _) o 6 _ b = _
    rw [zu_ne hb, zu_ne hb, zu_ne hb, zu_ne hb, zu_ne hb, zu_ne hb, zu_ne hb]
  have f3B : ∀ b, b < o → f3 b = zu (zI H) B 10 (I (cN [])) b := fun b hb => by
    rw [f3n b (by omega)]
    show zu (zI h1) B 10 _ b = _
    by_cases e : b = B
    · subst e
      funext j
      rw [zu_cell, zu_cell, I1 b (by omega)]
    · rw [zu_ne e, zu_ne e, I1 b hb]
  have up : Up H (hI h1 f3) (zu (zI H) B 10 (I (cN []))) B := ⟨by show zT H < zT H + 1; omega, rfl, fun b hb => K1 b (by omega), fun b hb => R1 b (by omega), fun b hb => f3B b (by omega)⟩
  have So : RuIs (hI h1 f3) f3 (zT H) r := by
    rw [ho, ← hr]
    refine ⟨Ko, ?_, ?_, ?_, ?_, ?_, ?_, ?_, ?_⟩
    · show zu (zu (zu (zu (zu (zu (zu f2 o 0 _) o 1 _) o 2 _) o 3 _) o 4 _) o 5 _) o 6 _ o 0 = _
      rw [zu_cell, if_neg (by decide), zu_cell, if_neg (by decide), zu_cell, if_neg (by decide), zu_cell, if_neg (by decide), zu_cell, if_neg (by decide), zu_cell, if_neg (by decide), zu_same]
    · show zu (zu (zu (zu (zu (zu (zu f2 o 0 _) o 1 _) o 2 _) o 3 _) o 4 _) o 5 _) o 6 _ o 1 = _
      rw [zu_cell, if_neg (by decide), zu_cell, if_neg (by decide), zu_cell, if_neg (by decide), zu_cell, if_neg (by decide), zu_cell, if_neg (by decide), zu_same]
      rcases hx2 with rfl | rfl <;> rfl
    · show zu (zu (zu (zu (zu (zu (zu f2 o 0 _) o 1 _) o 2 _) o 3 _) o 4 _) o 5 _) o 6 _ o 2 = _
      rw [zu_cell, if_neg (by decide), zu_cell, if_neg (by decide), zu_cell, if_neg (by decide), zu_cell, if_neg (by decide), zu_same]
    · show zu (zu (zu (zu (zu (zu (zu f2 o 0 _) o 1 _) o 2 _) o 3 _) o 4 _) o 5 _) o 6 _ o 3 = _
      rw [zu_cell, if_neg (by decide), zu_cell, if_neg (by decide), zu_cell, if_neg (by decide), zu_same]
    · show zu (zu (zu (zu (zu (zu (zu f2 o 0 _) o 1 _) o 2 _) o 3 _) o 4 _) o 5 _) o 6 _ o 4 = _
      rw [zu_cell, if_neg (by decide), zu_cell, if_neg (by decide), zu_same]
    · show zu (zu (zu (zu (zu (zu (zu f2 o 0 _) o 1 _) o 2 _) o 3 _) o 4 _) o 5 _) o 6 _ o 5 = I (oz (op z5))
      rw [zu_cell, if_neg (by decide), zu_same, oz_op q4]
    · show zu (zu (zu (zu (zu (zu (zu f2 o 0 _) o 1 _) o 2 _) o 3 _) o 4 _) o 5 _) o 6 _ o 6 = I (oz (op z6))
      rw [zu_same, oz_op q5]
    · show zu (zu (zu (zu (zu (zu (zu f2 o 0 _) o 1 _) o 2 _) o 3 _) o 4 _) o 5 _) o 6 _ o 7 = _
      rw [zu_cell, if_neg (by decide), zu_cell, if_neg (by decide), zu_cell, if_neg (by decide), zu_cell, if_neg (by decide), zu_cell, if_neg (by decide), zu_cell, if_neg (by decide), zu_cell, if_neg (by decide)]
      show zu (zI h1) B 10 _ o 7 = _
      rw [zu_ne (by omega), Io]; rfl
  have cd0 : CD H (zu (zI H) B 10 (I (cN []))) B sl rs sy dr := C.2.2.2.2.fr (Fr.zu (AA_mem.mpr (by omega)))
  obtain ⟨h4, p1, p2, p3, p4, p5, p6, p7, p8, p9, p10, p11⟩ := CD.addR (h := hI h1 f3) cd0 hB C.2.2.1 up So (by omega)
  have T1 : zT (hI h1 f3) = zT H + 1 := rfl
  have N1 : zN (hI h1 f3) = zN H + 8 := rfl
  have ok' : AbOk [] sl (rs ++ [r]) os bs ig sy dr t (nc + 1) := by
    have u := ok.up hnc
    refine ⟨⟨isW_nil, Nat.zero_le _⟩, u.2.1, ⟨by rw [List.length_append, List.length_singleton]; omega, fun s hs => ?_⟩, u.2.2.2⟩
    rcases List.mem_append.mp hs with h | h
    · exact u.2.2.1.2 s h
    · rw [List.mem_singleton.mp h]; exact rok
  obtain ⟨f5, wl', r1, r2, r3, r4⟩ := new_ok (nc := nc) C (L := B + 3) (h4 := h4) (Or.inr rfl) (by omega) (by omega) (by omega) (by omega) p7 (fun b hb => (p8 b (by omega)).trans (K1 b (by omega))) (fun b hb hbL => (p9 b (by omega) hbL).trans (f3B b (by omega))) (fun b hb => (p10 b (by omega)).trans (L1 b (by omega))) (fun b hb1 hb2 hb3 => by
      rcases p11 b hb2 hb3 with e | e
      · exact e.trans (R1 b (by omega))
      · omega) p2 ok'
  have nO : z_nO 6 8 (hI H (zI H)) = some (some o, hI h1 (zI h1)) := by show some (some (zT H), _) = _; rw [ho]; rfl
  have td : p_X11_takeDraft (some B) (hI h1 (zI h1)) = some (I (cN dw), hI h1 f2) := by
    have e : (1 : Int32) = I (cN []) := rfl
    have e10 : zI h1 B 10 = I (cN dw) := by rw [I1 B (by omega)]; exact cc.1
    simp only [p_X11_takeDraft, z_b, z_rt, x_gI C1, x_pI C1, e10, e]
    rfl
  have pI : ∀ (j : Nat) (v : Int32) (f : FI), z_pI 6 j (some o) v (hI h1 f) = some ((), hI h1 (zu f o j v)) := fun j v f => if_pos Ko
  have pZ : ∀ (f : FI), z_pZ 6 1 (some o) x2 (hI h1 f) = some ((), hI h1 (zu f o 1 x2)) := fun f => if_pos ⟨Ko, hx2⟩
  have ini : z_ii (some o) (p_X5_init (some o) (I k1) x2 (I k3) (I (oz (bo c))) (I (cN dw)) (I z5) (I z6)) (hI h1 f2) = some ((), hI h1 f3) := by
    show p_X5_init (some o) (I k1) x2 (I k3) (I (oz (bo c))) (I (cN dw)) (I z5) (I z6) (hI h1 f2) = _
    simp only [p_X5_init, z_ii, z_b, z_rt, pI, pZ]
    rfl
  have vrH1 : ∀ (α : Type) (k : ZM α) (f : FI), z_vr 12 (some B) k (hI h1 f) = k (hI h1 f) := fun α k f => if_pos C1.1.1
  have vr3 : ∀ (α : Type) (k : ZM α), z_vr 3 (some (B + cRf 0)) k (hI h1 f3) = k (hI h1 f3) := fun α k => lx_vr C1 k
  have lx1 := C1.2.1
  have lx4 := r2.2.1
  have g30 : z_gR 3 1 (some (B + 1)) (hI h1 f3) = some (some (B + 3), hI h1 f3) := by
    have e : zR (hI h1 f3) (B + 1) 1 = some (B + 3) := lx1.2.2.1
    exact (if_pos lx1.1).trans (by rw [e])
  have g34 : z_gR 3 1 (some (B + 1)) h4 = some (some (B + 3), h4) := by
    exact (if_pos lx4.1).trans (by rw [lx4.2.2.1])
  obtain ⟨sz4, kk4⟩ := CD.rsize p2
  have sz4' : p_Jx4a65c_size_8abf5 (some (B + 3)) h4 = some (I ((rs.length + 1 : Nat) : Int), h4) := by
    have := sz4
    rw [List.length_append, List.length_singleton] at this
    exact this
  have vl1 : ∀ (α : Type) (k : ZM α), z_vr 0 (some (B + 3)) k (hI h1 f3) = k (hI h1 f3) := fun α k => if_pos ((K1 (B + 3) (by omega)).trans k2)
  have vl4 : ∀ (α : Type) (k : ZM α), z_vr 0 (some (B + 3)) k h4 = k h4 := fun α k => if_pos kk4
  have ad : p_X2_addRule (some (B + cRf 0)) (some o) (hI h1 f3) = some (I rs.length, h4) := by
    have p1' := p1
    rw [ho] at p1'
    have e1 : I ((rs.length + 1 : Nat) : Int) - 1 = I (rs.length : Int) := by rw [show (1 : Int32) = I ((1 : Nat) : Int) from rfl, I_sn _ _ (by omega), Nat.add_sub_cancel]
    show p_X2_addRule (some (B + 1)) (some o) (hI h1 f3) = _
    simp only [p_X2_addRule, z_b, z_rt, g30, vl1, p1', g34, vl4, sz4', e1]
  have gx4 : z_gR 12 0 (some B) h4 = some (some (B + cRf 0), h4) := x_gR (f := zI h4) r2 0 (by decide)
  have vr34 : ∀ (α : Type) (k : ZM α), z_vr 3 (some (B + cRf 0)) k h4 = k h4 := fun α k => lx_vr (f := zI h4) r2 k
  have vx5 : ∀ (α : Type) (k : ZM α) (f : FI), z_vr 12 (some B) k (hI h4 f) = k (hI h4 f) := fun α k f => if_pos r2.1.1
  have r1' : p_X2_remake (some (B + cRf 0)) h4 = some ((), hI h4 f5) := r1
  have fg : p_X11_forgetAnswers (some B) (hI h4 f5) = some ((), hI h4 (fgt f5 B)) := forget_eq r2
  refine ⟨hI h4 (fgt f5 B), wl', ?_, r3, r4, ok'⟩
  show p_X11_rule_b148 (some B) (I (k1 : Int)) x2 (I (k3 : Int)) (I z5) (I z6) (I (oz (bo c))) (hI H (zI H)) = some (Sum.inl (I rs.length), hI h4 (fgt f5 B))
  simp only [p_X11_rule_b148, z_b, x_gR C.1 0 (by decide), nO, vrH1, td, ini, vr3, ad, gx4, vr34, r1', vx5, fg, z_xrt]
theorem rule_clsA (C : CS H B dw sl rs al os bs ig tl sy dr t lo lb li wl) (ok : AbOk dw sl rs os bs ig sy dr t nc) {z1 z3 z5 z6 : Int} {x2 : Int32} {c : Nat} (hz1 : -2147483648 ≤ z1 ∧ z1 < 2147483648) (hz3 : -2147483648 ≤ z3 ∧ z3 < 2147483648) (hz5 : -2147483648 ≤ z5 ∧ z5 < 2147483648) (hz6 : -2147483648 ≤ z6 ∧ z6 < 2147483648) (hc : c < 65536) (q1 : 0 ≤ z1 ∧ z1 ≤ 5) (q2 : 0 ≤ z3 ∧ z3 ≤ 2) (q3 : c = 32 ∨ 97 ≤ c ∧ c ≤ 104) (q4 : -1 ≤ z5 ∧ z5 ≤ 3) (q5 : -1 ≤ z6 ∧ z6 ≤ 1) : p_X11_rule (some B) (I z1) x2 (I z3) (I c) (I z5) (I z6) (hI H (zI H)) = p_X11_rule_b92 (some B) (I z1) x2 (I z3) (I c) (I z5) (I z6) (if dw = [] ∧ z3 = 0 then 1 else 0) (hI H (zI H)) := by
  have cc := C.2.2.2.1
  obtain ⟨dn1, dn2⟩ := dft_nil ok
  have n1 : ¬ ((1 : Int32) = 0) := by decide
  have a5 : ∀ h, p_X11_isIn (I z1) 0 5 h = some (if 0 ≤ z1 ∧ z1 ≤ 5 then 1 else 0, h) := fun h => (in_eq hz1 (a := 0) (b := 5) (by decide) (by decide) h).1
  have b5 : ∀ h, p_X12_in (I z1) 0 5 h = some (if 0 ≤ z1 ∧ z1 ≤ 5 then 1 else 0, h) := fun h => (in_eq hz1 (a := 0) (b := 5) (by decide) (by decide) h).2
  have a2 : ∀ h, p_X11_isIn (I z3) 0 2 h = some (if 0 ≤ z3 ∧ z3 ≤ 2 then 1 else 0, h) := fun h => (in_eq hz3 (a := 0) (b := 2) (by decide) (by decide) h).1
  have b2 : ∀ h, p_X12_in (I z3) 0 2 h = some (if 0 ≤ z3 ∧ z3 ≤ 2 then 1 else 0, h) := fun h => (in_eq hz3 (a := 0) (b := 2) (by decide) (by decide) h).2
  have a3 : ∀ h, p_X11_isIn (I z5) (-1) 3 h = some (if -1 ≤ z5 ∧ z5 ≤ 3 then 1 else 0, h) := fun h => by rw [show (-1 : Int32) = I (-1) from rfl]; exact (in_eq hz5 (a := -1) (b := 3) (by decide) (by decide) h).1
  have b3 : ∀ h, p_X12_in (I z5) (-1) 3 h = some (if -1 ≤ z5 ∧ z5 ≤ 3 then 1 else 0, h) := fun h => by rw [show (-1 : Int32) = I (-1) from rfl]; exact (in_eq hz5 (a := -1) (b := 3) (by decide) (by decide) h).2
  have a1 : ∀ h, p_X11_isIn (I z6) (-1) 1 h = some (if -1 ≤ z6 ∧ z6 ≤ 1 then 1 else 0, h) := fun h => by rw [show (-1 : Int32) = I (-1) from rfl]; exact (in_eq hz6 (a := -1) (b := 1) (by decide) (by decide) h).1
  have b1 : ∀ h, p_X12_in (I z6) (-1) 1 h = some (if -1 ≤ z6 ∧ z6 ≤ 1 then 1 else 0, h) := fun h => by rw [show (-1 : Int32) = I (-1) from rfl]; exact (in_eq hz6 (a := -1) (b := 1) (by decide) (by decide) h).2
  have al_ : ∀ h, p_X11_isLetter (I c) h = some (if 97 ≤ c ∧ c ≤ 104 then 1 else 0, h) := fun h => isLt_eq' h (by omega)
  have bl_ : ∀ h, p_X12_in (I c) 97 104 h = some (if 97 ≤ c ∧ c ≤ 104 then 1 else 0, h) := fun h => mIn_lt h (by omega)
  have e32 : (I (c : Int) = 32) ↔ c = 32 := I_eqN (k := 32) (by omega) (by decide)
  have e3z : (I z3 = 0) ↔ z3 = 0 := by rw [I_0, I_inj hz3 (by decide)]
  have e : p_X11_rule (some B) (I z1) x2 (I z3) (I c) (I z5) (I z6) (hI H (zI H)) = p_X11_rule_b33 (some B) (I z1) x2 (I z3) (I c) (I z5) (I z6) (hI H (zI H)) := by
    simp only [p_X11_rule, z_b, ite_ap, a5, a2, al_, e32]
    rw [if_pos q1, if_neg n1, if_pos q2, if_neg n1]
    by_cases u : c = 32
    · rw [if_pos u]
    · rw [if_neg u, if_pos (q3.resolve_left u), if_neg n1]
  rw [e]
  simp only [p_X11_rule_b33, p_X11_rule_b38, p_X11_rule_b91, z_b, ite_ap, n1, if_false, a3, a1]
  rw [if_pos q4, if_neg n1, if_pos q5, if_pos n1]
  simp only [x_gI C.1, cc.1, dn1, e3z]
  by_cases u : dw = []
  · rw [if_neg (fun y => y u)]
    by_cases v : z3 = 0
    · rw [if_neg (fun y => y v), if_pos ⟨u, v⟩]
    · rw [if_pos v, if_neg (fun y => v y.2)]
  · rw [if_pos u, if_neg (fun y => u y.1)]
theorem rule_refA (ok : AbOk dw sl rs os bs ig sy dr t nc) {z1 z3 z5 z6 : Int} {x2 : Int32} {c : Nat} (hz1 : -2147483648 ≤ z1 ∧ z1 < 2147483648) (hz3 : -2147483648 ≤ z3 ∧ z3 < 2147483648) (hz5 : -2147483648 ≤ z5 ∧ z5 < 2147483648) (hz6 : -2147483648 ≤ z6 ∧ z6 < 2147483648) (hc : c < 65536) (q1 : 0 ≤ z1 ∧ z1 ≤ 5) (q2 : 0 ≤ z3 ∧ z3 ≤ 2) (q3 : c = 32 ∨ 97 ≤ c ∧ c ≤ 104) (q4 : -1 ≤ z5 ∧ z5 ≤ 3) (q5 : -1 ≤ z6 ∧ z6 ≤ 1) : ∀ Hm, MS Hm B dw sl rs al os bs ig tl sy dr t → p_X12_rule (some (B + 95)) (I z1) x2 (I z3) (I c) (I z5) (I z6) Hm = (if 4 < dw.length then p_X12_rule_b107 (some (B + 95)) (I z1) x2 (I z3) (I c) (I z5) (I z6) (some (B + 95)) Hm else if dw = [] ∧ z3 = 0 then p_X12_rule_b107 (some (B + 95)) (I z1) x2 (I z3) (I c) (I z5) (I z6) (some (B + 95)) Hm else p_X12_rule_b98 (some (B + 95)) (I z1) x2 (I z3) (I c) (I z5) (I z6) (some (B + 95)) Hm) := by
  intro Hm Mm
  obtain ⟨dn1, dn2⟩ := dft_nil ok
  have d10 := ok.1.2
  have n1 : ¬ ((1 : Int32) = 0) := by decide
  have a5 : ∀ h, p_X11_isIn (I z1) 0 5 h = some (if 0 ≤ z1 ∧ z1 ≤ 5 then 1 else 0, h) := fun h => (in_eq hz1 (a := 0) (b := 5) (by decide) (by decide) h).1
  have b5 : ∀ h, p_X12_in (I z1) 0 5 h = some (if 0 ≤ z1 ∧ z1 ≤ 5 then 1 else 0, h) := fun h => (in_eq hz1 (a := 0) (b := 5) (by decide) (by decide) h).2
  have a2 : ∀ h, p_X11_isIn (I z3) 0 2 h = some (if 0 ≤ z3 ∧ z3 ≤ 2 then 1 else 0, h) := fun h => (in_eq hz3 (a := 0) (b := 2) (by decide) (by decide) h).1
  have b2 : ∀ h, p_X12_in (I z3) 0 2 h = some (if 0 ≤ z3 ∧ z3 ≤ 2 then 1 else 0, h) := fun h => (in_eq hz3 (a := 0) (b := 2) (by decide) (by decide) h).2
  have a3 : ∀ h, p_X11_isIn (I z5) (-1) 3 h = some (if -1 ≤ z5 ∧ z5 ≤ 3 then 1 else 0, h) := fun h => by rw [show (-1 : Int32) = I (-1) from rfl]; exact (in_eq hz5 (a := -1) (b := 3) (by decide) (by decide) h).1
  have b3 : ∀ h, p_X12_in (I z5) (-1) 3 h = some (if -1 ≤ z5 ∧ z5 ≤ 3 then 1 else 0, h) := fun h => by rw [show (-1 : Int32) = I (-1) from rfl]; exact (in_eq hz5 (a := -1) (b := 3) (by decide) (by decide) h).2
  have a1 : ∀ h, p_X11_isIn (I z6) (-1) 1 h = some (if -1 ≤ z6 ∧ z6 ≤ 1 then 1 else 0, h) := fun h => by rw [show (-1 : Int32) = I (-1) from rfl]; exact (in_eq hz6 (a := -1) (b := 1) (by decide) (by decide) h).1
  have b1 : ∀ h, p_X12_in (I z6) (-1) 1 h = some (if -1 ≤ z6 ∧ z6 ≤ 1 then 1 else 0, h) := fun h => by rw [show (-1 : Int32) = I (-1) from rfl]; exact (in_eq hz6 (a := -1) (b := 1) (by decide) (by decide) h).2
  have al_ : ∀ h, p_X11_isLetter (I c) h = some (if 97 ≤ c ∧ c ≤ 104 then 1 else 0, h) := fun h => isLt_eq' h (by omega)
  have bl_ : ∀ h, p_X12_in (I c) 97 104 h = some (if 97 ≤ c ∧ c ≤ 104 then 1 else 0, h) := fun h => mIn_lt h (by omega)
  have e32 : (I (c : Int) = 32) ↔ c = 32 := I_eqN (k := 32) (by omega) (by decide)
  have e3z : (I z3 = 0) ↔ z3 = 0 := by rw [I_0, I_inj hz3 (by decide)]
  have mg0 : ∀ Hm, MS Hm B dw sl rs al os bs ig tl sy dr t → z_gL 13 0 (some (B + 95)) Hm = some (J (mN dw), Hm) := fun Hm Mm => (m_gL (f := zI Hm) (g := zL Hm) Mm.1.1 0).trans (by rw [Mm.2.1]; rfl)
  have c4 : (4 < I (dw.length : Int)) ↔ 4 < dw.length := by rw [lit, I_lt (by decide) (by omega)]; omega
  have ml : ∀ Hm, p_X12_lengthOf (J (mN dw)) Hm = some (I dw.length, Hm) := fun Hm => lengthOf_eq Hm ok.1.1 (by omega)
  have e : p_X12_rule (some (B + 95)) (I z1) x2 (I z3) (I c) (I z5) (I z6) Hm = p_X12_rule_b37 (some (B + 95)) (I z1) x2 (I z3) (I c) (I z5) (I z6) Hm := by
    simp only [p_X12_rule, z_b, ite_ap, b5, b2, bl_, e32]
    rw [if_pos q1, if_neg n1, if_pos q2, if_neg n1]
    by_cases u : c = 32
    · rw [if_pos u]
    · rw [if_neg u, if_pos (q3.resolve_left u), if_neg n1]
  rw [e]
  simp only [p_X12_rule_b37, p_X12_rule_b62, z_b, ite_ap, b3, b1]
  rw [if_pos q4, if_neg n1, if_pos q5, if_neg n1, if_pos n1]
  simp only [mg0 Hm Mm, ml, c4, dn2, e3z]
  by_cases w : 4 < dw.length
  · rw [if_pos w, if_pos w]
  · rw [if_neg w, if_neg w]
    by_cases u : dw = []
    · rw [if_neg (fun y => y u)]
      by_cases v : z3 = 0
      · rw [if_pos v, if_pos ⟨u, v⟩]
      · rw [if_neg v, if_neg (fun y => v y.2)]
    · rw [if_pos u, if_neg (fun y => u y.1)]
theorem rule_clsR (H : ZH) (B : Nat) {z1 z3 z5 z6 : Int} {x2 : Int32} {c : Nat} (hz1 : -2147483648 ≤ z1 ∧ z1 < 2147483648) (hz3 : -2147483648 ≤ z3 ∧ z3 < 2147483648) (hz5 : -2147483648 ≤ z5 ∧ z5 < 2147483648) (hz6 : -2147483648 ≤ z6 ∧ z6 < 2147483648) (hc : c < 65536) (q : ¬ ((0 ≤ z1 ∧ z1 ≤ 5) ∧ (0 ≤ z3 ∧ z3 ≤ 2) ∧ (c = 32 ∨ 97 ≤ c ∧ c ≤ 104) ∧ (-1 ≤ z5 ∧ z5 ≤ 3) ∧ (-1 ≤ z6 ∧ z6 ≤ 1))) : p_X11_rule (some B) (I z1) x2 (I z3) (I c) (I z5) (I z6) (hI H (zI H)) = p_X11_rule_b65 (hI H (zI H)) := by
  have n1 : ¬ ((1 : Int32) = 0) := by decide
  have a5 : ∀ h, p_X11_isIn (I z1) 0 5 h = some (if 0 ≤ z1 ∧ z1 ≤ 5 then 1 else 0, h) := fun h => (in_eq hz1 (a := 0) (b := 5) (by decide) (by decide) h).1
  have b5 : ∀ h, p_X12_in (I z1) 0 5 h = some (if 0 ≤ z1 ∧ z1 ≤ 5 then 1 else 0, h) := fun h => (in_eq hz1 (a := 0) (b := 5) (by decide) (by decide) h).2
  have a2 : ∀ h, p_X11_isIn (I z3) 0 2 h = some (if 0 ≤ z3 ∧ z3 ≤ 2 then 1 else 0, h) := fun h => (in_eq hz3 (a := 0) (b := 2) (by decide) (by decide) h).1
  have b2 : ∀ h, p_X12_in (I z3) 0 2 h = some (if 0 ≤ z3 ∧ z3 ≤ 2 then 1 else 0, h) := fun h => (in_eq hz3 (a := 0) (b := 2) (by decide) (by decide) h).2
  have a3 : ∀ h, p_X11_isIn (I z5) (-1) 3 h = some (if -1 ≤ z5 ∧ z5 ≤ 3 then 1 else 0, h) := fun h => by rw [show (-1 : Int32) = I (-1) from rfl]; exact (in_eq hz5 (a := -1) (b := 3) (by decide) (by decide) h).1
  have b3 : ∀ h, p_X12_in (I z5) (-1) 3 h = some (if -1 ≤ z5 ∧ z5 ≤ 3 then 1 else 0, h) := fun h => by rw [show (-1 : Int32) = I (-1) from rfl]; exact (in_eq hz5 (a := -1) (b := 3) (by decide) (by decide) h).2
  have a1 : ∀ h, p_X11_isIn (I z6) (-1) 1 h = some (if -1 ≤ z6 ∧ z6 ≤ 1 then 1 else 0, h) := fun h => by rw [show (-1 : Int32) = I (-1) from rfl]; exact (in_eq hz6 (a := -1) (b := 1) (by decide) (by decide) h).1
  have b1 : ∀ h, p_X12_in (I z6) (-1) 1 h = some (if -1 ≤ z6 ∧ z6 ≤ 1 then 1 else 0, h) := fun h => by rw [show (-1 : Int32) = I (-1) from rfl]; exact (in_eq hz6 (a := -1) (b := 1) (by decide) (by decide) h).2
  have al_ : ∀ h, p_X11_isLetter (I c) h = some (if 97 ≤ c ∧ c ≤ 104 then 1 else 0, h) := fun h => isLt_eq' h (by omega)
  have bl_ : ∀ h, p_X12_in (I c) 97 104 h = some (if 97 ≤ c ∧ c ≤ 104 then 1 else 0, h) := fun h => mIn_lt h (by omega)
  have e32 : (I (c : Int) = 32) ↔ c = 32 := I_eqN (k := 32) (by omega) (by decide)
  have e3z : (I z3 = 0) ↔ z3 = 0 := by rw [I_0, I_inj hz3 (by decide)]
  have e37 : p_X11_rule_b37 (some B) (I z1) x2 (I z3) (I c) (I z5) (I z6) (hI H (zI H)) = p_X11_rule_b65 (hI H (zI H)) := by
    simp only [p_X11_rule_b37, p_X11_rule_b38, if_true]
  have e33 : ¬ ((-1 ≤ z5 ∧ z5 ≤ 3) ∧ (-1 ≤ z6 ∧ z6 ≤ 1)) → p_X11_rule_b33 (some B) (I z1) x2 (I z3) (I c) (I z5) (I z6) (hI H (zI H)) = p_X11_rule_b65 (hI H (zI H)) := fun z => by
    simp only [p_X11_rule_b33, p_X11_rule_b38, z_b, ite_ap, n1, if_false, a3, a1]
    by_cases u1 : -1 ≤ z5 ∧ z5 ≤ 3
    · rw [if_pos u1, if_neg n1, if_neg (fun u2 => z ⟨u1, u2⟩), if_neg (fun y => y rfl)]
    · rw [if_neg u1, if_pos rfl]
  simp only [p_X11_rule, z_b, ite_ap, a5, a2, al_, e32, e37]
  by_cases u1 : 0 ≤ z1 ∧ z1 ≤ 5
  · rw [if_pos u1, if_neg n1]
    by_cases u2 : 0 ≤ z3 ∧ z3 ≤ 2
    · rw [if_pos u2, if_neg n1]
      by_cases u3 : c = 32
      · rw [if_pos u3]
        exact e33 (fun y => q ⟨u1, u2, Or.inl u3, y⟩)
      · rw [if_neg u3]
        by_cases u4 : 97 ≤ c ∧ c ≤ 104
        · rw [if_pos u4, if_neg n1]
          exact e33 (fun y => q ⟨u1, u2, Or.inr u4, y⟩)
        · rw [if_neg u4, if_pos rfl]
    · rw [if_neg u2, if_pos rfl]
  · rw [if_neg u1, if_pos rfl]
theorem rule_refR (B : Nat) {Hm H2 : ZH} {z1 z3 z5 z6 : Int} {x2 : Int32} {c : Nat} (hz1 : -2147483648 ≤ z1 ∧ z1 < 2147483648) (hz3 : -2147483648 ≤ z3 ∧ z3 < 2147483648) (hz5 : -2147483648 ≤ z5 ∧ z5 < 2147483648) (hz6 : -2147483648 ≤ z6 ∧ z6 < 2147483648) (hc : c < 65536) (q : ¬ ((0 ≤ z1 ∧ z1 ≤ 5) ∧ (0 ≤ z3 ∧ z3 ≤ 2) ∧ (c = 32 ∨ 97 ≤ c ∧ c ≤ 104) ∧ (-1 ≤ z5 ∧ z5 ≤ 3) ∧ (-1 ≤ z6 ∧ z6 ≤ 1))) (p1 : p_X12_rule_b112 (some (B + 95)) (I z1) x2 (I z3) (I c) (I z5) (I z6) (some (B + 95)) 1 Hm = some (0, H2)) : p_X12_rule (some (B + 95)) (I z1) x2 (I z3) (I c) (I z5) (I z6) Hm = some (0, H2) := by
  have n1 : ¬ ((1 : Int32) = 0) := by decide
  have a5 : ∀ h, p_X11_isIn (I z1) 0 5 h = some (if 0 ≤ z1 ∧ z1 ≤ 5 then 1 else 0, h) := fun h => (in_eq hz1 (a := 0) (b := 5) (by decide) (by decide) h).1
  have b5 : ∀ h, p_X12_in (I z1) 0 5 h = some (if 0 ≤ z1 ∧ z1 ≤ 5 then 1 else 0, h) := fun h => (in_eq hz1 (a := 0) (b := 5) (by decide) (by decide) h).2
  have a2 : ∀ h, p_X11_isIn (I z3) 0 2 h = some (if 0 ≤ z3 ∧ z3 ≤ 2 then 1 else 0, h) := fun h => (in_eq hz3 (a := 0) (b := 2) (by decide) (by decide) h).1
  have b2 : ∀ h, p_X12_in (I z3) 0 2 h = some (if 0 ≤ z3 ∧ z3 ≤ 2 then 1 else 0, h) := fun h => (in_eq hz3 (a := 0) (b := 2) (by decide) (by decide) h).2
  have a3 : ∀ h, p_X11_isIn (I z5) (-1) 3 h = some (if -1 ≤ z5 ∧ z5 ≤ 3 then 1 else 0, h) := fun h => by rw [show (-1 : Int32) = I (-1) from rfl]; exact (in_eq hz5 (a := -1) (b := 3) (by decide) (by decide) h).1
  have b3 : ∀ h, p_X12_in (I z5) (-1) 3 h = some (if -1 ≤ z5 ∧ z5 ≤ 3 then 1 else 0, h) := fun h => by rw [show (-1 : Int32) = I (-1) from rfl]; exact (in_eq hz5 (a := -1) (b := 3) (by decide) (by decide) h).2
  have a1 : ∀ h, p_X11_isIn (I z6) (-1) 1 h = some (if -1 ≤ z6 ∧ z6 ≤ 1 then 1 else 0, h) := fun h => by rw [show (-1 : Int32) = I (-1) from rfl]; exact (in_eq hz6 (a := -1) (b := 1) (by decide) (by decide) h).1
  have b1 : ∀ h, p_X12_in (I z6) (-1) 1 h = some (if -1 ≤ z6 ∧ z6 ≤ 1 then 1 else 0, h) := fun h => by rw [show (-1 : Int32) = I (-1) from rfl]; exact (in_eq hz6 (a := -1) (b := 1) (by decide) (by decide) h).2
  have al_ : ∀ h, p_X11_isLetter (I c) h = some (if 97 ≤ c ∧ c ≤ 104 then 1 else 0, h) := fun h => isLt_eq' h (by omega)
  have bl_ : ∀ h, p_X12_in (I c) 97 104 h = some (if 97 ≤ c ∧ c ≤ 104 then 1 else 0, h) := fun h => mIn_lt h (by omega)
  have e32 : (I (c : Int) = 32) ↔ c = 32 := I_eqN (k := 32) (by omega) (by decide)
  have e3z : (I z3 = 0) ↔ z3 = 0 := by rw [I_0, I_inj hz3 (by decide)]
  have e61 : p_X12_rule_b61 (some (B + 95)) (I z1) x2 (I z3) (I c) (I z5) (I z6) Hm = some (0, H2) := by
    simp only [p_X12_rule_b61, p_X12_rule_b62, not_true_eq_false, if_false]
    exact p1
  have e37 : ¬ ((-1 ≤ z5 ∧ z5 ≤ 3) ∧ (-1 ≤ z6 ∧ z6 ≤ 1)) → p_X12_rule_b37 (some (B + 95)) (I z1) x2 (I z3) (I c) (I z5) (I z6) Hm = some (0, H2) := fun z => by
    simp only [p_X12_rule_b37, z_b, ite_ap, b3, b1, e61]
    by_cases u1 : -1 ≤ z5 ∧ z5 ≤ 3
    · rw [if_pos u1, if_neg n1, if_neg (fun u2 => z ⟨u1, u2⟩), if_pos rfl]
    · rw [if_neg u1, if_pos rfl]
  simp only [p_X12_rule, z_b, ite_ap, b5, b2, bl_, e32, e61]
  by_cases u1 : 0 ≤ z1 ∧ z1 ≤ 5
  · rw [if_pos u1, if_neg n1]
    by_cases u2 : 0 ≤ z3 ∧ z3 ≤ 2
    · rw [if_pos u2, if_neg n1]
      by_cases u3 : c = 32
      · rw [if_pos u3]
        exact e37 (fun y => q ⟨u1, u2, Or.inl u3, y⟩)
      · rw [if_neg u3]
        by_cases u4 : 97 ≤ c ∧ c ≤ 104
        · rw [if_pos u4, if_neg n1]
          exact e37 (fun y => q ⟨u1, u2, Or.inr u4, y⟩)
        · rw [if_neg u4, if_pos rfl]
    · rw [if_neg u2, if_pos rfl]
  · rw [if_neg u1, if_pos rfl]
theorem call_rule (S : ST H B nc (dw, sl, rs, al, os, bs, ig, tl, sy, dr, t)) (hnc : nc < 512) (x1 x2 x3 x5 x6 : Int32) (hx2 : x2 = 0 ∨ x2 = 1) {c : Nat} (hc : c < 65536) : Call H B nc (p_L_rule (some B) x1 x2 x3 (I c) x5 x6 (some (B + 141))) (p_X12_rule (some (B + 95)) x1 x2 x3 (I c) x5 x6) := by
  obtain ⟨⟨lo, lb, li, wl, C⟩, M, ok, hT, hN⟩ := S
  obtain ⟨z1, rfl, hz1⟩ := int_of x1
  obtain ⟨z3, rfl, hz3⟩ := int_of x3
  obtain ⟨z5, rfl, hz5⟩ := int_of x5
  obtain ⟨z6, rfl, hz6⟩ := int_of x6
  have cc := C.2.2.2.1
  have n1 : ¬ ((1 : Int32) = 0) := by decide
  obtain ⟨dn1, dn2⟩ := dft_nil ok
  have rll := ok.2.2.1.1
  have d10 := ok.1.2
  obtain ⟨sz, k2⟩ := CD.rsize C.2.2.2.2
  have lx := C.1.2.1
  have vr0 : ∀ (α : Type) (k : ZM α) (f : FI), z_vr 3 (some (B + cRf 0)) k (hI H f) = k (hI H f) := fun α k f => lx_vr C.1 k
  have sc : p_X2_ruleCount (some (B + cRf 0)) (hI H (zI H)) = some (I rs.length, hI H (zI H)) := by
    show p_X2_ruleCount (some (B + 1)) (hI H (zI H)) = _
    have g31 : z_gR 3 1 (some (B + 1)) (hI H (zI H)) = some (some (B + 3), hI H (zI H)) := by
      have e : zR (hI H (zI H)) (B + 1) 1 = some (B + 3) := lx.2.2.1
      exact (if_pos lx.1).trans (by rw [e])
    have vrl : ∀ (α : Type) (k : ZM α), z_vr 0 (some (B + 3)) k (hI H (zI H)) = k (hI H (zI H)) := fun α k => if_pos k2
    simp only [p_X2_ruleCount, z_b, z_rt, g31, vrl, sz]
  have m7 : ∀ Hm, MS Hm B dw sl rs al os bs ig tl sy dr t → z_gI 13 7 (some (B + 95)) Hm = some (I rs.length, Hm) := fun Hm Mm => (m_gI (f := zI Hm) (g := zL Hm) Mm.1.1 7).trans (by rw [Mm.2.2.2.1.1]; rfl)
  have mg0 : ∀ Hm, MS Hm B dw sl rs al os bs ig tl sy dr t → z_gL 13 0 (some (B + 95)) Hm = some (J (mN dw), Hm) := fun Hm Mm => (m_gL (f := zI Hm) (g := zL Hm) Mm.1.1 0).trans (by rw [Mm.2.1]; rfl)
  have refM : ∀ (k : Int32), k = 1 ∨ k = 2 → ∀ Hm, MS Hm B dw sl rs al os bs ig tl sy dr t → ∃ H2, p_X12_rule_b112 (some (B + 95)) (I z1) x2 (I z3) (I c) (I z5) (I z6) (some (B + 95)) k Hm = some (0, H2) ∧ KM Hm H2 B ∧ MS H2 B dw sl rs al os bs ig tl sy dr t ∧ zI H2 (B + 95) 58 = k := fun k hk Hm Mm => by
    have m := Mm.1.1
    refine ⟨hM Hm (zu (zI Hm) (B + 95) 58 k) (zL Hm), ?_, KM.pI _ _, Mm.pI (Or.inl rfl), zu_same _ _ _ _⟩
    have g1 : ¬ k ≤ 0 := by rcases hk with rfl | rfl <;> decide
    show p_X12_rule_b112 _ _ _ _ _ _ _ _ _ (hM Hm (zI Hm) (zL Hm)) = _
    simp only [p_X12_rule_b112, z_b, z_rt, ite_ap, m_pI m, m_gI m, zu_same, g1, if_false]
  have c8 : (I (rs.length : Int) < 8) ↔ rs.length < 8 := by rw [lit, I_lt (by omega) (by decide)]; omega
  have c8' : (I (rs.length : Int) = 8) ↔ rs.length = 8 := I_eqN (k := 8) (by omega) (by decide)
  have c4 : (4 < I (dw.length : Int)) ↔ 4 < dw.length := by rw [lit, I_lt (by decide) (by omega)]; omega
  have so := sizeOf_eq (hI H (zI H)) ok.1.1 ok.1.2
  have ml : ∀ Hm, p_X12_lengthOf (J (mN dw)) Hm = some (I dw.length, Hm) := fun Hm => lengthOf_eq Hm ok.1.1 (by omega)
  by_cases q : (0 ≤ z1 ∧ z1 ≤ 5) ∧ (0 ≤ z3 ∧ z3 ≤ 2) ∧ (c = 32 ∨ 97 ≤ c ∧ c ≤ 104) ∧ (-1 ≤ z5 ∧ z5 ≤ 3) ∧ (-1 ≤ z6 ∧ z6 ≤ 1)
  · obtain ⟨q1, q2, q3, q4, q5⟩ := q
    -- both get past the bounds
    have clsA := rule_clsA (x2 := x2) C ok hz1 hz3 hz5 hz6 hc q1 q2 q3 q4 q5
    have refA := rule_refA (B := B) (x2 := x2) (al := al) (tl := tl) ok hz1 hz3 hz5 hz6 hc q1 q2 q3 q4 q5
    by_cases full : 4 < dw.length ∨ (dw = [] ∧ z3 = 0) ∨ ¬ rs.length < 8
    · refine call_th (kk := 2) hnc C M ok hT hN (n := 1) ?_ rfl (by decide) (fun Hm Mm => ?_)
      · show p_X11_rule (some B) (I z1) x2 (I z3) (I c) (I z5) (I z6) (hI H (zI H)) = _
        rw [clsA]
        simp only [p_X11_rule_b92, p_X11_rule_b122, z_b, ite_ap, x_gI C.1, cc.1, so, c4]
        by_cases w : 4 < dw.length
        · rw [if_pos w]; rfl
        · rw [if_neg w]
          by_cases u : dw = [] ∧ z3 = 0
          · rw [if_pos u, if_pos n1]; rfl
          · rw [if_neg u, if_neg (fun y => y rfl)]
            simp only [x_gR C.1 0 (by decide), vr0, sc, c8]
            rw [if_neg ((full.resolve_left w).resolve_left u)]; rfl
      · obtain ⟨H2, p1, p2, p3, p4⟩ := refM 2 (Or.inr rfl) Hm Mm
        refine ⟨H2, 0, ?_, p2, p3, p4⟩
        rw [refA Hm Mm]
        by_cases w : 4 < dw.length
        · rw [if_pos w]; exact p1
        · rw [if_neg w]
          by_cases u : dw = [] ∧ z3 = 0
          · rw [if_pos u]; exact p1
          · rw [if_neg u]
            have h8 : rs.length = 8 := by have := (full.resolve_left w).resolve_left u; omega
            simp only [p_X12_rule_b98, z_b, ite_ap, m7 Hm Mm, c8']
            rw [if_neg (fun y => y h8)]; exact p1
    · have w4 : ¬ 4 < dw.length := fun e => full (Or.inl e)
      have u0 : ¬ (dw = [] ∧ z3 = 0) := fun e => full (Or.inr (Or.inl e))
      have hl : rs.length < 8 := Classical.byContradiction (fun e => full (Or.inr (Or.inr e)))
      obtain ⟨k1, rfl⟩ : ∃ i : Nat, z1 = i := ⟨z1.toNat, by omega⟩
      obtain ⟨k3, rfl⟩ : ∃ i : Nat, z3 = i := ⟨z3.toNat, by omega⟩
      -- the new rule
      generalize hr : ((k1, (if x2 = 1 then true else false), k3, bo c, dw, op z5, op z6, 0) : Ru) = r
      have rok : RuOk r := by
        subst hr
        refine ⟨by show k1 ≤ 5; omega, by show k3 ≤ 2; omega, fun b hb => ?_, ok.1.1, by show dw.length ≤ 4; omega, op_le (n := 3) (by omega), op_le (n := 1) (by omega), by show 0 ≤ 63; omega⟩
        have hb' : bo c = some b := hb
        unfold bo at hb'
        by_cases u : c = 32
        · rw [if_pos u] at hb'; cases hb'
        · rw [if_neg u] at hb'
          cases hb'
          have := q3.resolve_left u
          omega
      have e32 : (I (c : Int) = 32) ↔ c = 32 := I_eqN (k := 32) (by omega) (by decide)
      have eB : (if ¬ I (c : Int) = 32 then I (c : Int) - 97 else -1) = I (oz (bo c)) := by
        unfold bo
        by_cases u : c = 32
        · rw [if_neg (fun y => y (e32.mpr u)), if_pos u]; rfl
        · have := q3.resolve_left u
          rw [if_pos (fun y => u (e32.mp y)), if_neg u, show (97 : Int32) = I ((97 : Nat) : Int) from rfl, I_sn _ _ (by omega)]
          rfl
      obtain ⟨H1, wl', b148, r3, r4, ok'⟩ := crule C ok hnc hx2 q4.1 q5.1 hl hr rok
      refine call_ok (H1 := H1) (v := I rs.length) rfl hnc C M hT hN ?_ r3 r4 ok' (fun Hm Mm => ?_)
      · show p_X11_rule (some B) (I (k1 : Int)) x2 (I (k3 : Int)) (I (c : Int)) (I z5) (I z6) (hI H (zI H)) = some (Sum.inl _, _)
        rw [clsA]
        simp only [p_X11_rule_b92, z_b, ite_ap, x_gI C.1, cc.1, so, c4]
        rw [if_neg w4, if_neg u0, if_neg (fun y => y rfl)]
        simp only [x_gR C.1 0 (by decide), vr0, sc, c8]
        rw [if_pos hl, ← b148, ← eB]
        by_cases u : I (c : Int) = 32
        · rw [if_neg (fun y => y u), if_neg (fun y => y u)]
        · rw [if_pos u, if_pos u]
      · obtain ⟨H2, y1, y2, y3, y4⟩ := mrule Mm hx2 hc q3 q4.1 q5.1 hl hr rok
        refine ⟨H2, ?_, y2, y3, y4⟩
        rw [refA Hm Mm, if_neg w4, if_neg u0]
        exact y1
  · have rA := rule_clsR H B (x2 := x2) hz1 hz3 hz5 hz6 hc q
    refine call_th (kk := 1) hnc C M ok hT hN (n := 0) rA rfl (by decide) (fun Hm Mm => ?_)
    obtain ⟨H2, p1, p2, p3, p4⟩ := refM 1 (Or.inl rfl) Hm Mm
    refine ⟨H2, 0, ?_, p2, p3, p4⟩
    exact rule_refR B hz1 hz3 hz5 hz6 hc q p1
end
