/-- the reference's table of made words -/
def TbIs (f : FI) (g : FL) (ar : Nat → Nat) (K P Q O : Nat → Nat) : Prop := ∀ s, s < 16384 → (g (ar 36) s = J (K s) ∧ K s < 9223372036854775808) ∧ f (ar 37) s = I (P s) ∧ f (ar 38) s = I (Q s) ∧ f (ar 39) s = I (O s)
theorem is2 : ∀ x : Nat, x < 8 → ((I (x : Int) &&& 2) = 0 ↔ ¬ x / 2 % 2 = 1) := by decide +kernel
theorem is6 : ∀ x : Nat, x < 8 → ((I (x : Int) &&& 6) = 0 ↔ ¬ (x / 2 % 2 = 1 ∨ x / 4 % 2 = 1)) := by decide +kernel
theorem is3 : ∀ x : Nat, x < 8 → ((I (x : Int) &&& 3) = 0 ↔ ¬ (x / 2 % 2 = 1 ∨ x % 2 = 1)) := by decide +kernel
section
variable {h : ZH} {M : Nat} {ar : Nat → Nat} {f : FI} {g : FL}
theorem ar_ne (m : MAt h M ar) {i j : Nat} (hi : (mSz i).1 ≠ 0) (hj : (mSz j).1 ≠ 0) (hij : i ≠ j) : ar i ≠ ar j := fun q => hij (m.2.2 i j hi hj q)
theorem keeps_eq (m : MAt h M ar) {K P Q O : Nat → Nat} (T : TbIs f g ar K P Q O) {cnt : Nat} (hc : f M 35 = I cnt) {w : Wd} (hw : WdOk w) {k gg is : Nat} (hk : k ≤ 3) (hg : gg ≤ 1) (his : is ≤ 7) {s : Nat} (hs : IsSlot K (mN w) s) :
    ∃ f' g', p_X12_keeps (some M) (J (mN w)) (I k) (I gg) (I is) (hM h f g) = some ((), hM h f' g') ∧ TbIs f' g' ar (updN K s (mN w)) (updN P s (P s ||| kPlain is k gg)) (updN Q s (Q s ||| kJoin is k gg)) (updN O s (O s ||| kOff is)) ∧
      f' M 35 = I ((cnt + if K s = 0 then 1 else 0 : Nat) : Int) ∧ (∀ j, j ≠ 35 → f' M j = f M j) ∧ Fr f f' [M, ar 37, ar 38, ar 39] ∧ ∀ b, b ≠ ar 36 → g' b = g b := by
  have hsl := slot_lt hs
  have hmr := mN_range hw.1 (by have := hw.2.2; omega)
  obtain ⟨⟨t1, t1'⟩, t2, t3, t4⟩ := T s hsl
  have sl := slot_eq (f := f) m (fun t ht => (T t ht).1) (show mN w < 9223372036854775808 by omega) hs
  have n1 := ar_ne m (i := 37) (j := 38) (by decide) (by decide) (by decide)
  have n2 := ar_ne m (i := 37) (j := 39) (by decide) (by decide) (by decide)
  have n3 := ar_ne m (i := 38) (j := 39) (by decide) (by decide) (by decide)
  have m1 := (m.2.1 37 (by decide)).2.2
  have m2 := (m.2.1 38 (by decide)).2.2
  have m3 := (m.2.1 39 (by decide)).2.2
  have e1 : (1 : Int32) <<< ((2 * I (k : Int) + I (gg : Int)) &&& 31) = I ((2 ^ (2 * k + gg) : Nat) : Int) := by
    rw [show (2 : Int32) = I ((2 : Nat) : Int) from rfl, I_mn, I_an, I_msk _ (by omega), show (1 : Int32) = I ((1 : Nat) : Int) from rfl, I_shl (by omega), Nat.one_mul]
  have e2 : (J (K s : Int) = 0) ↔ K s = 0 := by rw [litJ, J_inj (by omega) (by omega)]; omega
  have g37 : ∀ (a : Int32), zu f M 35 a (ar 37) s = I (P s) := fun a => by rw [zu_ne m1]; exact t2
  refine ⟨zu (zu (zu (zu f M 35 (I ((cnt + if K s = 0 then 1 else 0 : Nat) : Int))) (ar 37) s (I ((P s ||| kPlain is k gg : Nat) : Int))) (ar 38) s (I ((Q s ||| kJoin is k gg : Nat) : Int))) (ar 39) s (I ((O s ||| kOff is : Nat) : Int)), zu g (ar 36) s (J (mN w)), ?_, fun t ht => ?_, ?_, fun j hj => ?_, ?_, fun b hb => zu_ne hb _ _⟩
  · have b118 : ∀ (F : FI) (G : FL) (c : Nat), p_X12_keeps_b118 (some (ar 39)) (I s) (I (O s)) (I (c : Int)) (hM h F G) = some ((), hM h (zu F (ar 39) s (I ((O s ||| c : Nat) : Int))) G) := fun F G c => by
      simp only [p_X12_keeps_b118, z_b, z_rt, I_or, m_sI m 39 16384 (by decide) hsl (by decide)]
    have b96 : ∀ (F : FI) (G : FL) (c : Nat), F (ar 39) s = I (O s) → p_X12_keeps_b96 (some M) (I is) (I s) (some (ar 38)) (I s) (I (Q s)) (I (c : Int)) (hM h F G) = some ((), hM h (zu (zu F (ar 38) s (I ((Q s ||| c : Nat) : Int))) (ar 39) s (I ((O s ||| kOff is : Nat) : Int))) G) := fun F G c hF => by
      have hF' : zu F (ar 38) s (I ((Q s ||| c : Nat) : Int)) (ar 39) s = I (O s) := by rw [zu_ne (fun q => n3 q.symm)]; exact hF
      simp only [p_X12_keeps_b96, z_b, ite_ap, I_or, m_sI m 38 16384 (by decide) hsl (by decide), m_gR m 39 (by decide), m_aI m 39 16384 (by decide) hsl (by decide), hF', is3 is (by omega)]
      unfold kOff
      by_cases q : is / 2 % 2 = 1 ∨ is % 2 = 1
      · rw [if_pos (fun z => z q), if_pos q]; exact b118 _ _ 0
      · rw [if_neg (fun z => z q), if_neg q]; exact b118 _ _ 1
    have b72 : ∀ (F : FI) (G : FL) (c : Nat), F (ar 38) s = I (Q s) → F (ar 39) s = I (O s) → p_X12_keeps_b72 (some M) (I is) (I s) (I ((2 ^ (2 * k + gg) : Nat) : Int)) (some (ar 37)) (I s) (I (P s)) (I (c : Int)) (hM h F G) = some ((), hM h (zu (zu (zu F (ar 37) s (I ((P s ||| c : Nat) : Int))) (ar 38) s (I ((Q s ||| kJoin is k gg : Nat) : Int))) (ar 39) s (I ((O s ||| kOff is : Nat) : Int))) G) := fun F G c hF1 hF2 => by
      have hF1' : zu F (ar 37) s (I ((P s ||| c : Nat) : Int)) (ar 38) s = I (Q s) := by rw [zu_ne (fun q => n1 q.symm)]; exact hF1
      have hF2' : zu F (ar 37) s (I ((P s ||| c : Nat) : Int)) (ar 39) s = I (O s) := by rw [zu_ne (fun q => n2 q.symm)]; exact hF2
      simp only [p_X12_keeps_b72, z_b, ite_ap, I_or, m_sI m 37 16384 (by decide) hsl (by decide), m_gR m 38 (by decide), m_aI m 38 16384 (by decide) hsl (by decide), hF1', is6 is (by omega)]
      unfold kJoin
      by_cases q : is / 2 % 2 = 1 ∨ is / 4 % 2 = 1
      · rw [if_neg (fun z => z q), if_pos q]; exact b96 _ _ _ hF2'
      · rw [if_pos q, if_neg q]; exact b96 _ _ 0 hF2'
    have b39 : ∀ c : Nat, p_X12_keeps_b39 (some M) (J (mN w)) (I is) (I s) (I ((2 ^ (2 * k + gg) : Nat) : Int)) (some M) (I cnt) (I (c : Int)) (hM h f g) = some ((), hM h (zu (zu (zu (zu f M 35 (I ((cnt + c : Nat) : Int))) (ar 37) s (I ((P s ||| kPlain is k gg : Nat) : Int))) (ar 38) s (I ((Q s ||| kJoin is k gg : Nat) : Int))) (ar 39) s (I ((O s ||| kOff is : Nat) : Int))) (zu g (ar 36) s (J (mN w)))) := fun c => by
      have f1 : zu f M 35 (I ((cnt + c : Nat) : Int)) (ar 38) s = I (Q s) := by rw [zu_ne m2]; exact t3
      have f2 : zu f M 35 (I ((cnt + c : Nat) : Int)) (ar 39) s = I (O s) := by rw [zu_ne m3]; exact t4
      simp only [p_X12_keeps_b39, z_b, ite_ap, I_an, m_pI m, m_gR m 36 (by decide), m_sL m 36 16384 (by decide) hsl (by decide), m_gR m 37 (by decide), m_aI m 37 16384 (by decide) hsl (by decide), g37, is2 is (by omega)]
      unfold kPlain
      by_cases q : is / 2 % 2 = 1
      · rw [if_pos (fun z => z q), if_pos q]; exact b72 _ _ 0 f1 f2
      · rw [if_neg (fun z => z q), if_neg q]; exact b72 _ _ _ f1 f2
    simp only [p_X12_keeps, z_b, z_n, ite_ap, m_vr m, sl, e1, m_gI m, hc, m_gR m 36 (by decide), m_aL m 36 16384 (by decide) hsl (by decide), t1, lgc_eq0, e2]
    by_cases q : K s = 0
    · rw [if_neg (fun z => z q), if_pos q]; exact b39 1
    · rw [if_pos q, if_neg q]; exact b39 0
  · obtain ⟨⟨u1, u1'⟩, u2, u3, u4⟩ := T t ht
    have r36 : zu g (ar 36) s (J (mN w)) (ar 36) t = J ((updN K s (mN w) t : Nat) : Int) := by
      rw [zu_cell]; unfold updN
      by_cases q : t = s
      · rw [if_pos q, if_pos q]
      · rw [if_neg q, if_neg q]; exact u1
    refine ⟨⟨r36, ?_⟩, ?_, ?_, ?_⟩
    · unfold updN
      by_cases q : t = s
      · rw [if_pos q]; omega
      · rw [if_neg q]; exact u1'
    · rw [zu_ne n2, zu_ne n1, zu_cell, zu_ne m1]
      unfold updN
      by_cases q : t = s
      · rw [if_pos q, if_pos q]
      · rw [if_neg q, if_neg q]; exact u2
    · rw [zu_ne n3, zu_cell, zu_ne (fun q => n1 q.symm), zu_ne m2]
      unfold updN
      by_cases q : t = s
      · rw [if_pos q, if_pos q]
      · rw [if_neg q, if_neg q]; exact u3
    · rw [zu_cell, zu_ne (fun q => n3 q.symm), zu_ne (fun q => n2 q.symm), zu_ne m3]
      unfold updN
      by_cases q : t = s
      · rw [if_pos q, if_pos q]
      · rw [if_neg q, if_neg q]; exact u4
  · rw [zu_ne (fun q => m3 q.symm), zu_ne (fun q => m2 q.symm), zu_ne (fun q => m1 q.symm), zu_cell, if_pos rfl]
  · rw [zu_ne (fun q => m3 q.symm), zu_ne (fun q => m2 q.symm), zu_ne (fun q => m1 q.symm), zu_cell, if_neg hj]
  · exact (((Fr.zu (A := [M, ar 37, ar 38, ar 39]) (by simp)).trans (Fr.zu (by simp))).trans (Fr.zu (by simp))).trans (Fr.zu (by simp))
end
