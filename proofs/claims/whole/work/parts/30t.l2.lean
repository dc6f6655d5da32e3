/-- the reference's table says what the class's book l says -/
def TC (f : FI) (g : FL) (ar : Nat → Nat) (M : Nat) (l : Bk) : Prop := ∃ K P Q O, TbIs f g ar K P Q O ∧ Cpl l K P Q O ∧ f M 35 = I l.length
/-- what keeping words may change -/
def MF (f f' : FI) (g g' : FL) (ar : Nat → Nat) (M : Nat) : Prop := (∀ j, j ≠ 35 → f' M j = f M j) ∧ Fr f f' [M, ar 37, ar 38, ar 39] ∧ ∀ b, b ≠ ar 36 → g' b = g b
theorem MF.refl (f : FI) (g : FL) (ar : Nat → Nat) (M : Nat) : MF f f g g ar M := ⟨fun _ _ => rfl, Fr.refl _ _, fun _ _ => rfl⟩
theorem MF.trans {f f1 f2 : FI} {g g1 g2 : FL} {ar : Nat → Nat} {M : Nat} (a : MF f f1 g g1 ar M) (b : MF f1 f2 g1 g2 ar M) : MF f f2 g g2 ar M :=
  ⟨fun j hj => (b.1 j hj).trans (a.1 j hj), a.2.1.trans b.2.1, fun q hq => (b.2.2 q hq).trans (a.2.2 q hq)⟩
section
variable {h : ZH} {M : Nat} {ar : Nat → Nat} {f f' : FI} {g g' : FL}
theorem MF.arI (a : MF f f' g g' ar M) (m : MAt h M ar) {j : Nat} (hj : (mSz j).1 ≠ 0) (h7 : j ≠ 37) (h8 : j ≠ 38) (h9 : j ≠ 39) : f' (ar j) = f (ar j) := by
  refine a.2.1 _ ?_
  simp only [List.mem_cons, List.not_mem_nil, or_false, not_or]
  exact ⟨(m.2.1 j hj).2.2, ar_ne m hj (by decide) h7, ar_ne m hj (by decide) h8, ar_ne m hj (by decide) h9⟩
theorem MF.arL (a : MF f f' g g' ar M) (m : MAt h M ar) {j : Nat} (hj : (mSz j).1 ≠ 0) (h6 : j ≠ 36) : g' (ar j) = g (ar j) := a.2.2 _ (ar_ne m hj (by decide) h6)
theorem keeps_tc (m : MAt h M ar) {l : Bk} (T : TC f g ar M l) {e : Ev} (he : EvOk e) {is : Nat} (his : is ≤ 7) (hl : l.length < 16384) :
    ∃ f' g', p_X12_keeps (some M) (J (mN e.1)) (I e.2.1) (I e.2.2) (I is) (hM h f g) = some ((), hM h f' g') ∧ TC f' g' ar M (addEv is l e) ∧ MF f f' g g' ar M := by
  obtain ⟨K, P, Q, O, t1, t2, t3⟩ := T
  have hw : WdOk e.1 := ⟨he.1, he.2.1, he.2.2.1⟩
  obtain ⟨z, hz, hz0⟩ := used_free 16384 (K := K) (by rw [t2.2.1]; exact hl)
  obtain ⟨s, hs⟩ := slot_ex hz hz0 (mN e.1)
  obtain ⟨f', g', q1, q2, q3, q4, q5, q6⟩ := keeps_eq m t1 t3 hw he.2.2.2.1 he.2.2.2.2 his hs
  have b1 : kPlain is e.2.1 e.2.2 < 256 ∧ kJoin is e.2.1 e.2.2 < 256 ∧ kOff is < 2 := by
    have : ∀ x : Nat, x < 8 → ∀ k : Nat, k < 4 → ∀ gg : Nat, gg < 2 → kPlain x k gg < 256 ∧ kJoin x k gg < 256 ∧ kOff x < 2 := by decide +kernel
    have h3 := he.2.2.2.1
    have h4 := he.2.2.2.2
    exact this is (by omega) e.2.1 (by omega) e.2.2 (by omega)
  obtain ⟨C, hlen⟩ := Cpl_step t2 hw hs b1.1 b1.2.1 b1.2.2
  refine ⟨f', g', q1, ⟨_, _, _, _, q2, C, ?_⟩, q4, q5, q6⟩
  rw [q3, ← hlen]
  rfl
/-- a stem in the reference's arrays; all rules -/
def StM (f : FI) (g : FL) (ar : Nat → Nat) (i : Nat) (s : St) : Prop := g (ar 2) i = J (mN s.w) ∧ f (ar 3) i = I s.flags ∧ f (ar 4) i = I s.kind ∧ f (ar 5) i = I s.form ∧ f (ar 6) i = I s.is
def RsM (f : FI) (g : FL) (ar : Nat → Nat) (M : Nat) (rs : List Ru) : Prop := f M 7 = I rs.length ∧ rs.length ≤ 8 ∧ ∀ i, i < rs.length → ∃ r, rs[i]? = some r ∧ RuM f g ar i r ∧ RuOk r
theorem StM.fr (a : MF f f' g g' ar M) (m : MAt h M ar) {i : Nat} {s : St} (S : StM f g ar i s) : StM f' g' ar i s := by
  unfold StM at S ⊢
  rw [a.arL m (j := 2) (by decide) (by decide), a.arI m (j := 3) (by decide) (by decide) (by decide) (by decide), a.arI m (j := 4) (by decide) (by decide) (by decide) (by decide), a.arI m (j := 5) (by decide) (by decide) (by decide) (by decide), a.arI m (j := 6) (by decide) (by decide) (by decide) (by decide)]
  exact S
theorem RsM.fr (a : MF f f' g g' ar M) (m : MAt h M ar) {rs : List Ru} (S : RsM f g ar M rs) : RsM f' g' ar M rs := by
  obtain ⟨s1, s2, s3⟩ := S
  refine ⟨by rw [a.1 7 (by decide)]; exact s1, s2, fun i hi => ?_⟩
  obtain ⟨r, r1, r2, r3⟩ := s3 i hi
  refine ⟨r, r1, ?_, r3⟩
  unfold RuM at r2 ⊢
  rw [a.arL m (j := 11) (by decide) (by decide), a.arI m (j := 8) (by decide) (by decide) (by decide) (by decide), a.arI m (j := 9) (by decide) (by decide) (by decide) (by decide), a.arI m (j := 10) (by decide) (by decide) (by decide) (by decide), a.arI m (j := 12) (by decide) (by decide) (by decide) (by decide), a.arI m (j := 13) (by decide) (by decide) (by decide) (by decide), a.arI m (j := 14) (by decide) (by decide) (by decide) (by decide), a.arI m (j := 15) (by decide) (by decide) (by decide) (by decide)]
  exact r2
end
