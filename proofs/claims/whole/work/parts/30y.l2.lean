/-! the reference makes all words anew -/
/-- all stems in the reference's arrays -/
def SsM (f : FI) (g : FL) (ar : Nat → Nat) (M : Nat) (sl : List St) : Prop := f M 1 = I sl.length ∧ sl.length ≤ 12 ∧ ∀ i, i < sl.length → ∃ s, sl[i]? = some s ∧ StM f g ar i s ∧ StOk s
section
variable {h : ZH} {M : Nat} {ar : Nat → Nat} {rs : List Ru}
theorem SsM.fr {f f' : FI} {g g' : FL} (a : MF f f' g g' ar M) (m : MAt h M ar) {sl : List St} (S : SsM f g ar M sl) : SsM f' g' ar M sl := by
  obtain ⟨s1, s2, s3⟩ := S
  refine ⟨by rw [a.1 1 (by decide)]; exact s1, s2, fun i hi => ?_⟩
  obtain ⟨s, r1, r2, r3⟩ := s3 i hi
  exact ⟨s, r1, r2.fr a m, r3⟩
theorem st_ok_ev {s : St} (ho : StOk s) : EvOk (s.w, s.kind, s.form) := ⟨ho.1, ho.2.1, ho.2.2.1, ho.2.2.2.2.1, ho.2.2.2.2.2.1⟩
/-- what making may change -/
def MF2 (f f' : FI) (g g' : FL) (ar : Nat → Nat) (M : Nat) : Prop := (∀ j, j ≠ 34 → j ≠ 35 → f' M j = f M j) ∧ Fr f f' [M, ar 37, ar 38, ar 39] ∧ ∀ b, b ≠ ar 36 → g' b = g b
theorem MF.two {f f' : FI} {g g' : FL} (a : MF f f' g g' ar M) : MF2 f f' g g' ar M := ⟨fun j _ h2 => a.1 j h2, a.2.1, a.2.2⟩
theorem MF2.trans {f f1 f2 : FI} {g g1 g2 : FL} (a : MF2 f f1 g g1 ar M) (b : MF2 f1 f2 g1 g2 ar M) : MF2 f f2 g g2 ar M :=
  ⟨fun j h1 h2 => (b.1 j h1 h2).trans (a.1 j h1 h2), a.2.1.trans b.2.1, fun q hq => (b.2.2 q hq).trans (a.2.2 q hq)⟩
theorem m_pZ (m : MAt h M ar) (j : Nat) {v : Int32} (hv : v = 0 ∨ v = 1) {f : FI} {g : FL} : z_pZ 13 j (some M) v (hM h f g) = some ((), hM h (zu f M j v) g) := by
  show (if zK (hM h f g) M = (13 + 6, 0) ∧ (v = 0 ∨ v = 1) then _ else _) = _
  rw [if_pos ⟨m.1, hv⟩]
  rfl
theorem TC.same {f f' : FI} {g g' : FL} {l : Bk} (T : TC f g ar M l) (h35 : f' M 35 = f M 35) (h6 : g' (ar 36) = g (ar 36)) (h7 : f' (ar 37) = f (ar 37)) (h8 : f' (ar 38) = f (ar 38)) (h9 : f' (ar 39) = f (ar 39)) : TC f' g' ar M l := by
  obtain ⟨K, P, Q, O, t1, t2, t3⟩ := T
  refine ⟨K, P, Q, O, ?_, t2, h35.trans t3⟩
  unfold TbIs at t1 ⊢
  rw [h6, h7, h8, h9]
  exact t1
theorem mk_l58 (m : MAt h M ar) {sl : List St} :
    ∀ (t : List St) (i n : Nat) (f : FI) (g : FL) (l : Bk), sl.drop i = t → i + t.length = sl.length → t.length < n → RsM f g ar M rs → SsM f g ar M sl → TC f g ar M l → l.length + 129 * t.length < 16384 →
      ∃ f' g', p_X12_makes_l58 n (some M) (I i) (hM h f g) = some ((), hM h f' g') ∧ TC f' g' ar M (madeOf rs t l) ∧ MF2 f f' g g' ar M ∧ f' M 34 = 1 := by
  intro t
  induction t with
  | nil =>
    intro i n f g l h1 h2 h3 hr hs hT hroom
    obtain ⟨q1, q2, q3⟩ := id hs
    obtain ⟨n, rfl⟩ := Nat.exists_eq_add_of_lt h3
    have e1 : I (sl.length : Int) ≤ I (i : Int) := by
      simp at h2
      rw [I_le (by omega) (by omega)]; omega
    refine ⟨zu f M 34 1, g, ?_, hT.same ?_ rfl ?_ ?_ ?_, ⟨fun j hj _ => ?_, Fr.zu (by simp), fun _ _ => rfl⟩, zu_same _ _ _ _⟩
    · show p_X12_makes_c58 _ _ _ _ = _
      simp only [p_X12_makes_c58, p_X12_makes_b125, z_b, z_rt, ite_ap, m_gI m, q1, e1, if_true, m_pZ m 34 (Or.inr rfl)]
    · rw [zu_cell, if_neg (by decide)]
    · exact zu_ne (m.2.1 37 (by decide)).2.2 _ _
    · exact zu_ne (m.2.1 38 (by decide)).2.2 _ _
    · exact zu_ne (m.2.1 39 (by decide)).2.2 _ _
    · rw [zu_cell, if_neg hj]
  | cons s t ih =>
    intro i n f g l h1 h2 h3 hr hs hT hroom
    obtain ⟨q1, q2, q3⟩ := id hs
    have hi : i < sl.length := by simp only [List.length_cons] at h2; omega
    have hd : sl[i]? = some s ∧ sl.drop (i + 1) = t := by
      refine ⟨?_, by rw [← List.tail_drop, h1]; rfl⟩
      have : (sl.drop i)[0]? = some s := by rw [h1]; rfl
      rw [List.getElem?_drop] at this
      simpa using this
    obtain ⟨s', w1, w2, w3⟩ := q3 i hi
    rw [hd.1] at w1
    cases w1
    cases n with
    | zero => exact absurd h3 (Nat.not_lt_zero _)
    | succ n =>
      show ∃ f' g', p_X12_makes_c58 (p_X12_makes_l58 n) _ _ _ = _ ∧ _
      simp only [List.length_cons] at h2 h3 hroom
      have i12 : i < 12 := by omega
      have e1 : ¬ (I (sl.length : Int) ≤ I (i : Int)) := by rw [I_le (by omega) (by omega)]; omega
      have e2 : I (i : Int) + 1 = I ((i + 1 : Nat) : Int) := I_add _ 1
      have hel := evs_len rs s hr.2.1
      have hee : (evs rs s).length = (begs rs s.flags (s.w, s.kind, s.form)).length + (rs.flatMap (ends rs s.flags (s.w, s.kind, s.form))).length := by unfold evs; rw [List.length_append]
      obtain ⟨f1, g1, v1, v2, v3⟩ := beg_eq m w3 i12 (st_ok_ev w3) hr w2 hT (by omega)
      have hle := addEvs_le s.is (begs rs s.flags (s.w, s.kind, s.form)) l
      have w2' := w2.fr v3 m
      obtain ⟨f2, g2, y1, y2, y3⟩ := end_l m w3 i12 (st_ok_ev w3) rs 0 zFuel f1 g1 _ rfl (by omega) (by have := hr.2.1; unfold zFuel; omega) (hr.fr v3 m) w2' v2 (by omega)
      have hle2 := addEvs_le s.is (rs.flatMap (ends rs s.flags (s.w, s.kind, s.form))) ((begs rs s.flags (s.w, s.kind, s.form)).foldl (addEv s.is) l)
      have hmd : madeOf rs (s :: t) l = madeOf rs t ((rs.flatMap (ends rs s.flags (s.w, s.kind, s.form))).foldl (addEv s.is) ((begs rs s.flags (s.w, s.kind, s.form)).foldl (addEv s.is) l)) := by
        rw [← List.foldl_append]; rfl
      obtain ⟨f', g', p1, p2, p3, p4⟩ := ih (i + 1) n f2 g2 _ hd.2 (by omega) (by omega) (hr.fr (v3.trans y3) m) (hs.fr (v3.trans y3) m) y2 (by omega)
      refine ⟨f', g', ?_, by rw [hmd]; exact p2, (v3.trans y3).two.trans p3, p4⟩
      rw [← p1]
      obtain ⟨a1, a2, a3, a4, a5⟩ := id w2
      obtain ⟨b1, b2, b3, b4, b5⟩ := id w2'
      have y1' : p_X12_endings (some M) (J (mN s.w)) (I i) (I s.flags) (I s.kind) (I s.form) 1 (hM h f1 g1) = some ((), hM h f2 g2) := y1
      have v1' : p_X12_begins (some M) (J (mN s.w)) (I i) (I s.kind) (I s.form) (hM h f g) = some ((), hM h f1 g1) := v1
      simp only [p_X12_makes_c58, z_b, ite_ap, m_gI m, q1, e1, if_false, m_gR m 2 (by decide), m_aL m 2 12 (by decide) i12 (by decide), a1, m_gR m 3 (by decide), m_aI m 3 12 (by decide) i12 (by decide), a2, m_gR m 4 (by decide), m_aI m 4 12 (by decide) i12 (by decide), a3, m_gR m 5 (by decide), m_aI m 5 12 (by decide) i12 (by decide), a4, m_vr m, v1', b1, b2, b3, b4, y1', z_n, e2]
theorem used_zero : ∀ n, used (fun _ => 0) n = 0 := by
  intro n
  induction n with
  | zero => rfl
  | succ n ih => rw [used_succ, ih]; rfl
theorem TC_nil {f : FI} {g : FL} (h35 : f M 35 = 0) (hz : ∀ s, s < 16384 → g (ar 36) s = 0 ∧ f (ar 37) s = 0 ∧ f (ar 38) s = 0 ∧ f (ar 39) s = 0) : TC f g ar M [] := by
  refine ⟨fun _ => 0, fun _ => 0, fun _ => 0, fun _ => 0, ?_, ⟨?_, used_zero _, fun s _ h => absurd rfl h, fun _ _ _ => ⟨rfl, rfl, rfl⟩, ?_, fun _ _ => ⟨Nat.zero_lt_succ _, Nat.zero_lt_succ _, Nat.zero_lt_succ _⟩, ?_⟩, h35⟩
  · intro s hs
    obtain ⟨a, b, c, d⟩ := hz s hs
    rw [a, b, c, d]
    exact ⟨⟨rfl, Nat.zero_lt_succ _⟩, rfl, rfl, rfl⟩
  · exact List.Pairwise.nil
  · intro w _ hh
    obtain ⟨e, he, -⟩ := hh
    cases he
  · intro c hh
    obtain ⟨e, he, -⟩ := hh
    cases he
theorem mk_l10 (m : MAt h M ar) {sl : List St} (c : Nat) :
    ∀ (i n : Nat) (f : FI) (g : FL), i + c = 16384 → c < n → RsM f g ar M rs → SsM f g ar M sl → (∀ s, s < i → g (ar 36) s = 0 ∧ f (ar 37) s = 0 ∧ f (ar 38) s = 0 ∧ f (ar 39) s = 0) →
      ∃ f' g', p_X12_makes_l10 n (some M) (I i) (hM h f g) = some ((), hM h f' g') ∧ TC f' g' ar M (madeOf rs sl []) ∧ MF2 f f' g g' ar M ∧ f' M 34 = 1 := by
  induction c with
  | zero =>
    intro i n f g h1 h2 hr hs hz
    obtain ⟨n, rfl⟩ := Nat.exists_eq_add_of_lt h2
    have hi : i = 16384 := by omega
    subst hi
    have fr : MF f (zu f M 35 0) g g ar M := ⟨fun j hj => by rw [zu_cell, if_neg hj], Fr.zu (by simp), fun _ _ => rfl⟩
    have hT : TC (zu f M 35 0) g ar M [] := TC_nil (zu_same _ _ _ _) (fun s hs => by
      rw [zu_ne (m.2.1 37 (by decide)).2.2, zu_ne (m.2.1 38 (by decide)).2.2, zu_ne (m.2.1 39 (by decide)).2.2]
      exact hz s hs)
    have s12 := hs.2.1
    obtain ⟨f', g', p1, p2, p3, p4⟩ := mk_l58 m sl 0 zFuel (zu f M 35 0) g [] rfl (by omega) (by unfold zFuel; omega) (hr.fr fr m) (hs.fr fr m) hT (by simp; omega)
    refine ⟨f', g', ?_, p2, fr.two.trans p3, p4⟩
    rw [← p1]
    show p_X12_makes_c10 _ _ _ _ = _
    simp only [p_X12_makes_c10, p_X12_makes_b51, z_b, ite_ap, m_pI m]
    rfl
  | succ c ih =>
    intro i n f g h1 h2 hr hs hz
    cases n with
    | zero => exact absurd h2 (Nat.not_lt_zero _)
    | succ n =>
      have hi : i < 16384 := by omega
      have e1 : ¬ ((16384 : Int32) ≤ I (i : Int)) := by rw [lit, I_le (by decide) (by omega)]; omega
      have e2 : I (i : Int) + 1 = I ((i + 1 : Nat) : Int) := I_add _ 1
      have d78 := ar_ne m (i := 37) (j := 38) (by decide) (by decide) (by decide)
      have d79 := ar_ne m (i := 37) (j := 39) (by decide) (by decide) (by decide)
      have d89 := ar_ne m (i := 38) (j := 39) (by decide) (by decide) (by decide)
      have fr : MF f (zu (zu (zu f (ar 37) i 0) (ar 38) i 0) (ar 39) i 0) g (zu g (ar 36) i 0) ar M := by
        refine ⟨fun j hj => ?_, ((Fr.zu (by simp)).trans (Fr.zu (by simp))).trans (Fr.zu (by simp)), fun b hb => zu_ne hb _ _⟩
        rw [zu_ne (m.2.1 39 (by decide)).2.2.symm, zu_ne (m.2.1 38 (by decide)).2.2.symm, zu_ne (m.2.1 37 (by decide)).2.2.symm]
      obtain ⟨f', g', p1, p2, p3, p4⟩ := ih (i + 1) n _ _ (by omega) (by omega) (hr.fr fr m) (hs.fr fr m) (fun s hs => by
        rw [zu_ne d79, zu_ne d78, zu_ne d89, zu_cell, zu_cell, zu_cell, zu_cell]
        by_cases q : s = i
        · rw [if_pos q, if_pos q, if_pos q, if_pos q]; exact ⟨rfl, rfl, rfl, rfl⟩
        · rw [if_neg q, if_neg q, if_neg q, if_neg q, zu_ne d78.symm, zu_ne d89.symm, zu_ne d79.symm]; exact hz s (by omega))
      refine ⟨f', g', ?_, p2, fr.two.trans p3, p4⟩
      rw [← p1]
      show p_X12_makes_c10 (p_X12_makes_l10 n) _ _ _ = _
      simp only [p_X12_makes_c10, ite_ap, e1, if_false, z_b, m_gR m 36 (by decide), m_sL m 36 16384 (by decide) hi (by decide), m_gR m 37 (by decide), m_sI m 37 16384 (by decide) hi (by decide), m_gR m 38 (by decide), m_sI m 38 16384 (by decide) hi (by decide), m_gR m 39 (by decide), m_sI m 39 16384 (by decide) hi (by decide), z_n, e2]
/-- the made words stand in the table, whether they stood there or not -/
theorem makes_eq (m : MAt h M ar) {sl : List St} {f : FI} {g : FL} (hr : RsM f g ar M rs) (hs : SsM f g ar M sl) (hT : f M 34 = 1 ∧ TC f g ar M (madeOf rs sl []) ∨ f M 34 = 0) :
    ∃ f' g', p_X12_makes (some M) (hM h f g) = some ((), hM h f' g') ∧ TC f' g' ar M (madeOf rs sl []) ∧ MF2 f f' g g' ar M ∧ f' M 34 = 1 := by
  rcases hT with ⟨q1, q2⟩ | q
  · refine ⟨f, g, ?_, q2, (MF.refl _ _ _ _).two, q1⟩
    simp only [p_X12_makes, z_b, m_gI m, q1, ite_ap, z_rt]
    rfl
  · obtain ⟨f', g', p1, p2, p3, p4⟩ := mk_l10 m 16384 0 zFuel f g (by omega) (by unfold zFuel; omega) hr hs (fun s h => absurd h (Nat.not_lt_zero _))
    refine ⟨f', g', ?_, p2, p3, p4⟩
    rw [← p1]
    simp only [p_X12_makes, z_b, m_gI m, q, ite_ap, if_true]
    rfl
end
