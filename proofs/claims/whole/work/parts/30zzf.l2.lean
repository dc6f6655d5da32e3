/-! ===== the reference sorts what it found ===== -/
def ltE (e e' : Nat × Wd) : Prop := e.1 < e'.1 ∨ e.1 = e'.1 ∧ mN e.2 < mN e'.2
theorem ltE_trans {a b c : Nat × Wd} (h1 : ltE a b) (h2 : ltE b c) : ltE a c := by
  unfold ltE at *; omega
theorem ltE_irr {a : Nat × Wd} : ¬ ltE a a := by unfold ltE; omega
section
variable {h : ZH} {M : Nat} {ar : Nat → Nat}
/-- the found words as a row of n -/
def FoG (f : FI) (g : FL) (ar : Nat → Nat) (M : Nat) (G : Nat → Nat × Wd) (n : Nat) : Prop := f M 52 = I n ∧ ∀ i, i < n → g (ar 53) i = J (mN (G i).2) ∧ f (ar 54) i = I (G i).1
/-- the same words whatever the order -/
def SeG (S : Nat × Wd → Prop) (G : Nat → Nat × Wd) (n : Nat) : Prop := (∀ e, (∃ i, i < n ∧ G i = e) ↔ S e) ∧ (∀ i j, i < n → j < n → (G i).2 = (G j).2 → i = j) ∧ ∀ e, S e → e.1 ≤ 4 ∧ WdOk e.2
def swp (G : Nat → Nat × Wd) (a b : Nat) : Nat → Nat × Wd := fun i => if i = a then G b else if i = b then G a else G i
theorem SeG.sw {S : Nat × Wd → Prop} {G : Nat → Nat × Wd} {n a b : Nat} (h : SeG S G n) (ha : a < n) (hb : b < n) : SeG S (swp G a b) n := by
  obtain ⟨h1, h2, h3⟩ := h
  refine ⟨fun e => ?_, fun i j hi hj hij => ?_, h3⟩
  · rw [← h1 e]
    constructor
    · rintro ⟨i, i1, i2⟩
      unfold swp at i2
      by_cases q : i = a
      · rw [if_pos q] at i2; exact ⟨b, hb, i2⟩
      · rw [if_neg q] at i2
        by_cases z : i = b
        · rw [if_pos z] at i2; exact ⟨a, ha, i2⟩
        · rw [if_neg z] at i2; exact ⟨i, i1, i2⟩
    · rintro ⟨i, i1, i2⟩
      by_cases q : i = a
      · refine ⟨b, hb, ?_⟩
        unfold swp
        by_cases z : b = a
        · rw [if_pos z, z, ← q]; exact i2
        · rw [if_neg z, if_pos rfl, ← q]; exact i2
      · by_cases z : i = b
        · refine ⟨a, ha, ?_⟩
          unfold swp
          rw [if_pos rfl, ← z]; exact i2
        · refine ⟨i, i1, ?_⟩
          unfold swp
          rw [if_neg q, if_neg z]; exact i2
  · unfold swp at hij
    by_cases q1 : i = a
    · by_cases q2 : j = a
      · omega
      · rw [if_pos q1, if_neg q2] at hij
        by_cases q3 : j = b
        · rw [if_pos q3] at hij
          have := h2 b a hb ha hij
          omega
        · rw [if_neg q3] at hij
          have := h2 b j hb hj hij
          omega
    · rw [if_neg q1] at hij
      by_cases q2 : j = a
      · rw [if_pos q2] at hij
        by_cases q3 : i = b
        · rw [if_pos q3] at hij
          have := h2 a b ha hb hij
          omega
        · rw [if_neg q3] at hij
          have := h2 i b hi hb hij
          omega
      · rw [if_neg q2] at hij
        by_cases q3 : i = b
        · rw [if_pos q3] at hij
          by_cases q4 : j = b
          · omega
          · rw [if_neg q4] at hij
            have := h2 a j ha hj hij
            omega
        · rw [if_neg q3] at hij
          by_cases q4 : j = b
          · rw [if_pos q4] at hij
            have := h2 i a hi ha hij
            omega
          · rw [if_neg q4] at hij
            exact h2 i j hi hj hij
theorem SeG.tot {S : Nat × Wd → Prop} {G : Nat → Nat × Wd} {n i j : Nat} (h : SeG S G n) (hi : i < n) (hj : j < n) (hij : i ≠ j) (hn : ¬ ltE (G i) (G j)) : ltE (G j) (G i) := by
  obtain ⟨h1, h2, h3⟩ := h
  obtain ⟨a1, a2⟩ := h3 (G i) ((h1 _).mp ⟨i, hi, rfl⟩)
  obtain ⟨b1, b2⟩ := h3 (G j) ((h1 _).mp ⟨j, hj, rfl⟩)
  have hne : mN (G i).2 ≠ mN (G j).2 := fun q => hij (h2 i j hi hj ((mN_inj a2.1 b2.1).mp q))
  unfold ltE at *
  omega
theorem lgc_ge (a b : Nat) (ha : a < 281474976710656) (hb : b < 281474976710656) : ((0 : Int32) ≤ lg_cmp (J a) (J b)) ↔ ¬ a < b := by
  unfold lg_cmp
  have e1 : (J (a : Int) > J (b : Int)) ↔ b < a := by
    show J (b : Int) < J (a : Int) ↔ _
    rw [J_lt (by omega) (by omega)]; omega
  have e2 : (J (a : Int) = J (b : Int)) ↔ a = b := by rw [J_inj (by omega) (by omega)]; omega
  by_cases q1 : b < a
  · rw [if_pos (e1.mpr q1)]; exact Iff.intro (fun _ => by omega) (fun _ => by decide)
  · rw [if_neg (fun z => q1 (e1.mp z))]
    by_cases q2 : a = b
    · rw [if_pos (e2.mpr q2)]; exact Iff.intro (fun _ => by omega) (fun _ => by decide)
    · rw [if_neg (fun z => q2 (e2.mp z))]; exact Iff.intro (fun z => absurd z (by decide)) (fun z => absurd (show a < b by omega) z)
theorem ahead_eq (m : MAt h M ar) {f : FI} {g : FL} {k : Nat} (hk : k < 8200) {e e' : Nat × Wd} (h1 : g (ar 53) k = J (mN e'.2)) (h2 : f (ar 54) k = I e'.1) (he : e.1 ≤ 4 ∧ WdOk e.2) (he' : e'.1 ≤ 4 ∧ WdOk e'.2) (hd : Decidable (ltE e e')) : p_X12_isAhead (some M) (I e.1) (J (mN e.2)) (I k) (hM h f g) = some (if ltE e e' then 1 else 0, hM h f g) := by
  have a := mN_range he.2.1 (show e.2.length ≤ 12 by have : e.2.length ≤ 10 := he.2.2.2; omega)
  have b := mN_range he'.2.1 (show e'.2.length ≤ 12 by have : e'.2.length ≤ 10 := he'.2.2.2; omega)
  have q1 : (I (e.1 : Int) < I (e'.1 : Int)) ↔ e.1 < e'.1 := by rw [I_lt (by omega) (by omega)]; omega
  have q2 : (I (e.1 : Int) = I (e'.1 : Int)) ↔ e.1 = e'.1 := I_eqN (by omega) (by omega)
  have q3 := lgc_ge (mN e.2) (mN e'.2) a b
  simp only [p_X12_isAhead, z_b, z_rz, ite_ap, m_gR m 54 (by decide), m_aI m 54 8200 (by decide) hk (by decide), h2, q1, q2, m_gR m 53 (by decide), m_aL m 53 8200 (by decide) hk (by decide), h1, q3, true_or, or_true, if_true]
  by_cases z1 : e.1 < e'.1
  · rw [if_pos z1, if_pos (show ltE e e' from Or.inl z1)]
  · rw [if_neg z1]
    by_cases z2 : e.1 = e'.1
    · rw [if_neg (fun y => y z2)]
      by_cases z3 : mN e.2 < mN e'.2
      · rw [if_neg (fun y => y z3), if_pos (show ltE e e' from Or.inr ⟨z2, z3⟩)]
      · rw [if_pos z3, if_neg (show ¬ ltE e e' from fun y => y.elim z1 (fun y => z3 y.2))]
    · rw [if_pos z2, if_neg (show ¬ ltE e e' from fun y => y.elim z1 (fun y => z2 y.1))]
/-- sorted up to k, but for place a, whose word is ahead of those behind it -/
def Hol (G : Nat → Nat × Wd) (k a : Nat) : Prop := (∀ i j, i < j → j ≤ k → i ≠ a → j ≠ a → ltE (G i) (G j)) ∧ ∀ j, a < j → j ≤ k → ltE (G a) (G j)
def Srt (G : Nat → Nat × Wd) (k : Nat) : Prop := ∀ i j, i < j → j < k → ltE (G i) (G j)
/-- a word goes ahead by steps of the gap -/
theorem so186 (m : MAt h M ar) {S : Nat × Wd → Prop} {n gap : Nat} (hn : n ≤ 2010) (hg : 1 ≤ gap) (hgm : gap ≤ 1093) {k : Nat} (hk : k < n) (r153 : Option Nat → Int32 → ZM Unit) (r159 : Option Nat → Int32 → Int32 → ZM Unit) {e : Nat × Wd} (he : e.1 ≤ 4 ∧ WdOk e.2) :
    ∀ (q a : Nat) (f : FI) (g : FL) (G : Nat → Nat × Wd), a < q → a ≤ k → f M 52 = I n → G a = e → SeG S G n → (∀ i, i < n → i ≠ a → g (ar 53) i = J (mN (G i).2) ∧ f (ar 54) i = I (G i).1) → (gap = 1 → Hol G k a) →
      ∃ f' g' G', p_X12_suggests_l186 r153 r159 q (some M) (I gap) (I k) (J (mN e.2)) (I e.1) (I a) (hM h f g) = r159 (some M) (I gap) (I ((k + 1 : Nat) : Int)) (hM h f' g') ∧ FoG f' g' ar M G' n ∧ SeG S G' n ∧ (gap = 1 → Srt G' (k + 1)) ∧ MFr f f' g g' ar M [] [53, 54] := by
  intro q
  induction q with
  | zero => intro a f g G ha; exact absurd ha (Nat.not_lt_zero _)
  | succ q ih =>
    intro a f g G haq hak h52 hGa hS hP hH
    have e1 : (I (a : Int) < I (gap : Int)) ↔ a < gap := by rw [I_lt (by omega) (by omega)]; omega
    have n54 := (m.2.1 54 (by decide)).2.2
    have ek : I (k : Int) + 1 = I ((k + 1 : Nat) : Int) := I_add _ 1
    -- it stays at a
    have stay : (gap = 1 → 0 < a → ¬ ltE e (G (a - 1))) → ∃ f' g' G', p_X12_suggests_b248 r153 r159 (some M) (I gap) (I k) (J (mN e.2)) (I e.1) (I a) (hM h f g) = r159 (some M) (I gap) (I ((k + 1 : Nat) : Int)) (hM h f' g') ∧ FoG f' g' ar M G' n ∧ SeG S G' n ∧ (gap = 1 → Srt G' (k + 1)) ∧ MFr f f' g g' ar M [] [53, 54] := by
      intro hst
      refine ⟨zu f (ar 54) a (I e.1), zu g (ar 53) a (J (mN e.2)), G, ?_, ⟨by rw [zu_ne n54.symm]; exact h52, fun i hi => ?_⟩, hS, fun hg1 => ?_, (MFr.sL m 53 _ _ (by decide) (by simp)).trans (MFr.sI m 54 _ _ (by decide) (by simp))⟩
      · simp only [p_X12_suggests_b248, z_b, z_n, m_gR m 53 (by decide), m_sL m 53 8200 (by decide) (show a < 8200 by omega) (by decide), m_gR m 54 (by decide), m_sI m 54 8200 (by decide) (show a < 8200 by omega) (by decide), ek]
      · rw [zu_cell, zu_cell]
        by_cases z : i = a
        · rw [if_pos z, if_pos z, z, hGa]; exact ⟨rfl, rfl⟩
        · rw [if_neg z, if_neg z]; exact hP i hi z
      · obtain ⟨h1, h2⟩ := hH hg1
        intro i j hij hj
        by_cases za : i = a
        · rw [za]; exact h2 j (by omega) (by omega)
        · by_cases zb : j = a
          · rw [zb]
            have prev : ltE (G (a - 1)) (G a) := hS.tot (by omega) (by omega) (by omega) (by rw [hGa]; exact hst hg1 (by omega))
            by_cases zc : i = a - 1
            · rw [zc]; exact prev
            · exact ltE_trans (h1 i (a - 1) (by omega) (by omega) za (by omega)) prev
          · exact h1 i j hij (by omega) za zb
    show ∃ f' g' G', p_X12_suggests_c186 r153 r159 (p_X12_suggests_l186 r153 r159 q) _ _ _ _ _ _ _ = _ ∧ _
    simp only [p_X12_suggests_c186, z_b, ite_ap, e1]
    by_cases hag : a < gap
    · rw [if_pos hag]
      exact stay (fun g1 z => by omega)
    · rw [if_neg hag]
      have ea : I (a : Int) - I (gap : Int) = I ((a - gap : Nat) : Int) := I_sn _ _ (by omega)
      obtain ⟨b1, b2⟩ := hP (a - gap) (by omega) (by omega)
      have he' := hS.2.2 (G (a - gap)) ((hS.1 _).mp ⟨a - gap, by omega, rfl⟩)
      have hd : Decidable (ltE e (G (a - gap))) := Classical.propDecidable _
      have ah := ahead_eq (f := f) (g := g) m (k := a - gap) (by omega) b1 b2 he he' hd
      simp only [ea, m_vr m, ah]
      by_cases z : ltE e (G (a - gap))
      · rw [if_pos z, if_neg (by decide)]
        have F1 : MFr f (zu f (ar 54) a (I (G (a - gap)).1)) g (zu g (ar 53) a (J (mN (G (a - gap)).2))) ar M [] [53, 54] := (MFr.sL m 53 _ _ (by decide) (by simp)).trans (MFr.sI m 54 _ _ (by decide) (by simp))
        obtain ⟨f', g', G', p1, p2, p3, p4, p5⟩ := ih (a - gap) (zu f (ar 54) a (I (G (a - gap)).1)) (zu g (ar 53) a (J (mN (G (a - gap)).2))) (swp G a (a - gap)) (by omega) (by omega) (by rw [zu_ne n54.symm]; exact h52) (by unfold swp; rw [if_neg (by omega), if_pos rfl]; exact hGa) (hS.sw (by omega) (by omega))
          (fun i hi hia => by
            rw [zu_cell, zu_cell]
            unfold swp
            by_cases y : i = a
            · rw [if_pos y, if_pos y, if_pos y]; exact ⟨rfl, rfl⟩
            · rw [if_neg y, if_neg y, if_neg y, if_neg hia]; exact hP i hi y)
          (fun g1 => by
            obtain ⟨h1, h2⟩ := hH g1
            subst g1
            have s1 : swp G a (a - 1) a = G (a - 1) := if_pos rfl
            have s2 : swp G a (a - 1) (a - 1) = G a := by unfold swp; rw [if_neg (by omega), if_pos rfl]
            have s3 : ∀ i, i ≠ a → i ≠ a - 1 → swp G a (a - 1) i = G i := fun i y1 y2 => by unfold swp; rw [if_neg y1, if_neg y2]
            refine ⟨fun i j hij hj y1 y2 => ?_, fun j hj1 hj2 => ?_⟩
            · by_cases x1 : i = a
              · rw [x1, s1, s3 j (by omega) y2]
                exact h1 (a - 1) j (by omega) hj (by omega) (by omega)
              · by_cases x2 : j = a
                · rw [x2, s1, s3 i x1 y1]
                  exact h1 i (a - 1) (by omega) (by omega) x1 (by omega)
                · rw [s3 i x1 y1, s3 j x2 y2]
                  exact h1 i j hij hj x1 x2
            · rw [s2]
              by_cases x1 : j = a
              · rw [x1, s1, hGa]; exact z
              · rw [s3 j x1 (by omega)]
                exact h2 j (by omega) hj2)
        refine ⟨f', g', G', ?_, p2, p3, p4, F1.trans p5⟩
        rw [← p1]
        have e6 : zu f (ar 54) a (I (G (a - gap)).1) (ar 54) a = I (G (a - gap)).1 := zu_same _ _ _ _
        simp only [m_gR m 53 (by decide), m_aL m 53 8200 (by decide) (show a - gap < 8200 by omega) (by decide), b1, m_sL m 53 8200 (by decide) (show a < 8200 by omega) (by decide), m_gR m 54 (by decide), m_aI m 54 8200 (by decide) (show a - gap < 8200 by omega) (by decide), b2, m_sI m 54 8200 (by decide) (show a < 8200 by omega) (by decide), z_n]
      · rw [if_neg z, if_pos rfl]
        exact stay (fun g1 y => by rw [g1] at z; exact z)
/-- one pass with a gap -/
theorem so159 (m : MAt h M ar) {S : Nat × Wd → Prop} {n gap : Nat} (hn : n ≤ 2010) (hg : 1 ≤ gap) (hgm : gap ≤ 1093) (r153 : Option Nat → Int32 → ZM Unit) :
    ∀ (c k q : Nat) (f : FI) (g : FL) (G : Nat → Nat × Wd), (k + c = n ∨ n ≤ k ∧ c = 0) → k ≤ 4000 → c < q → FoG f g ar M G n → SeG S G n → (gap = 1 → Srt G k) →
      ∃ f' g' G', p_X12_suggests_l159 r153 q (some M) (I gap) (I k) (hM h f g) = r153 (some M) (I ((gap / 3 : Nat) : Int)) (hM h f' g') ∧ FoG f' g' ar M G' n ∧ SeG S G' n ∧ (gap = 1 → Srt G' n) ∧ MFr f f' g g' ar M [] [53, 54] := by
  have eg : I (gap : Int) / 3 = I ((gap / 3 : Nat) : Int) := by
    rw [show (3 : Int32) = I (3 : Int) from rfl, I_div (by omega) (by omega)]; rfl
  intro c
  induction c with
  | zero =>
    intro k q f g G hk hk4 hq F hS hs
    obtain ⟨q, rfl⟩ := Nat.exists_eq_add_of_lt hq
    have e1 : I (n : Int) ≤ I (k : Int) := by rw [I_le (by omega) (by omega)]; omega
    refine ⟨f, g, G, ?_, F, hS, fun g1 i j hij hj => hs g1 i j hij (by omega), MFr.refl _ _ _ _ _ _⟩
    show p_X12_suggests_c159 _ _ _ _ _ _ = _
    simp only [p_X12_suggests_c159, p_X12_suggests_b272, z_b, z_n, ite_ap, m_gI m, F.1, e1, if_true, eg]
  | succ c ih =>
    intro k q f g G hk hk4 hq F hS hs
    cases q with
    | zero => exact absurd hq (Nat.not_lt_zero _)
    | succ q =>
      have hkn : k < n := by omega
      have e1 : ¬ I (n : Int) ≤ I (k : Int) := by rw [I_le (by omega) (by omega)]; omega
      obtain ⟨b1, b2⟩ := F.2 k hkn
      have he := hS.2.2 (G k) ((hS.1 _).mp ⟨k, hkn, rfl⟩)
      obtain ⟨f1, g1, G1, v1, v2, v3, v4, v5⟩ := so186 (h := h) m hn hg hgm hkn r153 (p_X12_suggests_l159 r153 q) he zFuel k f g G (by unfold zFuel; omega) (Nat.le_refl _) F.1 rfl hS (fun i hi _ => F.2 i hi) (fun g1 => ⟨fun i j hij hj x1 x2 => hs g1 i j hij (by omega), fun j h1 h2 => absurd h1 (by omega)⟩)
      obtain ⟨f', g', G', p1, p2, p3, p4, p5⟩ := ih (k + 1) q f1 g1 G1 (by omega) (by omega) (by omega) v2 v3 v4
      refine ⟨f', g', G', ?_, p2, p3, p4, v5.trans p5⟩
      rw [← p1, ← v1]
      show p_X12_suggests_c159 r153 (p_X12_suggests_l159 r153 q) _ _ _ _ = _
      simp only [p_X12_suggests_c159, z_b, ite_ap, m_gI m, F.1, e1, if_false, m_gR m 53 (by decide), m_aL m 53 8200 (by decide) (show k < 8200 by omega) (by decide), b1, m_gR m 54 (by decide), m_aI m 54 8200 (by decide) (show k < 8200 by omega) (by decide), b2]
theorem so_pass (m : MAt h M ar) {S : Nat × Wd → Prop} {n gap : Nat} (hn : n ≤ 2010) (hg : 1 ≤ gap) (hgm : gap ≤ 1093) (q : Nat) (f : FI) (g : FL) (G : Nat → Nat × Wd) (F : FoG f g ar M G n) (hS : SeG S G n) :
      ∃ f' g' G', p_X12_suggests_l153 (q + 1) (some M) (I gap) (hM h f g) = p_X12_suggests_l153 q (some M) (I ((gap / 3 : Nat) : Int)) (hM h f' g') ∧ FoG f' g' ar M G' n ∧ SeG S G' n ∧ (gap = 1 → Srt G' n) ∧ MFr f f' g g' ar M [] [53, 54] := by
  obtain ⟨f', g', G', p1, p2, p3, p4, p5⟩ := so159 (h := h) m hn hg hgm (p_X12_suggests_l153 q) (n - gap) gap zFuel f g G (by omega) (by omega) (by unfold zFuel; omega) F hS (fun g1 i j hij hj => by omega)
  refine ⟨f', g', G', ?_, p2, p3, p4, p5⟩
  rw [← p1]
  have e1 : ¬ I (gap : Int) ≤ 0 := by rw [lit, I_le (by omega) (by decide)]; omega
  show p_X12_suggests_c153 (p_X12_suggests_l153 q) _ _ _ = _
  simp only [p_X12_suggests_c153, ite_ap, e1, if_false]
theorem so_eq (m : MAt h M ar) {S : Nat × Wd → Prop} {n : Nat} (hn : n ≤ 2010) (f : FI) (g : FL) (G : Nat → Nat × Wd) (F : FoG f g ar M G n) (hS : SeG S G n) :
      ∃ f' g' G', p_X12_suggests_l153 zFuel (some M) 1093 (hM h f g) = some ((), hM h f' g') ∧ FoG f' g' ar M G' n ∧ SeG S G' n ∧ Srt G' n ∧ MFr f f' g g' ar M [] [53, 54] := by
  have hz : zFuel = zFuel - 8 + 1 + 1 + 1 + 1 + 1 + 1 + 1 + 1 := rfl
  rw [hz]
  generalize zFuel - 8 = z
  obtain ⟨f1, g1, G1, a1, a2, a3, -, a5⟩ := so_pass (h := h) m hn (gap := 1093) (by decide) (by decide) (z + 1 + 1 + 1 + 1 + 1 + 1 + 1) f g G F hS
  obtain ⟨f2, g2, G2, b1, b2, b3, -, b5⟩ := so_pass (h := h) m hn (gap := 364) (by decide) (by decide) (z + 1 + 1 + 1 + 1 + 1 + 1) f1 g1 G1 a2 a3
  obtain ⟨f3, g3, G3, c1, c2, c3, -, c5⟩ := so_pass (h := h) m hn (gap := 121) (by decide) (by decide) (z + 1 + 1 + 1 + 1 + 1) f2 g2 G2 b2 b3
  obtain ⟨f4, g4, G4, d1, d2, d3, -, d5⟩ := so_pass (h := h) m hn (gap := 40) (by decide) (by decide) (z + 1 + 1 + 1 + 1) f3 g3 G3 c2 c3
  obtain ⟨f5, g5, G5, e1, e2, e3, -, e5⟩ := so_pass (h := h) m hn (gap := 13) (by decide) (by decide) (z + 1 + 1 + 1) f4 g4 G4 d2 d3
  obtain ⟨f6, g6, G6, x1, x2, x3, -, x5⟩ := so_pass (h := h) m hn (gap := 4) (by decide) (by decide) (z + 1 + 1) f5 g5 G5 e2 e3
  obtain ⟨f7, g7, G7, y1, y2, y3, y4, y5⟩ := so_pass (h := h) m hn (gap := 1) (by decide) (by decide) (z + 1) f6 g6 G6 x2 x3
  refine ⟨f7, g7, G7, ?_, y2, y3, y4 rfl, (((((a5.trans b5).trans c5).trans d5).trans e5).trans x5).trans y5⟩
  refine (a1.trans (b1.trans (c1.trans (d1.trans (e1.trans (x1.trans (y1.trans ?_)))))))
  show p_X12_suggests_c153 _ _ _ _ = _
  simp only [p_X12_suggests_c153, ite_ap, z_rt]
  rfl
end
