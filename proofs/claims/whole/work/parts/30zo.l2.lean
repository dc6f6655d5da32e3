/-- two objects with their rows lie apart -/
def Dj (x : Nat) (ar sz : Nat → Nat) (y : Nat) (ar' sz' : Nat → Nat) : Prop := x ≠ y ∧ (∀ j, sz' j ≠ 0 → x ≠ ar' j) ∧ (∀ i, sz i ≠ 0 → ar i ≠ y) ∧ ∀ i j, sz i ≠ 0 → sz' j ≠ 0 → ar i ≠ ar' j
theorem Dj.symm {x y : Nat} {ar sz ar' sz' : Nat → Nat} (d : Dj x ar sz y ar' sz') : Dj y ar' sz' x ar sz :=
  ⟨d.1.symm, fun j hj => (d.2.2.1 j hj).symm, fun i hi => (d.2.1 i hi).symm, fun i j hi hj => (d.2.2.2 j i hj hi).symm⟩
def pSz (j : Nat) : Nat := [50, 50, 50, 50, 100, 100].getD j 0
section
variable {h : ZH} {gx px : Nat} {rwg arg rwp arp : Nat → Nat} {tl R : Nat → Nat}
theorem toldC_fr {f f' : FI} {a : Nat} {A : List Nat} (T : ToldC f a tl) (F : Fr f f' A) (ha : a ∉ A) : ToldC f' a tl := fun i hi => by rw [F a ha]; exact T i hi
theorem pr_nat (k : Nat) : I (pr (k + 1)) = I (k : Int) := by unfold pr; rw [show ((k + 1 : Nat) : Int) - 1 = (k : Int) by omega]
theorem pr_inc (e : Nat) : I (pr e) + 1 = I (pr (e + 1)) := by
  unfold pr
  rw [show (1 : Int32) = I 1 from rfl, I_add, show (e : Int) - 1 + 1 = ((e + 1 : Nat) : Int) - 1 by omega]
/-- the fewest of one word, for all its readings -/
theorem cho15 (og : Ob h 1 gx rwg arg gSz) (op : Ob h 4 px rwp arp pSz) (d : Dj gx arg gSz px arp pSz) (r6 : Option Nat → Option Nat → Option Nat → Int32 → Int32 → Int32 → ZM Unit) {a b i : Nat} (hb : b ≤ 50) (hi : i < b) (hR : ∀ j, j < b → R j < 256) :
    ∀ (c e n : Nat) (f : FI), e + c = 9 → c < n → ToldC f (arg 0) tl → (∀ j, j < b → f (arp 0) j = I (R j)) → (i + 1 < b → FewC f (arg 1) (i + 1) (fewN tl R (b - 1 - (i + 1)) (i + 1))) → (∀ x, x < e → f (arg 1) (i * 9 + x) = I (fewN tl R (b - 1 - i) i x)) →
      ∃ f', p_X0_choose_l15 r6 n (some gx) (some (rwp 0)) (some (rwp 1)) (I a) (I b) (I i) (I (pr e)) (hI h f) = r6 (some gx) (some (rwp 0)) (some (rwp 1)) (I a) (I b) (I ((i : Int) - 1)) (hI h f') ∧ FewC f' (arg 1) i (fewN tl R (b - 1 - i) i) ∧ (∀ x, (i + 1) * 9 ≤ x → f' (arg 1) x = f (arg 1) x) ∧ Fr f f' [arg 1] := by
  intro c
  induction c with
  | zero =>
    intro e n f he hn T S W X
    obtain ⟨n, rfl⟩ := Nat.exists_eq_add_of_lt hn
    have he' : e = 8 + 1 := by omega
    subst he'
    refine ⟨f, ?_, fun x hx => X x (by omega), fun _ _ => rfl, Fr.refl _ _⟩
    have e1 : (8 : Int32) ≤ I (pr (8 + 1)) := by rw [pr_nat, lit, I_le (by decide) (by decide)]; decide
    have e2 : I (i : Int) + -1 = I ((i : Int) - 1) := by rw [show (-1 : Int32) = I (-1) from rfl, I_add]; rfl
    show p_X0_choose_c15 _ _ _ _ _ _ _ _ _ _ = _
    simp only [p_X0_choose_c15, p_X0_choose_b84, z_n, ite_ap, e1, if_true, e2]
  | succ c ih =>
    intro e n f he hn T S W X
    cases n with
    | zero => exact absurd hn (Nat.not_lt_zero _)
    | succ n =>
      have e1 : ¬ (8 : Int32) ≤ I (pr e) := by unfold pr; rw [lit, I_le (by decide) (by omega)]; omega
      have n01 := o_ne og (i := 0) (j := 1) (by decide) (by decide) (by decide)
      have n0 : arp 0 ≠ arg 1 := (d.2.2.2 1 0 (by decide) (by decide)).symm
      have ei : I (i : Int) + 1 = I ((i + 1 : Nat) : Int) := I_add _ 1
      have eq1 : (I (b : Int) ≤ I ((i + 1 : Nat) : Int)) ↔ ¬ i + 1 < b := by rw [I_le (by omega) (by omega)]; omega
      have eidx : I (i : Int) * 9 + I (pr e) + 1 = I ((i * 9 + e : Nat) : Int) := by
        unfold pr
        rw [show (9 : Int32) = I ((9 : Nat) : Int) from rfl, I_mn, I_add, show (1 : Int32) = I 1 from rfl, I_add, show ((i * 9 : Nat) : Int) + ((e : Int) - 1) + 1 = ((i * 9 + e : Nat) : Int) by omega]
      have step : ∀ v : Nat, v = fewN tl R (b - 1 - i) i e → ∃ f', p_X0_choose_b68 r6 (p_X0_choose_l15 r6 n) (some gx) (some (rwp 0)) (some (rwp 1)) (I a) (I b) (I i) (I (pr e)) (I v) (hI h f) = r6 (some gx) (some (rwp 0)) (some (rwp 1)) (I a) (I b) (I ((i : Int) - 1)) (hI h f') ∧ FewC f' (arg 1) i (fewN tl R (b - 1 - i) i) ∧ (∀ x, (i + 1) * 9 ≤ x → f' (arg 1) x = f (arg 1) x) ∧ Fr f f' [arg 1] := by
        intro v hv
        have F1 : Fr f (zu f (arg 1) (i * 9 + e) (I v)) [arg 1] := Fr.zu (by simp)
        obtain ⟨f', p1, p2, p3, p4⟩ := ih (e + 1) n (zu f (arg 1) (i * 9 + e) (I v)) (by omega) (by omega) (toldC_fr T F1 (by simpa using n01))
          (fun j hj => by rw [zu_ne n0]; exact S j hj)
          (fun hlt x hx => by rw [zu_cell, if_neg (by omega)]; exact W hlt x hx)
          (fun x hx => by
            rw [zu_cell]
            by_cases q : i * 9 + x = i * 9 + e
            · rw [if_pos q, hv, show x = e by omega]
            · rw [if_neg q]; exact X x (by omega))
        refine ⟨f', ?_, p2, fun x hx => ?_, F1.trans p4⟩
        · rw [← p1]
          simp only [p_X0_choose_b68, p_X0_setFewest, z_b, z_n, z_rt, o_vr og, o_gR og 1 (by decide), o_rv og 1 (by decide), eidx, o_set og 1 450 rfl (show i * 9 + e < 450 by omega), pr_inc]
        · rw [p3 x hx, zu_cell, if_neg (by omega)]
      show ∃ f', p_X0_choose_c15 r6 (p_X0_choose_l15 r6 n) _ _ _ _ _ _ _ _ = _ ∧ _
      simp only [p_X0_choose_c15, z_b, ite_ap, e1, if_false, ei, eq1]
      by_cases hlt : i + 1 < b
      · rw [if_neg (fun z => z hlt)]
        have Wn := W hlt
        have bl := fewN_le tl R (b - 1 - (i + 1)) (i + 1)
        have be := best_eq og T (i := i + 1) (by omega) Wn (fun x => by have := bl x; omega) (S := R (i + 1)) (p := e) (hR _ hlt) (by omega)
        have cb := countBroken_eq og T (i := i + 1) (by omega) Wn (e := bestOf tl (fewN tl R (b - 1 - (i + 1)) (i + 1)) (R (i + 1)) e) (p := e) (bestOf_le _ _ _ _) (by omega)
        simp only [o_rv op 0 (by decide), o_get op 0 50 rfl (show i + 1 < 50 by omega), S (i + 1) hlt, o_vr og, be, cb]
        refine step _ ?_
        rw [show b - 1 - i = (b - 1 - (i + 1)) + 1 by omega]
        rfl
      · rw [if_pos hlt]
        refine step 0 ?_
        rw [show b - 1 - i = 0 by omega]
        rfl
/-- the readings, from the first word on -/
theorem cho96 (og : Ob h 1 gx rwg arg gSz) (op : Ob h 4 px rwp arp pSz) (d : Dj gx arg gSz px arp pSz) {b : Nat} (hb : b ≤ 50) (hR : ∀ j, j < b → R j < 256) {E : Nat → Nat} :
    ∀ (c i n : Nat) (p : Nat) (f : FI), i + c = b → c < n → p ≤ 8 → ToldC f (arg 0) tl → (∀ j, j < b → f (arp 0) j = I (R j)) → (∀ j, i ≤ j → j < b → FewC f (arg 1) j (fewN tl R (b - 1 - j) j)) → (i < b → E i = bestOf tl (fewN tl R (b - 1 - i) i) (R i) p) → (∀ j, i < j → j < b → E j = bestOf tl (fewN tl R (b - 1 - j) j) (R j) (E (j - 1))) →
      ∃ f', p_X0_choose_l96 n (some gx) (some (rwp 0)) (some (rwp 1)) (I b) (I (pr p)) (I i) (hI h f) = some ((), hI h f') ∧ (∀ j, i ≤ j → j < b → f' (arp 1) j = I (pr (E j))) ∧ (∀ j, ¬ (i ≤ j ∧ j < b) → f' (arp 1) j = f (arp 1) j) ∧ Fr f f' [arp 1] := by
  intro c
  induction c with
  | zero =>
    intro i n p f hi hn hp T S W E0 E1
    obtain ⟨n, rfl⟩ := Nat.exists_eq_add_of_lt hn
    have e1 : I (b : Int) ≤ I (i : Int) := by rw [I_le (by omega) (by omega)]; omega
    refine ⟨f, ?_, fun j h1 h2 => absurd h2 (by omega), fun _ _ => rfl, Fr.refl _ _⟩
    show p_X0_choose_c96 _ _ _ _ _ _ _ _ = _
    simp only [p_X0_choose_c96, z_rt, ite_ap, e1, if_true]
  | succ c ih =>
    intro i n p f hi hn hp T S W E0 E1
    cases n with
    | zero => exact absurd hn (Nat.not_lt_zero _)
    | succ n =>
      have hib : i < b := by omega
      have e1 : ¬ I (b : Int) ≤ I (i : Int) := by rw [I_le (by omega) (by omega)]; omega
      have e2 : I (i : Int) + 1 = I ((i + 1 : Nat) : Int) := I_add _ 1
      have bl := fewN_le tl R (b - 1 - i) i
      have be := best_eq og T (i := i) (by omega) (W i (Nat.le_refl _) hib) (fun x => by have := bl x; omega) (S := R i) (p := p) (hR _ hib) hp
      rw [← E0 hib] at be
      have hE : E i ≤ 8 := by rw [E0 hib]; exact bestOf_le _ _ _ _
      have m0 : arg 0 ≠ arp 1 := d.2.2.2 0 1 (by decide) (by decide)
      have m1 : arg 1 ≠ arp 1 := d.2.2.2 1 1 (by decide) (by decide)
      have n01 := o_ne op (i := 0) (j := 1) (by decide) (by decide) (by decide)
      have F1 : Fr f (zu f (arp 1) i (I (pr (E i)))) [arp 1] := Fr.zu (by simp)
      obtain ⟨f', p1, p2, p3, p4⟩ := ih (i + 1) n (E i) (zu f (arp 1) i (I (pr (E i)))) (by omega) (by omega) hE (toldC_fr T F1 (by simpa using m0))
        (fun j hj => by rw [zu_ne n01]; exact S j hj)
        (fun j h1 h2 x hx => by rw [zu_ne m1]; exact W j (by omega) h2 x hx)
        (fun hlt => by have := E1 (i + 1) (by omega) hlt; rw [Nat.add_sub_cancel] at this; exact this)
        (fun j h1 h2 => E1 j (by omega) h2)
      refine ⟨f', ?_, fun j h1 h2 => ?_, fun j hj => ?_, F1.trans p4⟩
      · rw [← p1]
        show p_X0_choose_c96 (p_X0_choose_l96 n) _ _ _ _ _ _ _ = _
        simp only [p_X0_choose_c96, z_b, z_n, ite_ap, e1, if_false, o_rv op 0 (by decide), o_get op 0 50 rfl (show i < 50 by omega), S i hib, o_vr og, be, o_rv op 1 (by decide), o_set op 1 50 rfl (show i < 50 by omega), e2]
      · by_cases q : i + 1 ≤ j
        · exact p2 j q h2
        · rw [p3 j (by omega), show j = i by omega, zu_same]
      · rw [p3 j (by omega), zu_cell, if_neg (by omega)]
theorem cho6 (og : Ob h 1 gx rwg arg gSz) (op : Ob h 4 px rwp arp pSz) (d : Dj gx arg gSz px arp pSz) {a b : Nat} (hb : b ≤ 50) (hab : a ≤ b) (hR : ∀ j, j < b → R j < 256) {E : Nat → Nat} (E0 : a < b → E a = bestOf tl (fewN tl R (b - 1 - a) a) (R a) 0) (E1 : ∀ j, a < j → j < b → E j = bestOf tl (fewN tl R (b - 1 - j) j) (R j) (E (j - 1))) :
    ∀ (c i n : Nat) (f : FI), i = a + c → i ≤ b → c < n → ToldC f (arg 0) tl → (∀ j, j < b → f (arp 0) j = I (R j)) → (∀ j, i ≤ j → j < b → FewC f (arg 1) j (fewN tl R (b - 1 - j) j)) →
      ∃ f', p_X0_choose_l6 n (some gx) (some (rwp 0)) (some (rwp 1)) (I a) (I b) (I ((i : Int) - 1)) (hI h f) = some ((), hI h f') ∧ (∀ j, a ≤ j → j < b → f' (arp 1) j = I (pr (E j))) ∧ (∀ j, ¬ (a ≤ j ∧ j < b) → f' (arp 1) j = f (arp 1) j) ∧ Fr f f' [arg 1, arp 1] := by
  intro c
  induction c with
  | zero =>
    intro i n f hi hib hn T S W
    obtain ⟨n, rfl⟩ := Nat.exists_eq_add_of_lt hn
    have hi' : i = a := by omega
    subst hi'
    have e1 : I ((i : Int) - 1) < I (i : Int) := by rw [I_lt (by omega) (by omega)]; omega
    obtain ⟨f', p1, p2, p3, p4⟩ := cho96 og op d hb hR (b - i) i zFuel 0 f (by omega) (by unfold zFuel; omega) (by decide) T S W E0 E1
    refine ⟨f', ?_, p2, p3, p4.mono (by simp)⟩
    have p1' : p_X0_choose_l96 zFuel (some gx) (some (rwp 0)) (some (rwp 1)) (I b) (-1) (I i) (hI h f) = some ((), hI h f') := p1
    show p_X0_choose_c6 _ _ _ _ _ _ _ _ = _
    simp only [p_X0_choose_c6, p_X0_choose_b90, ite_ap, e1, if_true, p1']
  | succ c ih =>
    intro i n f hi hib hn T S W
    cases n with
    | zero => exact absurd hn (Nat.not_lt_zero _)
    | succ n =>
      have e1 : ¬ I ((i : Int) - 1) < I (a : Int) := by rw [I_lt (by omega) (by omega)]; omega
      have ei : I ((i : Int) - 1) = I ((i - 1 : Nat) : Int) := by rw [show (i : Int) - 1 = ((i - 1 : Nat) : Int) by omega]
      obtain ⟨f1, v1, v2, v3, v4⟩ := cho15 og op d (p_X0_choose_l6 n) (a := a) (i := i - 1) hb (by omega) hR 9 0 zFuel f rfl (by unfold zFuel; omega) T S (fun hlt => by rw [show i - 1 + 1 = i by omega]; exact W i (Nat.le_refl _) (by omega)) (fun x hx => absurd hx (Nat.not_lt_zero _))
      have m0 := o_ne og (i := 0) (j := 1) (by decide) (by decide) (by decide)
      have m1 : arp 0 ≠ arg 1 := (d.2.2.2 1 0 (by decide) (by decide)).symm
      obtain ⟨f', p1, p2, p3, p4⟩ := ih (i - 1) n f1 (by omega) (by omega) (by omega) (toldC_fr T v4 (by simpa using m0)) (fun j hj => by rw [v4 (arp 0) (by simpa using m1)]; exact S j hj)
        (fun j h1 h2 => by
          by_cases q : j = i - 1
          · rw [q]; exact v2
          · intro x hx
            rw [v3 _ (by omega)]
            exact W j (by omega) h2 x hx)
      refine ⟨f', ?_, p2, fun j hj => ?_, (v4.mono (by simp)).trans p4⟩
      · rw [← p1, ← v1]
        have hm : (-1 : Int32) = I (pr 0) := rfl
        show p_X0_choose_c6 (p_X0_choose_l6 n) _ _ _ _ _ _ _ = _
        simp only [p_X0_choose_c6, ite_ap, e1, if_false]
        rw [ei, hm]
      · have m2 : arp 1 ≠ arg 1 := (d.2.2.2 1 1 (by decide) (by decide)).symm
        rw [p3 j hj, v4 (arp 1) (by simpa using m2)]
theorem choose_eq (og : Ob h 1 gx rwg arg gSz) (op : Ob h 4 px rwp arp pSz) (d : Dj gx arg gSz px arp pSz) {a b : Nat} (hb : b ≤ 50) (hab : a ≤ b) (hR : ∀ j, j < b → R j < 256) {E : Nat → Nat} (E0 : a < b → E a = bestOf tl (fewN tl R (b - 1 - a) a) (R a) 0) (E1 : ∀ j, a < j → j < b → E j = bestOf tl (fewN tl R (b - 1 - j) j) (R j) (E (j - 1))) {f : FI} (T : ToldC f (arg 0) tl) (S : ∀ j, j < b → f (arp 0) j = I (R j)) :
    ∃ f', p_X0_choose (some gx) (some (rwp 0)) (some (rwp 1)) (I a) (I b) (hI h f) = some ((), hI h f') ∧ (∀ j, a ≤ j → j < b → f' (arp 1) j = I (pr (E j))) ∧ (∀ j, ¬ (a ≤ j ∧ j < b) → f' (arp 1) j = f (arp 1) j) ∧ Fr f f' [arg 1, arp 1] := by
  obtain ⟨f', p1, p2⟩ := cho6 og op d hb hab hR E0 E1 (b - a) b zFuel f (by omega) (Nat.le_refl _) (by unfold zFuel; omega) T S (fun j h1 h2 => absurd h2 (by omega))
  refine ⟨f', ?_, p2⟩
  have e : I (b : Int) - 1 = I ((b : Int) - 1) := by rw [show (1 : Int32) = I 1 from rfl, I_sub]
  simp only [p_X0_choose, z_n, e, p1]
/-- which words are broken -/
theorem mark_l (og : Ob h 1 gx rwg arg gSz) (op : Ob h 4 px rwp arp pSz) (d : Dj gx arg gSz px arp pSz) {a b : Nat} (hb : b ≤ 50) {E : Nat → Nat} (hE : ∀ j, E j ≤ 8) :
    ∀ (c i n : Nat) (f : FI), i + c = b → a ≤ i → c < n → ToldC f (arg 0) tl → (∀ j, a ≤ j → j < b → f (arp 1) j = I (pr (E j))) →
      ∃ f', p_X3_markBroken_l3 n (some px) (some gx) (I a) (I b) (I i) (hI h f) = some ((), hI h f') ∧ (∀ j, i ≤ j → j < b → f' (arp 3) j = bI (if a < j then bk tl (E (j - 1)) (E j) else false)) ∧ (∀ j, ¬ (i ≤ j ∧ j < b) → f' (arp 3) j = f (arp 3) j) ∧ Fr f f' [arp 3] := by
  intro c
  induction c with
  | zero =>
    intro i n f hi hai hn T S
    obtain ⟨n, rfl⟩ := Nat.exists_eq_add_of_lt hn
    have e1 : I (b : Int) ≤ I (i : Int) := by rw [I_le (by omega) (by omega)]; omega
    refine ⟨f, ?_, fun j h1 h2 => absurd h2 (by omega), fun _ _ => rfl, Fr.refl _ _⟩
    show p_X3_markBroken_c3 _ _ _ _ _ _ _ = _
    simp only [p_X3_markBroken_c3, z_rt, ite_ap, e1, if_true]
  | succ c ih =>
    intro i n f hi hai hn T S
    cases n with
    | zero => exact absurd hn (Nat.not_lt_zero _)
    | succ n =>
      have hib : i < b := by omega
      have e1 : ¬ I (b : Int) ≤ I (i : Int) := by rw [I_le (by omega) (by omega)]; omega
      have e2 : I (i : Int) + 1 = I ((i + 1 : Nat) : Int) := I_add _ 1
      have e3 : I (i : Int) ≤ I (a : Int) ↔ ¬ a < i := by rw [I_le (by omega) (by omega)]; omega
      have m0 : arg 0 ≠ arp 3 := d.2.2.2 0 3 (by decide) (by decide)
      have n13 := o_ne op (i := 1) (j := 3) (by decide) (by decide) (by decide)
      have step : ∀ v : Bool, v = (if a < i then bk tl (E (i - 1)) (E i) else false) → ∃ f', p_X3_markBroken_b47 (p_X3_markBroken_l3 n) (some px) (some gx) (I a) (I b) (I i) (bI v) (hI h f) = some ((), hI h f') ∧ (∀ j, i ≤ j → j < b → f' (arp 3) j = bI (if a < j then bk tl (E (j - 1)) (E j) else false)) ∧ (∀ j, ¬ (i ≤ j ∧ j < b) → f' (arp 3) j = f (arp 3) j) ∧ Fr f f' [arp 3] := by
        intro v hv
        have F1 : Fr f (zu f (arp 3) i (bI v)) [arp 3] := Fr.zu (by simp)
        obtain ⟨f', p1, p2, p3, p4⟩ := ih (i + 1) n (zu f (arp 3) i (bI v)) (by omega) (by omega) (by omega) (toldC_fr T F1 (by simpa using m0)) (fun j h1 h2 => by rw [zu_ne n13]; exact S j h1 h2)
        refine ⟨f', ?_, fun j h1 h2 => ?_, fun j hj => ?_, F1.trans p4⟩
        · rw [← p1]
          cases v with
          | true => simp only [p_X3_markBroken_b47, p_X3_markBroken_b65, z_b, z_n, ite_ap, o_gR op 3 (by decide), o_rv op 3 (by decide), o_set op 3 50 rfl (show i < 50 by omega), e2, show ¬ (bI true = 0) by decide, if_false]; rfl
          | false => simp only [p_X3_markBroken_b47, p_X3_markBroken_b65, z_b, z_n, ite_ap, o_gR op 3 (by decide), o_rv op 3 (by decide), o_set op 3 50 rfl (show i < 50 by omega), e2, show bI false = 0 from rfl, if_true]
        · by_cases q : i + 1 ≤ j
          · exact p2 j q h2
          · rw [p3 j (by omega), show j = i by omega, zu_same, hv]
        · rw [p3 j (by omega), zu_cell, if_neg (by omega)]
      show ∃ f', p_X3_markBroken_c3 (p_X3_markBroken_l3 n) _ _ _ _ _ _ = _ ∧ _
      simp only [p_X3_markBroken_c3, p_X3_markBroken_b46, z_b, ite_ap, e1, if_false, e3]
      by_cases q : a < i
      · rw [if_neg (fun z => z q)]
        have e4 : I (i : Int) - 1 = I ((i - 1 : Nat) : Int) := I_sn _ 1 (by omega)
        have ib := isBroken_eq og T (hE (i - 1)) (hE i)
        simp only [o_gR op 1 (by decide), o_rv op 1 (by decide), e4, o_get op 1 50 rfl (show i - 1 < 50 by omega), o_get op 1 50 rfl (show i < 50 by omega), S (i - 1) (by omega) (by omega), S i hai hib, o_vr og, ib]
        cases hv : bk tl (E (i - 1)) (E i) with
        | true =>
          rw [if_neg (show ¬ bI true = 0 by decide)]
          exact step true (by rw [if_pos q, hv])
        | false =>
          rw [if_pos (show bI false = 0 from rfl)]
          exact step false (by rw [if_pos q, hv])
      · rw [if_pos q]
        exact step false (by rw [if_neg q])
theorem mark_eq (og : Ob h 1 gx rwg arg gSz) (op : Ob h 4 px rwp arp pSz) (d : Dj gx arg gSz px arp pSz) {a b : Nat} (hb : b ≤ 50) (hab : a ≤ b) {E : Nat → Nat} (hE : ∀ j, E j ≤ 8) {f : FI} (T : ToldC f (arg 0) tl) (S : ∀ j, a ≤ j → j < b → f (arp 1) j = I (pr (E j))) :
    ∃ f', p_X3_markBroken (some px) (some gx) (I a) (I b) (hI h f) = some ((), hI h f') ∧ (∀ j, a ≤ j → j < b → f' (arp 3) j = bI (if a < j then bk tl (E (j - 1)) (E j) else false)) ∧ (∀ j, ¬ (a ≤ j ∧ j < b) → f' (arp 3) j = f (arp 3) j) ∧ Fr f f' [arp 3] :=
  mark_l og op d hb hE (b - a) a zFuel f (by omega) (Nat.le_refl _) (by unfold zFuel; omega) T S
end
