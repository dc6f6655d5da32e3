/-! which styles are taken -/
section
variable (W : Nat → Wd) (E bn : Nat → Nat) (sl : List Sty)
/-- the next word at which a style may be taken, ahead of word i -/
def nxG : Nat → Nat
  | 0 => 0
  | i + 1 => if i < nxG i then nxG i else match lowF W E i (bn i) sl 0 with
    | none => nxG i
    | some r => i + (sl.getD r ([], 0, [])).1.length
def tkF (i : Nat) : Option Nat := if i < nxG W E bn sl i then none else lowF W E i (bn i) sl 0
end
section
variable {W : Nat → Wd} {E sn bn : Nat → Nat} {sl : List Sty} {nn : Nat}
theorem nxG_succ (i : Nat) : nxG W E bn sl (i + 1) = if i < nxG W E bn sl i then nxG W E bn sl i else match lowF W E i (bn i) sl 0 with
    | none => nxG W E bn sl i
    | some r => i + (sl.getD r ([], 0, [])).1.length := rfl
theorem low_fit {i b r : Nat} (h : lowF W E i b sl 0 = some r) : ∃ s, sl[r]? = some s ∧ r < sl.length ∧ i + s.1.length ≤ b ∧ fitL W E s.1 i = true ∧ (sl.getD r ([], 0, [])) = s := by
  obtain ⟨-, h2, s, h3, h4⟩ := lowF_some h
  have h3' : sl[r]? = some s := h3
  unfold fitS at h4
  by_cases q : i + s.1.length ≤ b
  · rw [if_pos q] at h4
    exact ⟨s, h3', by omega, q, h4, by rw [List.getD_eq_getElem?_getD, h3']; rfl⟩
  · rw [if_neg q] at h4; cases h4
theorem bn_same (N : SnOk sn bn nn) {i : Nat} (hi : i < nn) : ∀ d, i + d < bn i → bn (i + d) = bn i ∧ sn (i + d) = sn i := by
  intro d
  induction d with
  | zero => intro _; exact ⟨rfl, rfl⟩
  | succ d ih =>
    intro hd
    obtain ⟨a1, a2⟩ := ih (by omega)
    have hb := (N i hi).2.1
    obtain ⟨n1, n2, n3, n4, n5⟩ := N (i + d) (by omega)
    rw [a1] at n3 n4
    have h1 := n4 (by omega)
    have h2 := (n3 (by omega)).mpr (by omega)
    exact ⟨h1, h2.trans a2⟩
theorem bn_out (N : SnOk sn bn nn) {i : Nat} (hi : i < nn) (h : bn i < nn) : sn (bn i) ≠ sn i := by
  obtain ⟨n1, n2, -⟩ := N i hi
  obtain ⟨a1, a2⟩ := bn_same N hi (bn i - 1 - i) (by omega)
  rw [show i + (bn i - 1 - i) = bn i - 1 by omega] at a1 a2
  obtain ⟨-, -, m3, -⟩ := N (bn i - 1) (by omega)
  rw [show bn i - 1 + 1 = bn i by omega, a1] at m3
  intro q
  exact absurd ((m3 h).mp (q.trans a2.symm)) (Nat.lt_irrefl _)
theorem nxG_le (N : SnOk sn bn nn) : ∀ i, i < nn → nxG W E bn sl (i + 1) ≤ bn i := by
  intro i
  induction i with
  | zero =>
    intro hi
    have := (N 0 hi).1
    rw [nxG_succ, if_neg (show ¬ 0 < nxG W E bn sl 0 from Nat.lt_irrefl 0)]
    cases q : lowF W E 0 (bn 0) sl 0 with
    | none => exact Nat.zero_le _
    | some r =>
      obtain ⟨s, s1, s2, s3, s4, s5⟩ := low_fit q
      show 0 + (sl.getD r ([], 0, [])).1.length ≤ bn 0
      rw [s5]; exact s3
  | succ i ih =>
    intro hi
    have a := ih (by omega)
    obtain ⟨n1, n2, -⟩ := N (i + 1) hi
    obtain ⟨m1, m2, m3, m4, -⟩ := N i (by omega)
    show (if i + 1 < nxG W E bn sl (i + 1) then nxG W E bn sl (i + 1) else _) ≤ _
    by_cases q : i + 1 < nxG W E bn sl (i + 1)
    · rw [if_pos q, m4 (by omega)]; exact a
    · rw [if_neg q]
      cases q2 : lowF W E (i + 1) (bn (i + 1)) sl 0 with
      | none => show nxG W E bn sl (i + 1) ≤ _; omega
      | some r =>
        obtain ⟨s, s1, s2, s3, s4, s5⟩ := low_fit q2
        show i + 1 + (sl.getD r ([], 0, [])).1.length ≤ _
        rw [s5]; exact s3
/-- at a sentence's beginning -/
theorem nxG_begin (N : SnOk sn bn nn) {a : Nat} (ha : a = 0 ∨ 0 < a ∧ a - 1 < nn ∧ bn (a - 1) = a) : nxG W E bn sl a ≤ a := by
  rcases ha with q | ⟨q1, q2, q3⟩
  · subst q; exact Nat.le_refl _
  · have := nxG_le (W := W) (E := E) (sl := sl) N (a - 1) q2
    rw [show a - 1 + 1 = a by omega, q3] at this
    exact this
section
variable {h : ZH} {tx px : Nat} {rwt art rwp arp : Nat → Nat}
theorem tks_l (ot : Ob h 10 tx rwt art tSz) (op : Ob h 4 px rwp arp pSz) (dtp : art 3 ≠ arp 2) {ls : Nat} {A : List Nat} (hA : arp 2 ∈ A) (hs8 : sl.length ≤ 8) {a b : Nat} (hb50 : b ≤ 50) (hbn : ∀ i, a ≤ i → i < b → bn i = b) :
    ∀ (c i n nx : Nat) (f : FI), i + c = b → a ≤ i → c < n → nx ≤ 100 → (nx = nxG W E bn sl i ∨ nx ≤ i ∧ nxG W E bn sl i ≤ i) → SyIs h f ls sl A → WdC f (art 3) (arp 1) W E a b →
      ∃ f', p_X3_takeStyles_l6 n (some px) (some tx) (some ls) (I b) (I nx) (I i) (hI h f) = some ((), hI h f') ∧ (∀ j, i ≤ j → j < b → f' (arp 2) j = I (oz (tkF W E bn sl j))) ∧ (∀ j, ¬ (i ≤ j ∧ j < b) → f' (arp 2) j = f (arp 2) j) ∧ Fr f f' [arp 2] := by
  intro c
  induction c with
  | zero =>
    intro i n nx f hi hai hn hnx inv S D
    obtain ⟨n, rfl⟩ := Nat.exists_eq_add_of_lt hn
    have e1 : I (b : Int) ≤ I (i : Int) := by rw [I_le (by omega) (by omega)]; omega
    refine ⟨f, ?_, fun j h1 h2 => absurd h2 (by omega), fun _ _ => rfl, Fr.refl _ _⟩
    show p_X3_takeStyles_c6 _ _ _ _ _ _ _ _ = _
    simp only [p_X3_takeStyles_c6, z_rt, ite_ap, e1, if_true]
  | succ c ih =>
    intro i n nx f hi hai hn hnx inv S D
    cases n with
    | zero => exact absurd hn (Nat.not_lt_zero _)
    | succ n =>
      have hib : i < b := by omega
      have e1 : ¬ I (b : Int) ≤ I (i : Int) := by rw [I_le (by omega) (by omega)]; omega
      have e2 : I (i : Int) + 1 = I ((i + 1 : Nat) : Int) := I_add _ 1
      have e3 : I (nx : Int) ≤ I (i : Int) ↔ ¬ i < nx := by rw [I_le (by omega) (by omega)]; omega
      have n12 := o_ne op (i := 1) (j := 2) (by decide) (by decide) (by decide)
      have same : (i < nx ↔ i < nxG W E bn sl i) := by rcases inv with q | q <;> omega
      -- what is taken here
      have step : ∀ (k : Option Nat) (nx' : Nat), k = tkF W E bn sl i → (k = none → nx' = nx) → (∀ r, k = some r → nx' = i + (sl.getD r ([], 0, [])).1.length) → ∃ f', p_X3_takeStyles_b34 (p_X3_takeStyles_l6 n) (some px) (some tx) (some ls) (I b) (I nx) (I i) (I (oz k)) (hI h f) = some ((), hI h f') ∧ (∀ j, i ≤ j → j < b → f' (arp 2) j = I (oz (tkF W E bn sl j))) ∧ (∀ j, ¬ (i ≤ j ∧ j < b) → f' (arp 2) j = f (arp 2) j) ∧ Fr f f' [arp 2] := by
        intro k nx' hk hk0 hk1
        have hkr : ∀ r, k = some r → r < sl.length ∧ ∃ s, sl[r]? = some s ∧ i + s.1.length ≤ b ∧ (sl.getD r ([], 0, [])) = s ∧ ¬ i < nx ∧ lowF W E i (bn i) sl 0 = some r := fun r hr => by
          rw [hr] at hk
          unfold tkF at hk
          by_cases q : i < nxG W E bn sl i
          · rw [if_pos q] at hk; cases hk
          · rw [if_neg q] at hk
            obtain ⟨s, s1, s2, s3, s4, s5⟩ := low_fit hk.symm
            rw [hbn i hai hib] at s3
            exact ⟨s2, s, s1, s3, s5, fun z => q (same.mp z), hk.symm⟩
        have F1 : Fr f (zu f (arp 2) i (I (oz k))) [arp 2] := Fr.zu (by simp)
        have FA : Fr f (zu f (arp 2) i (I (oz k))) A := Fr.zu hA
        have inv' : nx' = nxG W E bn sl (i + 1) ∨ nx' ≤ i + 1 ∧ nxG W E bn sl (i + 1) ≤ i + 1 := by
          rw [nxG_succ]
          cases hkv : k with
          | none =>
            rw [hk0 hkv]
            rw [hkv] at hk
            unfold tkF at hk
            by_cases q : i < nxG W E bn sl i
            · rw [if_pos q]
              rcases inv with z | z
              · exact Or.inl z
              · omega
            · rw [if_neg q] at hk ⊢
              rw [← hk]
              right
              have := same
              show nx ≤ i + 1 ∧ nxG W E bn sl i ≤ i + 1
              omega
          | some r =>
            obtain ⟨k1, s, k2, k3, k4, k5, k6⟩ := hkr r hkv
            rw [hk1 r hkv, if_neg (fun z => k5 (same.mpr z)), k6]
            exact Or.inl rfl
        have hnx' : nx' ≤ 100 := by
          cases hkv : k with
          | none => rw [hk0 hkv]; exact hnx
          | some r =>
            obtain ⟨k1, s, k2, k3, k4, k5, k6⟩ := hkr r hkv
            rw [hk1 r hkv, k4]; omega
        obtain ⟨f', p1, p2, p3, p4⟩ := ih (i + 1) n nx' (zu f (arp 2) i (I (oz k))) (by omega) (by omega) (by omega) hnx' inv' (S.fr FA)
          (fun j h1 h2 => by rw [zu_ne dtp, zu_ne n12]; exact D j h1 h2)
        obtain ⟨sn0, sn1⟩ := styleNumbered_eq (f := f) S hs8 (k := k) (fun r hr => (hkr r hr).1)
        refine ⟨f', ?_, fun j h1 h2 => ?_, fun j hj => ?_, F1.trans p4⟩
        · rw [← p1]
          cases hkv : k with
          | none =>
            have := sn0 hkv
            rw [hkv] at this
            simp only [p_X3_takeStyles_b34, p_X3_takeStyles_b70, z_b, z_n, ite_ap, this, o_gR op 2 (by decide), o_rv op 2 (by decide), o_set op 2 50 rfl (show i < 50 by omega), if_true, e2]
            rw [hk0 hkv]
          | some r =>
            obtain ⟨k1, s, k2, k3, k4, k5, k6⟩ := hkr r hkv
            obtain ⟨sx, s', t1, t2, t3, t4⟩ := sn1 r hkv
            rw [k2] at t1
            cases t1
            rw [hkv] at t4
            have t2' := t2.fr (Fr.zu (f := f) (k := i) (v := I (oz k)) hA)
            obtain ⟨rws, ars, o8, u1, -⟩ := t2'
            rw [hkv] at u1
            have g8 : z_gI 8 1 (some sx) (hI h (zu f (arp 2) i (I (oz (some r))))) = some (I s.1.length, hI h (zu f (arp 2) i (I (oz (some r))))) := by rw [o_gI o8, u1]
            have nn' : ¬ (some sx = none) := fun z => by cases z
            simp only [p_X3_takeStyles_b34, p_X3_takeStyles_b70, z_b, z_n, ite_ap, t4, o_gR op 2 (by decide), o_rv op 2 (by decide), o_set op 2 50 rfl (show i < 50 by omega), nn', if_false, g8, I_an, e2]
            rw [hk1 r hkv, k4]
        · by_cases q : i + 1 ≤ j
          · exact p2 j q h2
          · rw [p3 j (by omega), show j = i by omega, zu_same, hk]
        · rw [p3 j (by omega), zu_cell, if_neg (by omega)]
      show ∃ f', p_X3_takeStyles_c6 (p_X3_takeStyles_l6 n) _ _ _ _ _ _ _ = _ ∧ _
      simp only [p_X3_takeStyles_c6, z_b, ite_ap, e1, if_false, e3]
      by_cases q : i < nx
      · rw [if_neg (fun z => z q)]
        have ht : tkF W E bn sl i = none := by unfold tkF; rw [if_pos (same.mp q)]
        exact step none nx ht.symm (fun _ => rfl) (fun r hr => by cases hr)
      · rw [if_pos q]
        have ht : tkF W E bn sl i = lowF W E i b sl 0 := by unfold tkF; rw [if_neg (fun z => q (same.mpr z)), hbn i hai hib]
        have lo := low_eq ot op S hs8 (i := i) (to_ := b) (by omega) hb50 (fun j h1 h2 => D j (by omega) h2)
        simp only [o_vr op, lo]
        cases hlo : lowF W E i b sl 0 with
        | none => exact step none nx (by rw [ht, hlo]) (fun _ => rfl) (fun r hr => by cases hr)
        | some r => exact step (some r) _ (by rw [ht, hlo]) (fun hr => by cases hr) (fun r' hr => by cases hr; rfl)
theorem tks_eq (N : SnOk sn bn nn) (ot : Ob h 10 tx rwt art tSz) (op : Ob h 4 px rwp arp pSz) (dtp : art 3 ≠ arp 2) {ls : Nat} {A : List Nat} (hA : arp 2 ∈ A) (hs8 : sl.length ≤ 8) {a b : Nat} (hb50 : b ≤ 50) (hab : a ≤ b) (hbn : ∀ i, a ≤ i → i < b → bn i = b) (hbeg : a = 0 ∨ 0 < a ∧ a - 1 < nn ∧ bn (a - 1) = a) {f : FI} (S : SyIs h f ls sl A) (D : WdC f (art 3) (arp 1) W E a b) :
    ∃ f', p_X3_takeStyles (some px) (some tx) (some ls) (I a) (I b) (hI h f) = some ((), hI h f') ∧ (∀ j, a ≤ j → j < b → f' (arp 2) j = I (oz (tkF W E bn sl j))) ∧ (∀ j, ¬ (a ≤ j ∧ j < b) → f' (arp 2) j = f (arp 2) j) ∧ Fr f f' [arp 2] :=
  tks_l ot op dtp hA hs8 hb50 hbn (b - a) a zFuel a f (by omega) (Nat.le_refl _) (by unfold zFuel; omega) (by omega) (Or.inr ⟨Nat.le_refl _, nxG_begin N hbeg⟩) S D
end
end
