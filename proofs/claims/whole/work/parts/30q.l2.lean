def WdOk (w : Wd) : Prop := isW w ∧ w ≠ [] ∧ w.length ≤ 10
/-- the class's book l and the reference's table say the same -/
def Cpl (l : Bk) (K P Q O : Nat → Nat) : Prop :=
  SB l ∧ used K 16384 = l.length ∧
  (∀ s, s < 16384 → K s ≠ 0 → IsSlot K (K s) s ∧ ∃ w, WdOk w ∧ K s = mN w ∧ hk l (cN w) ∧ bget l (cN w) = P s + 256 * Q s + 65536 * O s) ∧
  (∀ s, s < 16384 → K s = 0 → P s = 0 ∧ Q s = 0 ∧ O s = 0) ∧
  (∀ w, WdOk w → hk l (cN w) → ∃ s, s < 16384 ∧ K s = mN w) ∧
  (∀ s, s < 16384 → P s < 256 ∧ Q s < 256 ∧ O s < 2) ∧
  (∀ c, hk l c → ∃ w, WdOk w ∧ c = cN w)
theorem Cpl_step {l : Bk} {K P Q O : Nat → Nat} (C : Cpl l K P Q O) {w : Wd} (hw : WdOk w) {s : Nat} (hs : IsSlot K (mN w) s) {kp kj ko : Nat} (h1 : kp < 256) (h2 : kj < 256) (h3 : ko < 2) :
    Cpl (bput l (cN w) (bget l (cN w) ||| (kp + 256 * kj + 65536 * ko))) (updN K s (mN w)) (updN P s (P s ||| kp)) (updN Q s (Q s ||| kj)) (updN O s (O s ||| ko)) ∧
    (bput l (cN w) (bget l (cN w) ||| (kp + 256 * kj + 65536 * ko))).length = l.length + if K s = 0 then 1 else 0 := by
  obtain ⟨c1, c2, c3, c4, c5, c6, c7⟩ := C
  have hsl := slot_lt hs
  have hmp := mN_pos hw.2.1
  obtain ⟨p1, p2, p3⟩ := c6 s hsl
  have q1 : P s ||| kp < 256 := Nat.or_lt_two_pow (n := 8) p1 h1
  have q2 : Q s ||| kj < 256 := Nat.or_lt_two_pow (n := 8) p2 h2
  have q3 : O s ||| ko < 2 := Nat.or_lt_two_pow (n := 1) p3 h3
  have hb : bget l (cN w) = P s + 256 * Q s + 65536 * O s ∧ (K s ≠ 0 → K s = mN w ∧ hk l (cN w)) ∧ (K s = 0 → ¬ hk l (cN w)) := by
    by_cases k0 : K s = 0
    · have hn : ¬ hk l (cN w) := fun q => by
        obtain ⟨t, t1, t2⟩ := c5 w hw q
        obtain ⟨t3, -⟩ := c3 t t1 (by omega)
        rw [t2] at t3
        have := slot_uniq t3 hs
        rw [this, k0] at t2
        omega
      obtain ⟨z1, z2, z3⟩ := c4 s hsl k0
      rw [bget_none hn, z1, z2, z3]
      exact ⟨rfl, fun q => absurd k0 q, fun _ => hn⟩
    · obtain ⟨t3, w', t4, t5, t6, t7⟩ := c3 s hsl k0
      have e : K s = mN w := by
        obtain ⟨d, -, rfl, d3, -⟩ := hs
        exact d3.resolve_left k0
      have : w' = w := (mN_inj t4.1 hw.1).mp (t5.symm.trans e)
      subst this
      exact ⟨t7, fun _ => ⟨e, t6⟩, fun q => absurd q k0⟩
  obtain ⟨b1, b2, b3⟩ := hb
  have hkn : updN K s (mN w) s = mN w := if_pos rfl
  -- slots of the others
  have oth : ∀ t, t < 16384 → t ≠ s → K t ≠ 0 → IsSlot (updN K s (mN w)) (K t) t ∧ ∃ w', WdOk w' ∧ K t = mN w' ∧ w' ≠ w ∧ hk l (cN w') ∧ bget l (cN w') = P t + 256 * Q t + 65536 * O t := by
    intro t ht hne hk0
    obtain ⟨u1, w', u2, u3, u4, u5⟩ := c3 t ht hk0
    have hww : w' ≠ w := fun q => by
      rw [q] at u3
      rw [u3] at u1
      exact hne (slot_uniq u1 hs)
    refine ⟨?_, w', u2, u3, hww, u4, u5⟩
    by_cases k0 : K s = 0
    · exact (slot_put hs k0).2 _ t hne rfl hk0 u1
    · have : updN K s (mN w) = K := by
        funext z
        unfold updN
        by_cases hz : z = s
        · rw [if_pos hz, hz]; exact (b2 k0).1.symm
        · rw [if_neg hz]
      rw [this]; exact u1
  have own : IsSlot (updN K s (mN w)) (mN w) s := by
    by_cases k0 : K s = 0
    · exact (slot_put hs k0).1
    · have : updN K s (mN w) = K := by
        funext z
        unfold updN
        by_cases hz : z = s
        · rw [if_pos hz, hz]; exact (b2 k0).1.symm
        · rw [if_neg hz]
      rw [this]; exact hs
  have hlen : (bput l (cN w) (bget l (cN w) ||| (kp + 256 * kj + 65536 * ko))).length = l.length + if K s = 0 then 1 else 0 := by
    by_cases k0 : K s = 0
    · rw [if_pos k0]
      exact (bput_new c1 (fun q => b3 k0 ((fnd_hk c1).mp q))).1
    · rw [if_neg k0]
      exact (bput_found ((fnd_hk c1).mpr (b2 k0).2)).1
  refine ⟨⟨SB_bput c1 _ _, ?_, fun t ht hk0 => ?_, fun t ht hk0 => ?_, fun w' hw' hh => ?_, fun t ht => ?_, fun c hh => ?_⟩, hlen⟩
  · rw [hlen]
    by_cases k0 : K s = 0
    · have hu := used_updN (v := mN w) k0 (fun q => absurd hmp (by rw [q]; decide)) 16384
      rw [if_pos hsl] at hu
      rw [if_pos k0]
      exact hu.trans (congrArg (· + 1) c2)
    · rw [if_neg k0, ← c2, Nat.add_zero]
      refine (used_same (fun t => ?_) 16384).symm
      unfold updN
      by_cases hz : t = s
      · rw [if_pos hz, hz, (b2 k0).1]
      · rw [if_neg hz]
  · by_cases hz : t = s
    · subst hz
      rw [hkn]
      refine ⟨own, w, hw, rfl, hk_bput.mpr (Or.inl rfl), ?_⟩
      rw [bget_bput, if_pos rfl, b1, lor3 p1 p2 h1 h2]
      unfold updN
      rw [if_pos rfl, if_pos rfl, if_pos rfl]
    · have e : ∀ (F : Nat → Nat) (v : Nat), updN F s v t = F t := fun F v => if_neg hz
      rw [e] at hk0
      rw [e, e, e, e]
      obtain ⟨u1, w', u2, u3, u4, u5, u6⟩ := oth t ht hz hk0
      refine ⟨u1, w', u2, u3, hk_bput.mpr (Or.inr u5), ?_⟩
      rw [bget_bput, if_neg (fun q => u4 ((cN_inj u2.1 hw.1).mp q))]
      exact u6
  · by_cases hz : t = s
    · subst hz
      rw [hkn] at hk0
      omega
    · have e : ∀ (F : Nat → Nat) (v : Nat), updN F s v t = F t := fun F v => if_neg hz
      rw [e] at hk0
      rw [e, e, e]
      exact c4 t ht hk0
  · rcases hk_bput.mp hh with q | q
    · have : w' = w := (cN_inj hw'.1 hw.1).mp q
      subst this
      exact ⟨s, hsl, hkn⟩
    · obtain ⟨t, t1, t2⟩ := c5 w' hw' q
      by_cases hz : t = s
      · subst hz
        have hm' := mN_pos hw'.2.1
        have k0 : K t ≠ 0 := by omega
        exact ⟨t, t1, by rw [hkn, ← (b2 k0).1, t2]⟩
      · exact ⟨t, t1, (if_neg hz).trans t2⟩
  · by_cases hz : t = s
    · subst hz
      unfold updN
      rw [if_pos rfl, if_pos rfl, if_pos rfl]
      exact ⟨q1, q2, q3⟩
    · have e : ∀ (F : Nat → Nat) (v : Nat), updN F s v t = F t := fun F v => if_neg hz
      rw [e, e, e]
      exact c6 t ht
  · rcases hk_bput.mp hh with q | q
    · exact ⟨w, hw, q⟩
    · exact c7 c q
