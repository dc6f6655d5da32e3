section
variable {h : ZH} {a arr n o : Nat} {os : List Nat}
theorem nA_eq (h : ZH) (kd k : Nat) (hk : k < 1000) : z_nA kd (I k) h = some (some (zT h), znew h (kd, k) k) := by
  have e1 : ¬ (I (k : Int) < 0) := by rw [I_0, I_lt (by omega) (by omega)]; omega
  have e3 : (I (k : Int)).toNatClampNeg = k := by rw [I_nat (by omega)]; omega
  simp only [z_nA, e1, e3, not_false_eq_true, true_and]
  rw [if_pos (by omega)]
/-- a longer row for a list -/
theorem ls_grow (l : LsAt h a arr n os) (hz : ∀ i, i < os.length → zob (zK h (os.getD i 0))) (hzT : ∀ i, i < os.length → os.getD i 0 < zT h) (hn : os.length = n) (h12 : n ≤ 12) (ha : a < zT h) (harr : arr < zT h) :
    ∃ h' n', p_Jx4a65c_grow_92f84 (some a) (I ((n + 1 : Nat) : Int)) h = some (some (zT h), h') ∧ n < n' ∧ n' ≤ 18 ∧ zK h' (zT h) = (3, n') ∧ LsAt h' a (zT h) n' os ∧ zT h' = zT h + 1 ∧ zN h' = zN h + n' ∧ zD h' = zD h ∧ (∀ b, b < zT h → zK h' b = zK h b) ∧ (∀ b, b < zT h → zI h' b = zI h b ∧ zL h' b = zL h b) ∧ (∀ b, b < zT h → b ≠ a → zR h' b = zR h b) ∧ (∀ j, j ≠ 1 → zR h' a j = zR h a j) := by
  obtain ⟨l1, l2, l3, l4, l5, l6⟩ := l
  have g1 : z_gR 0 1 (some a) h = some (some arr, h) := (if_pos l1).trans (by rw [l2])
  have kn : (zK h arr).1 = 3 ∨ (zK h arr).1 = 5 := by
    rcases l5 with q | q
    · rw [q]; exact Or.inl rfl
    · rw [q.1]; exact Or.inr rfl
  have k2 : (zK h arr).2 = n := by
    rcases l5 with q | q
    · rw [q]
    · rw [q.1, q.2.1]
  have gn : z_aN (some arr) h = some (I n, h) := by
    have : (zK h arr).1 = 1 ∨ (zK h arr).1 = 2 ∨ (zK h arr).1 = 3 ∨ (zK h arr).1 = 5 := by omega
    exact (if_pos this).trans (by rw [k2]; rfl)
  have sh : I (n : Int) >>> ((1 : Int32) &&& 31) = I ((n / 2 : Nat) : Int) := by
    have : ((1 : Int32) &&& 31) = I ((1 : Nat) : Int) := by decide
    rw [this, I_shr (by omega) (by decide)]
  have dff : I ((n + 1 : Nat) : Int) - I (n : Int) = I ((1 : Nat) : Int) := by rw [I_sn _ _ (by omega), show n + 1 - n = 1 by omega]
  have mx : (if I ((1 : Nat) : Int) < I ((n / 2 : Nat) : Int) then I ((n / 2 : Nat) : Int) else I ((1 : Nat) : Int)) = I ((max 1 (n / 2) : Nat) : Int) := by
    have : (I ((1 : Nat) : Int) < I ((n / 2 : Nat) : Int)) ↔ 1 < n / 2 := by rw [I_lt (by decide) (by omega)]; omega
    simp only [this]
    split
    · rw [show max 1 (n / 2) = n / 2 by omega]
    · rw [show max 1 (n / 2) = 1 by omega]
  have nl : ∀ h', p_J8_newLength_cabcc (I (n : Int)) (I ((1 : Nat) : Int)) (I ((n / 2 : Nat) : Int)) h' = some (I ((n + max 1 (n / 2) : Nat) : Int), h') := fun h' => by
    have e1 : ¬ I ((n + max 1 (n / 2) : Nat) : Int) ≤ 0 := by rw [lit, I_le (by omega) (by decide)]; omega
    have e2 : ¬ 2147483639 < I ((n + max 1 (n / 2) : Nat) : Int) := by rw [lit, I_lt (by decide) (by omega)]; omega
    simp only [p_J8_newLength_cabcc, z_n, mx, I_an, e1, e2, if_false, z_rt]
  -- the general step, for a row of references
  have gen : zK h arr = (3, n) → ∃ h' n', p_Jx4a65c_grow_92f84_b20 (some a) (I ((n + 1 : Nat) : Int)) (I n) h = some (some (zT h), h') ∧ n < n' ∧ n' ≤ 18 ∧ zK h' (zT h) = (3, n') ∧ LsAt h' a (zT h) n' os ∧ zT h' = zT h + 1 ∧ zN h' = zN h + n' ∧ zD h' = zD h ∧ (∀ b, b < zT h → zK h' b = zK h b) ∧ (∀ b, b < zT h → zI h' b = zI h b ∧ zL h' b = zL h b) ∧ (∀ b, b < zT h → b ≠ a → zR h' b = zR h b) ∧ (∀ j, j ≠ 1 → zR h' a j = zR h a j) := fun k3 => by
    refine ⟨zsR (zwR (znew h (3, n + max 1 (n / 2)) (n + max 1 (n / 2))) (zT h) (va_cpy (zR h arr) (fun _ => none) 0 0 n)) a 1 (some (zT h)), n + max 1 (n / 2), ?_, by omega, by omega, zw_same _ _ _, ?_, rfl, rfl, rfl, fun b hb => zw_ne (by omega) _, fun b hb => ⟨zw_ne (by omega) _, zw_ne (by omega) _⟩, fun b hb hba => ?_, fun j hj => ?_⟩
    · have e0 : ¬ ((0 : Int32) < 0) := by decide
      have t0 : (0 : Int32).toNatClampNeg = 0 := rfl
      have en : ¬ (I (n : Int) < 0) := by rw [I_0, I_lt (by omega) (by omega)]; omega
      have tn : (I (n : Int)).toNatClampNeg = n := by rw [I_nat (by omega)]; omega
      have mi : (if I ((n + max 1 (n / 2) : Nat) : Int) < I (n : Int) then I ((n + max 1 (n / 2) : Nat) : Int) else I (n : Int)) = I (n : Int) := by
        rw [if_neg (by rw [I_lt (by omega) (by omega)]; omega)]
      have gc : z_gc (some arr) h = some (some (zD h).2.1, h) := if_pos (by rw [k3])
      have k1 : zK (znew h (3, n + max 1 (n / 2)) (n + max 1 (n / 2))) arr = (3, n) := (zw_ne (by omega) _).trans k3
      have k1' : zK (znew h (3, n + max 1 (n / 2)) (n + max 1 (n / 2))) (zT h) = (3, n + max 1 (n / 2)) := zw_same _ _ _
      have r1 : zR (znew h (3, n + max 1 (n / 2)) (n + max 1 (n / 2))) arr = zR h arr := zw_ne (by omega) _
      have r1' : zR (znew h (3, n + max 1 (n / 2)) (n + max 1 (n / 2))) (zT h) = fun _ => none := zw_same _ _ _
      have an : z_aN (some arr) (znew h (3, n + max 1 (n / 2)) (n + max 1 (n / 2))) = some (I n, znew h (3, n + max 1 (n / 2)) (n + max 1 (n / 2))) := (if_pos (by rw [k1]; simp)).trans (by rw [k1]; rfl)
      have al : (List.range n).all (fun i => match zR h arr (0 + i) with | none => true | some y => decide (zK (znew h (3, n + max 1 (n / 2)) (n + max 1 (n / 2))) y = (12, 0) ∨ zK (znew h (3, n + max 1 (n / 2)) (n + max 1 (n / 2))) y = (13, 0) ∨ zK (znew h (3, n + max 1 (n / 2)) (n + max 1 (n / 2))) y = (14, 0))) = true := by
        rw [List.all_eq_true]
        intro i hi
        have hi' : i < os.length := by rw [hn]; exact List.mem_range.mp hi
        rw [Nat.zero_add, l6 i hi']
        have hzi := hz i hi'
        show decide _ = true
        rw [decide_eq_true_eq]
        have hne : os.getD i 0 ≠ zT h := fun e => by
          have := hzT i hi'
          omega
        have ke : zK (znew h (3, n + max 1 (n / 2)) (n + max 1 (n / 2))) (os.getD i 0) = zK h (os.getD i 0) := zw_ne hne _
        rw [ke]; exact hzi
      have cq : z_cq (some arr) 0 (some (zT h)) 0 (I n) (znew h (3, n + max 1 (n / 2)) (n + max 1 (n / 2))) = some ((), zwR (znew h (3, n + max 1 (n / 2)) (n + max 1 (n / 2))) (zT h) (va_cpy (zR h arr) (fun _ => none) 0 0 n)) := by
        show (if _ then _ else _) = _
        rw [k1, k1', r1, r1', t0, tn]
        rw [if_pos ⟨⟨rfl, rfl⟩, ⟨e0, e0, en⟩, ⟨by show 0 + n ≤ n; omega, by show 0 + n ≤ n + max 1 (n / 2); omega⟩, al⟩]
      have pr : z_pR 0 1 (some a) (some (zT h)) (zwR (znew h (3, n + max 1 (n / 2)) (n + max 1 (n / 2))) (zT h) (va_cpy (zR h arr) (fun _ => none) 0 0 n)) = some ((), zsR (zwR (znew h (3, n + max 1 (n / 2)) (n + max 1 (n / 2))) (zT h) (va_cpy (zR h arr) (fun _ => none) 0 0 n)) a 1 (some (zT h))) := if_pos ((zw_ne (by omega) _).trans l1)
      simp only [p_Jx4a65c_grow_92f84_b20, p_J7_copyOf_1904c, p_J7_copyOf_6403c, z_b, z_rt, z_mi, ite_ap, dff, sh, nl, g1, gc, not_true_eq_false, if_false, nA_eq h 3 (n + max 1 (n / 2)) (by omega), an, mi, cq, pr]
    · refine ⟨(zw_ne (by omega) _).trans l1, ?_, by omega, by omega, Or.inl (zw_same _ _ _), fun i hi => ?_⟩
      · show zu (zw _ (zT h) _) a 1 (some (zT h)) a 1 = _
        rw [zu_same]
      · show zu (zw (zw (zR h) (zT h) _) (zT h) (va_cpy (zR h arr) (fun _ => none) 0 0 n)) a 1 (some (zT h)) (zT h) i = _
        rw [zu_ne (by omega), zw_same]
        unfold va_cpy
        rw [if_pos (by omega), ← l6 i hi]
        congr 1
        omega
    · show zu (zw (zw (zR h) (zT h) _) (zT h) _) a 1 _ b = _
      rw [zu_ne hba, zw_ne (by omega), zw_ne (by omega)]
    · show zu (zw (zw (zR h) (zT h) _) (zT h) _) a 1 _ a j = _
      rw [zu_cell, if_neg hj, zw_ne (by omega), zw_ne (by omega)]
  have pos : (0 < I (n : Int)) ↔ 0 < n := by rw [lit, I_lt (by decide) (by omega)]; omega
  by_cases q : 0 < n
  · have k3 : zK h arr = (3, n) := l5.resolve_right (fun z => by omega)
    obtain ⟨h', n', p1, p2⟩ := gen k3
    refine ⟨h', n', ?_, p2⟩
    simp only [p_Jx4a65c_grow_92f84, z_b, ite_ap, g1, gn, pos, if_pos q]
    exact p1
  · have n0 : n = 0 := by omega
    by_cases qd : arr = (zD h).1
    · have e10 : (if (10 : Int32) < I ((n + 1 : Nat) : Int) then I ((n + 1 : Nat) : Int) else 10) = I ((10 : Nat) : Int) := by rw [n0]; decide
      have nA := nA_eq h 3 10 (by decide)
      have pr : z_pR 0 1 (some a) (some (zT h)) (znew h (3, 10) 10) = some ((), zsR (znew h (3, 10) 10) a 1 (some (zT h))) := if_pos ((zw_ne (by omega) _).trans l1)
      have os0 : os.length = 0 := by omega
      refine ⟨zsR (znew h (3, 10) 10) a 1 (some (zT h)), 10, ?_, by omega, by omega, zw_same _ _ _, ?_, rfl, rfl, rfl, fun b hb => zw_ne (by omega) _, fun b hb => ⟨zw_ne (by omega) _, zw_ne (by omega) _⟩, fun b hb hba => ?_, fun j hj => ?_⟩
      · rw [qd] at g1 gn
        simp only [p_Jx4a65c_grow_92f84, z_b, z_rt, z_df, ite_ap, g1, gn, pos, if_neg q, if_true, e10, nA, pr]
      · refine ⟨(zw_ne (by omega) _).trans l1, ?_, by omega, by omega, Or.inl (zw_same _ _ _), fun i hi => absurd hi (by omega)⟩
        show zu (zw _ (zT h) _) a 1 (some (zT h)) a 1 = _
        rw [zu_same]
      · show zu (zw (zR h) (zT h) _) a 1 _ b = _
        rw [zu_ne hba, zw_ne (by omega)]
      · show zu (zw (zR h) (zT h) _) a 1 _ a j = _
        rw [zu_cell, if_neg hj, zw_ne (by omega)]
    · have k3 : zK h arr = (3, n) := l5.resolve_right (fun z => qd z.2.2)
      obtain ⟨h', n', p1, p2⟩ := gen k3
      refine ⟨h', n', ?_, p2⟩
      have nd : ¬ (some arr = some (zD h).1) := fun e => qd (Option.some.inj e)
      simp only [p_Jx4a65c_grow_92f84, z_b, z_df, ite_ap, g1, gn, pos, if_neg q, nd, if_false]
      exact p1
/-- a list takes one more object -/
theorem ls_add (l : LsAt h a arr n os) (hs : zI h a 2 = I os.length) (hz : ∀ i, i < os.length → zob (zK h (os.getD i 0))) (hzT : ∀ i, i < os.length → os.getD i 0 < zT h) (ho : zob (zK h o)) (hoT : o < zT h) (h12 : os.length ≤ 12) (ha : a < zT h) (harr : arr < zT h) :
    ∃ h' arr' n', p_Jx4a65c_add_9ea2d (some a) (some o) h = some (1, h') ∧ LsAt h' a arr' n' (os ++ [o]) ∧ zI h' a 2 = I (os ++ [o]).length ∧ zT h ≤ zT h' ∧ zT h' ≤ zT h + 1 ∧ zN h ≤ zN h' ∧ zN h' ≤ zN h + 18 ∧ zD h' = zD h ∧ (∀ b, b < zT h → zK h' b = zK h b) ∧ (∀ b, b < zT h → b ≠ a → zI h' b = zI h b) ∧ (∀ b, b < zT h → zL h' b = zL h b) ∧ (∀ b, b < zT h → b ≠ a → b ≠ arr' → zR h' b = zR h b) ∧ (arr' = arr ∧ zK h arr = (3, n) ∨ arr' = zT h ∧ zT h' = zT h + 1) ∧ zK h' arr' = (3, n') ∧ arr' < zT h' := by
  have l' := l
  obtain ⟨l1, l2, l3, l4, l5, l6⟩ := l'
  -- the count of changes
  have e1 : z_gI 0 0 (some a) h = some (zI h a 0, h) := if_pos l1
  have e2 : z_pI 0 0 (some a) (zI h a 0 + 1) h = some ((), zsI h a 0 (zI h a 0 + 1)) := if_pos l1
  generalize hH : zsI h a 0 (zI h a 0 + 1) = h0 at *
  have K0 : zK h0 = zK h := by rw [← hH]; rfl
  have R0 : zR h0 = zR h := by rw [← hH]; rfl
  have T0 : zT h0 = zT h := by rw [← hH]; rfl
  have N0 : zN h0 = zN h := by rw [← hH]; rfl
  have D0 : zD h0 = zD h := by rw [← hH]; rfl
  have L0 : zL h0 = zL h := by rw [← hH]; rfl
  have I0 : ∀ b, b ≠ a → zI h0 b = zI h b := fun b hb => by rw [← hH]; exact zu_ne hb _ _
  have I2 : zI h0 a 2 = I os.length := by rw [← hH]; show zu (zI h) a 0 _ a 2 = _; rw [zu_cell, if_neg (by decide)]; exact hs
  have l0 : LsAt h0 a arr n os := l.mv (by rw [K0]) (by rw [R0]) (by rw [K0]) (by rw [R0]) D0
  have g1 : z_gR 0 1 (some a) h0 = some (some arr, h0) := (if_pos l0.1).trans (by rw [l0.2.1])
  have g2 : z_gI 0 2 (some a) h0 = some (I os.length, h0) := (if_pos l0.1).trans (by rw [I2])
  have k2 : (zK h0 arr).2 = n := by
    rw [K0]
    rcases l5 with q | q
    · rw [q]
    · rw [q.1, q.2.1]
  have gn : z_aN (some arr) h0 = some (I n, h0) := by
    have : (zK h0 arr).1 = 1 ∨ (zK h0 arr).1 = 2 ∨ (zK h0 arr).1 = 3 ∨ (zK h0 arr).1 = 5 := by
      rw [K0]
      rcases l5 with q | q
      · rw [q]; simp
      · rw [q.1]; simp
    exact (if_pos this).trans (by rw [k2]; rfl)
  have vr : ∀ {α : Type} (k : ZM α), z_vr 0 (some a) k h0 = k h0 := fun k => if_pos l0.1
  have cmp : (I (os.length : Int) = I (n : Int)) ↔ os.length = n := by rw [I_inj (by omega) (by omega)]; omega
  have e3 : I (os.length : Int) + 1 = I ((os.length + 1 : Nat) : Int) := I_add _ 1
  by_cases q : os.length = n
  · obtain ⟨h1, n', p1, p2, p3, p4, p5, p6, p7, p8, p9, p10, p11, p12⟩ := ls_grow l0 (fun i hi => by rw [K0]; exact hz i hi) (fun i hi => by rw [T0]; exact hzT i hi) q (by omega) (by omega) (by omega)
    have na : a ≠ zT h0 := by omega
    have ho1 : zob (zK h1 o) := by rw [p9 o (by omega), K0]; exact ho
    obtain ⟨h2, q1, q2, q3, q4, q5, q6, q7, q8, q9, q10⟩ := ls_put p5 p4 (by omega) ho1 na
    refine ⟨h2, zT h0, n', ?_, q2, q3, by omega, by omega, by omega, by omega, ?_, fun b hb => ?_, fun b hb hba => ?_, fun b hb => ?_, fun b hb hba hbr => ?_, Or.inr ⟨T0, by omega⟩, by rw [q10]; exact p4, by omega⟩
    · have p1' : p_Jx4a65c_grow_92f84 (some a) (I ((os.length + 1 : Nat) : Int)) h0 = some (some (zT h0), h1) := by rw [q]; exact p1
      simp only [p_Jx4a65c_add_9ea2d, p_Jx4a65c_add_72be8, p_Jx4a65c_grow_d5877, z_b, z_rt, z_rz, ite_ap, e1, e2, g1, g2, vr, gn, cmp, q, not_true_eq_false, if_false]
      rw [← q]
      simp only [e3, p1', q1, or_true, if_true]
    · rw [q4.2.2.1, p8, D0]
    · rw [q10, p9 b (by omega), K0]
    · rw [q7 b hba, (p10 b (by omega)).1, I0 b hba]
    · rw [q9, (p10 b (by omega)).2, L0]
    · rw [q8 b hbr, p11 b (by omega) hba, R0]
  · have k3 : zK h arr = (3, n) := l5.resolve_right (fun z => by omega)
    have na : a ≠ arr := fun e => by rw [← e, l1] at k3; cases k3
    obtain ⟨h2, q1, q2, q3, q4, q5, q6, q7, q8, q9, q10⟩ := ls_put l0 (by rw [K0]; exact k3) (by omega) (by rw [K0]; exact ho) na
    refine ⟨h2, arr, n, ?_, q2, q3, by omega, by omega, by omega, by omega, by rw [q4.2.2.1, D0], fun b hb => by rw [q10, K0], fun b hb hba => by rw [q7 b hba, I0 b hba], fun b hb => by rw [q9, L0], fun b hb hba hbr => by rw [q8 b hbr, R0], Or.inl ⟨rfl, k3⟩, by rw [q10, K0]; exact k3, by omega⟩
    simp only [p_Jx4a65c_add_9ea2d, p_Jx4a65c_add_72be8, z_b, z_rt, z_rz, ite_ap, e1, e2, g1, g2, vr, gn, cmp, q, not_false_eq_true, if_true, q1, or_true]
end
