/-- what a call may have done to the heap before a list takes an object: new cells, and the main object's whole numbers -/
def Up (H h : ZH) (f : FI) (B : Nat) : Prop := zT H < zT h ∧ zD h = zD H ∧ (∀ b, b < zT H → zK h b = zK H b) ∧ (∀ b, b < zT H → zR h b = zR H b) ∧ ∀ b, b < zT H → zI h b = f b
/-- what it has done after -/
def Lup (h h' : ZH) (L : Nat) (B : Nat) : Prop := zT h ≤ zT h' ∧ zT h' ≤ zT h + 1 ∧ zN h ≤ zN h' ∧ zN h' ≤ zN h + 18 ∧ zD h' = zD h ∧ (∀ b, b < zT h → zK h' b = zK h b) ∧ (∀ b, b < zT h → b ≠ L → zI h' b = zI h b) ∧ (∀ b, b < zT h → zL h' b = zL h b) ∧ ∀ b, b < B + 142 → b ≠ L → zR h' b = zR h b ∨ b < B
section
variable {H h : ZH} {B : Nat} {f : FI} {sl : List St} {rs : List Ru} {sy : List Sty} {dr : List It}
theorem app_get {os : List Nat} {o i : Nat} : (i < os.length → (os ++ [o]).getD i 0 = os.getD i 0) ∧ (os ++ [o]).getD os.length 0 = o := by
  constructor
  · intro h
    rw [List.getD_eq_getElem?_getD, List.getElem?_append_left h, ← List.getD_eq_getElem?_getD]
  · rw [List.getD_eq_getElem?_getD, List.getElem?_append_right (Nat.le_refl _), Nat.sub_self]; rfl
/-- the stems take one more -/
theorem CD.addS (c : CD H f B sl rs sy dr) (hB : B + 142 ≤ zT H) (hdf : (zD H).1 < B) (u : Up H h f B) {s : St} (So : StIs h (zI h) (zT H) s) (hl : sl.length < 12) :
    ∃ h', p_Jx4a65c_add_9ea2d (some (B + 2)) (some (zT H)) h = some (1, h') ∧ CD h' (zI h') B (sl ++ [s]) rs sy dr ∧ Lup h h' (B + 2) B := by
  obtain ⟨dsx, dsr, da, a1, n1, o1, a2, n2, o2, a3, n3, o3, c⟩ := c
  obtain ⟨u1, u2, u3, u4, u5⟩ := u
  have lt : dsx < zT H ∧ da < zT H ∧ dsr < zT H ∧ a1 < zT H ∧ a2 < zT H ∧ a3 < zT H ∧ (∀ i, i < sl.length → o1.getD i 0 < zT H) ∧ (∀ i, i < rs.length → o2.getD i 0 < zT H) := by
    obtain ⟨x, ⟨y1, y2, y3, y4⟩, ⟨z1, z2, z3, z4, z5⟩, w, v⟩ := c
    exact ⟨x.2.2.2.2.2.2.1, x.2.2.2.2.2.2.2.1, x.2.2.2.2.2.2.2.2, v.1, v.2.1, v.2.2.1, fun i hi => (y4 i hi).choose_spec.2.2.2, fun i hi => (z5 i hi).choose_spec.2.2.2⟩
  have cx := CDx.mv c hB hdf (by omega) u2 u3 u4 u5
  obtain ⟨⟨x1, x2, x3, x4, x5, x6, x7, x8, x9⟩, ⟨y1, y2, y3, y4⟩, ⟨z1, z2, z3, z4, z5⟩, ⟨w1, w2, w3, w4⟩, ⟨v1, v2, v3, v4, v5, v6, v7, v8, v9⟩⟩ := cx
  obtain ⟨kx, kr, ka⟩ := ob8_k x2
  obtain ⟨h', arr', n', p1, p2, p3, p4, p5, p6, p7, p8, p9, p10, p11, p12, p13, p14, p15⟩ := ls_add (o := zT H) y1 (by rw [y3]; exact y2) (fun i hi => by
      obtain ⟨s', s1, s2, s3, s4⟩ := y4 i (by omega)
      exact Or.inr (Or.inl s2.1)) (fun i hi => by
      obtain ⟨s', s1, s2, s3, s4⟩ := y4 i (by omega)
      exact s4) (Or.inr (Or.inl So.1)) u1 (by omega) (by omega) v1
  -- the row that was or is new
  have ka' : arr' < zT h → zK h arr' = (3, n') := fun q => by rw [← p9 arr' q]; exact p14
  have nk : ∀ {b : Nat} {k : Nat × Nat}, b < zT h → zK h b = k → k.1 ≠ 3 → b ≠ arr' := fun {b k} h1 h2 h3 e => by
    have := ka' (e ▸ h1)
    rw [← e, h2] at this
    rw [this] at h3; exact h3 rfl
  have na2 : a2 ≠ arr' := fun e => by
    rcases p13 with ⟨q1, q2⟩ | ⟨q1, q2⟩
    · rcases v4 with z | z
      · exact z (by rw [e, q1])
      · rw [z] at q2; cases q2
    · omega
  have na3 : a3 ≠ arr' := fun e => by
    rcases p13 with ⟨q1, q2⟩ | ⟨q1, q2⟩
    · rcases v5 with z | z
      · exact z (by rw [e, q1])
      · rw [z] at q2; cases q2
    · omega
  have l2 : ∀ {b k}, zK h b = k → k ≠ (6, 0) → b ≠ B + 2 := fun {b k} h1 h2 e => h2 (by rw [← h1, e]; exact y1.1)
  have lk2 := y1.1
  have lk3 := z1.1
  have lk42 := w1.1
  have rr : ∀ {b : Nat} {k : Nat × Nat}, b < zT h → zK h b = k → k.1 ≠ 3 → k ≠ (6, 0) → zR h' b = zR h b := fun {b k} h1 h2 h3 h4 => p12 b h1 (l2 h2 h4) (nk h1 h2 h3)
  have ra2 : zR h' a2 = zR h a2 := p12 a2 v2 (fun e => by
    rcases z1.2.2.2.2.1 with q | q
    · rw [e, lk2] at q; cases q
    · rw [e, lk2] at q; cases q.1) na2
  have ra3 : zR h' a3 = zR h a3 := p12 a3 v3 (fun e => by
    rcases w1.2.2.2.2.1 with q | q
    · rw [e, lk2] at q; cases q
    · rw [e, lk2] at q; cases q.1) na3
  refine ⟨h', p1, ⟨dsx, dsr, da, arr', n', o1 ++ [zT H], a2, n2, o2, a3, n3, o3, ⟨?_, ?_, ?_, ?_, x5, x6, by omega, by omega, by omega⟩, ⟨p2, ?_, by rw [List.length_append, List.length_append, y3]; rfl, fun i hi => ?_⟩, ⟨?_, ?_, z3, z4, fun i hi => ?_⟩, ⟨?_, ?_, w3, fun i hi => ?_⟩, ⟨p15, by omega, by omega, ?_, ?_, ?_, ?_, ?_, ?_⟩⟩, ⟨p4, p5, p6, p7, p8, p9, p10, p11, fun b hb hbL => ?_⟩⟩
  · by_cases q : B < zT h
    · have e : zR h' B = zR h B := by
        refine p12 B q (by omega) (fun e => ?_)
        rcases p13 with ⟨q1, q2⟩ | ⟨q1, q2⟩
        · rcases v7 with z | z
          · rw [z] at q2; cases q2
          · omega
        · omega
      rw [e]; exact x1
    · omega
  · exact ob8_mv x2 (p9 _ x7) (by rw [rr x7 kx (by decide) (by decide)]) (p9 _ x9) (by rw [rr x9 kr (by decide) (by decide)]) (p9 _ x8)
  · rw [p10 dsx x7 (l2 kx (by decide))]; exact x3
  · rw [p10 da x8 (l2 ka (by decide))]; exact x4
  · rw [p3, List.length_append, List.length_append, y3]; rfl
  · rw [List.length_append, List.length_singleton] at hi
    by_cases q : i < sl.length
    · obtain ⟨s', s1, s2, s3, s4⟩ := y4 i q
      rw [(app_get (i := i)).1 (by omega)]
      exact ⟨s', by rw [List.getElem?_append_left q]; exact s1, s2.congr (p9 _ s4) (p10 _ s4 (l2 s2.1 (by decide))), s3, by omega⟩
    · have e : i = o1.length := by omega
      rw [e, (app_get (i := i)).2]
      refine ⟨s, by rw [y3, List.getElem?_append_right (Nat.le_refl _), Nat.sub_self]; rfl, So.congr (p9 _ u1) (p10 _ u1 (by omega)), fun q => ?_, by omega⟩
      rcases List.mem_append.mp q with q | q
      · have := AA_mem.mp q; omega
      · simp only [List.mem_cons, List.not_mem_nil, or_false] at q
        omega
  · exact z1.mv (p9 _ (by omega)) (by rw [p12 (B + 3) (by omega) (by omega) (nk (by omega) lk3 (by decide))]) (p9 _ v2) ra2 p8
  · rw [p10 (B + 3) (by omega) (by omega)]; exact z2
  · obtain ⟨s', s1, s2, s3, s4⟩ := z5 i hi
    exact ⟨s', s1, s2.congr (p9 _ s4) (p10 _ s4 (l2 s2.1 (by decide))), s3, by omega⟩
  · exact w1.mv (p9 _ (by omega)) (by rw [p12 (B + 42) (by omega) (by omega) (nk (by omega) lk42 (by decide))]) (p9 _ v3) ra3 p8
  · rw [p10 (B + 42) (by omega) (by omega)]; exact w2
  · obtain ⟨s', s1, sr, sa, s2, s3, s4, s5, s6, s7, s8, s9, s10, s11⟩ := w4 i hi
    obtain ⟨q1, q2, q3⟩ := ob8_k s2
    have ex := p10 _ s9 (l2 q1 (by decide))
    exact ⟨s', s1, sr, sa, ob8_mv s2 (p9 _ s9) (by rw [rr s9 q1 (by decide) (by decide)]) (p9 _ s10) (by rw [rr s10 q2 (by decide) (by decide)]) (p9 _ s11), by rw [ex]; exact s3, by rw [ex]; exact s4, by rw [ex]; exact s5, by rw [p10 _ s11 (l2 q3 (by decide))]; exact s6, s7, s8, by omega, by omega, by omega⟩
  · exact Or.inl (fun e => na2 e.symm)
  · exact Or.inl (fun e => na3 e.symm)
  · rw [p9 _ v2]; exact v6
  · rcases p13 with ⟨q1, q2⟩ | ⟨q1, q2⟩
    · right
      rcases v7 with z | z
      · rw [z] at q2; cases q2
      · omega
    · right; omega
  · rw [p9 _ v2]; exact v8
  · rw [p9 _ v3]; exact v9
  · by_cases q : b < B
    · exact Or.inr q
    · left
      refine p12 b (by omega) hbL (fun e => ?_)
      rcases p13 with ⟨q1, q2⟩ | ⟨q1, q2⟩
      · rcases v7 with z | z
        · rw [z] at q2; cases q2
        · omega
      · omega
end
