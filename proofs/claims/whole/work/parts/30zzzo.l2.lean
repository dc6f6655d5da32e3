/-- a new style's cells above a heap -/
def Yh (h : ZH) (B : Nat) : ZH := zsR (zsR (zsR (znew (znew (znew h (14, 0) 4) (11, 0) 1) (1, 3) 3) (zT h + 1) 0 (some (zT h + 2))) (zT h) 0 (some (zT h + 1))) B 9 (some (zT h))
section
variable {H h : ZH} {B : Nat} {f : FI} {sl : List St} {rs : List Ru} {sy : List Sty} {dr : List It}
theorem Yh_K {b : Nat} (hb : b < zT h) : zK (Yh h B) b = zK h b := by
  show zw (zw (zw (zK h) (zT h) _) (zT h + 1) _) (zT h + 1 + 1) _ b = _
  rw [zw_ne (by omega), zw_ne (by omega), zw_ne (by omega)]
theorem Yh_Kn : zK (Yh h B) (zT h) = (14, 0) ∧ zK (Yh h B) (zT h + 1) = (11, 0) ∧ zK (Yh h B) (zT h + 2) = (1, 3) := by
  refine ⟨?_, ?_, ?_⟩
  · show zw (zw (zw (zK h) (zT h) _) (zT h + 1) _) (zT h + 1 + 1) _ (zT h) = _
    rw [zw_ne (by omega), zw_ne (by omega), zw_same]
  · show zw (zw (zw (zK h) (zT h) _) (zT h + 1) _) (zT h + 1 + 1) _ (zT h + 1) = _
    rw [zw_ne (by omega), zw_same]
  · show zw (zw (zw (zK h) (zT h) _) (zT h + 1) _) (zT h + 1 + 1) _ (zT h + 1 + 1) = _
    rw [zw_same]
theorem Yh_I {b : Nat} (hb : b < zT h) : zI (Yh h B) b = zI h b := by
  show zw (zw (zw (zI h) (zT h) _) (zT h + 1) _) (zT h + 1 + 1) _ b = _
  rw [zw_ne (by omega), zw_ne (by omega), zw_ne (by omega)]
theorem Yh_L {b : Nat} (hb : b < zT h) : zL (Yh h B) b = zL h b := by
  show zw (zw (zw (zL h) (zT h) _) (zT h + 1) _) (zT h + 1 + 1) _ b = _
  rw [zw_ne (by omega), zw_ne (by omega), zw_ne (by omega)]
theorem Yh_In (j : Nat) : zI (Yh h B) (zT h) j = 0 := by
  show zw (zw (zw (zI h) (zT h) _) (zT h + 1) _) (zT h + 1 + 1) _ (zT h) j = _
  rw [zw_ne (by omega), zw_ne (by omega), zw_same]
theorem Yh_R {b : Nat} (hb : b < zT h) (hB : b ≠ B) : zR (Yh h B) b = zR h b := by
  show zu (zu (zu (zw (zw (zw (zR h) (zT h) _) (zT h + 1) _) (zT h + 1 + 1) _) (zT h + 1) 0 _) (zT h) 0 _) B 9 _ b = _
  rw [zu_ne hB, zu_ne (by omega), zu_ne (by omega), zw_ne (by omega), zw_ne (by omega), zw_ne (by omega)]
theorem Yh_RB (hb : B < zT h) {j : Nat} (hj : j ≠ 9) : zR (Yh h B) B j = zR h B j := by
  show zu (zu (zu (zw (zw (zw (zR h) (zT h) _) (zT h + 1) _) (zT h + 1 + 1) _) (zT h + 1) 0 _) (zT h) 0 _) B 9 _ B j = _
  rw [zu_cell, if_neg hj, zu_ne (by omega), zu_ne (by omega), zw_ne (by omega), zw_ne (by omega), zw_ne (by omega)]
theorem Yh_R9 : zR (Yh h B) B 9 = some (zT h) := zu_same _ _ _ _
theorem Yh_Rn (hb : B < zT h) : zR (Yh h B) (zT h) 0 = some (zT h + 1) ∧ zR (Yh h B) (zT h + 1) 0 = some (zT h + 2) := by
  constructor
  · show zu (zu (zu _ (zT h + 1) 0 _) (zT h) 0 _) B 9 _ (zT h) 0 = _
    rw [zu_ne (by omega), zu_same]
  · show zu (zu (zu _ (zT h + 1) 0 _) (zT h) 0 _) B 9 _ (zT h + 1) 0 = _
    rw [zu_ne (by omega), zu_ne (by omega), zu_same]
theorem Yh_ob (hb : B < zT h) : Ob (Yh h B) 8 (zT h) (fun _ => zT h + 1) (fun _ => zT h + 2) sSz := by
  obtain ⟨k1, k2, k3⟩ := Yh_Kn (h := h) (B := B)
  obtain ⟨r1, r2⟩ := Yh_Rn hb
  have one : ∀ j, sSz j ≠ 0 → j = 0 := fun j hj => Classical.byContradiction (fun q => hj (by
    unfold sSz
    rw [List.getD_eq_getElem?_getD, List.getElem?_eq_none (by show 1 ≤ j; omega)]; rfl))
  refine ⟨k1, fun j hj => ?_, fun i j hi hj _ => (one i hi).trans (one j hj).symm⟩
  rw [one j hj]
  exact ⟨r1, ⟨k2, r2, k3, by decide⟩, by show zT h + 2 ≠ zT h; omega⟩
/-- the drafted style goes to the list, a new one is drafted -/
theorem CD.addY (c : CD H f B sl rs sy dr) (hB : B + 142 ≤ zT H) (hKB : zK H B = (18, 0)) (hl : sy.length < 8) (k : Nat) (w : Wd) :
    ∃ dsx h', zR H B 9 = some dsx ∧ zK H dsx = (14, 0) ∧ dsx ≠ B ∧ (∀ b, B ≤ b → b < B + 142 → b < B + 92 ∨ B + 95 ≤ b → b ≠ dsx) ∧ f dsx 1 = I dr.length ∧
      p_Jx4a65c_add_9ea2d (some (B + 42)) (some dsx) (hI H (zu (zu f dsx 2 (I k)) dsx 3 (I (cN w)))) = some (1, h') ∧
      CD (Yh h' B) (zu (zI (Yh h' B)) (zT h') 3 1) B sl rs (sy ++ [(dr, k, w)]) [] ∧
      (zT H ≤ zT h' ∧ zT h' ≤ zT H + 1 ∧ zN H ≤ zN h' ∧ zN h' ≤ zN H + 18 ∧ zD h' = zD H ∧ (∀ b, b < zT H → zK h' b = zK H b) ∧ (∀ b, b < zT H → b ≠ B + 42 → zI h' b = zu (zu f dsx 2 (I k)) dsx 3 (I (cN w)) b) ∧ (∀ b, b < zT H → zL h' b = zL H b) ∧ (∀ b, B ≤ b → b < B + 142 → b ≠ B + 42 → zR h' b = zR H b)) ∧
      (p_Jx4a65c_size_8abf5 (some (B + 42)) (hI H f) = some (I sy.length, hI H f) ∧ zK H (B + 42) = (6, 0) ∧ zI h' (B + 42) 2 = I ((sy.length + 1 : Nat) : Int)) := by
  obtain ⟨dsx, dsr, da, a1, n1, o1, a2, n2, o2, a3, n3, o3, c⟩ := c
  obtain ⟨⟨x1, x2, x3, x4, x5, x6, x7, x8, x9⟩, ⟨y1, y2, y3, y4⟩, ⟨z1, z2, z3, z4, z5⟩, ⟨w1, w2, w3, w4⟩, ⟨v1, v2, v3, v4, v5, v6, v7, v8, v9⟩⟩ := c
  obtain ⟨kx, kr, ka⟩ := ob8_k x2
  have ls : ∀ {a arr n os}, LsAt H a arr n os → a ≠ dsx := fun {a arr n os} l e => by
    have := l.1
    rw [e, kx] at this; cases this
  have dB : dsx ≠ B := fun e => by rw [e, hKB] at kx; cases kx
  have st : ∀ b, B ≤ b → b < B + 142 → b < B + 92 ∨ B + 95 ≤ b → b ≠ dsx := fun b h1 h2 h3 => by
    by_cases q : b = B + 2 ∨ b = B + 3 ∨ b = B + 42
    · rcases q with rfl | rfl | rfl
      · exact ls y1
      · exact ls z1
      · exact ls w1
    · exact fun e => x5 (e ▸ AA_mem.mpr (by omega))
  let f2 := zu (zu f dsx 2 (I k)) dsx 3 (I (cN w))
  have f2n : ∀ b, b ≠ dsx → f2 b = f b := fun b hb => by
    show zu (zu f dsx 2 _) dsx 3 _ b = _
    rw [zu_ne hb, zu_ne hb]
  have sz := ls_size (f := f) w1 (by rw [w3]; exact w2)
  rw [w3] at sz
  obtain ⟨h', arr', n', p1, p2, p3, p4, p5, p6, p7, p8, p9, p10, p11, p12, p13, p14, p15⟩ := ls_add (h := hI H f2) (o := dsx) (os := o3) (a := B + 42) (arr := a3) (n := n3) w1 (by rw [w3]; show f2 (B + 42) 2 = _; rw [f2n _ (ls w1)]; exact w2) (fun i hi => by
      obtain ⟨s', s1, sr, sa, s2, s3⟩ := w4 i (by omega)
      exact Or.inr (Or.inr (ob8_k s2).1)) (fun i hi => by
      obtain ⟨s', s1, sr, sa, s2, s3, s4, s5, s6, s7, s8, s9, s10, s11⟩ := w4 i (by omega)
      exact s9) (Or.inr (Or.inr kx)) x7 (by omega) (show B + 42 < zT H by omega) v3
  have T0 : zT (hI H f2) = zT H := rfl
  have hK7 : ∀ b, b < zT H → zK (Yh h' B) b = zK H b := fun b hb => (Yh_K (by omega)).trans (p9 b hb)
  have ka' : arr' < zT H → zK H arr' = (3, n') := fun q => by
    have := p9 arr' q
    rw [p14] at this
    exact this.symm
  have nk : ∀ {b : Nat} {k : Nat × Nat}, b < zT H → zK H b = k → k.1 ≠ 3 → b ≠ arr' := fun {b k} h1 h2 h3 e => by
    have := ka' (e ▸ h1)
    rw [← e, h2] at this
    rw [this] at h3; exact h3 rfl
  have na1 : a1 ≠ arr' := fun e => by
    rcases p13 with ⟨q1, q2⟩ | ⟨q1, q2⟩
    · have q2' : zK H a3 = (3, n3) := q2
      rcases v5 with z | z
      · exact z (by rw [e, q1])
      · rw [e, q1, q2'] at z; cases z
    · omega
  have na2 : a2 ≠ arr' := fun e => by
    rcases p13 with ⟨q1, q2⟩ | ⟨q1, q2⟩
    · have q2' : zK H a3 = (3, n3) := q2
      rcases v6 with z | z
      · exact z (by rw [e, q1])
      · rw [e, q1, q2'] at z; cases z
    · omega
  have l42 : ∀ {b k}, zK H b = k → k ≠ (6, 0) → b ≠ B + 42 := fun {b k} h1 h2 e => h2 (by rw [← h1, e]; exact w1.1)
  have lB : ∀ {b k}, zK H b = k → k ≠ (18, 0) → b ≠ B := fun {b k} h1 h2 e => h2 (by rw [← h1, e]; exact hKB)
  have rr : ∀ {b : Nat} {k : Nat × Nat}, b < zT H → zK H b = k → k.1 ≠ 3 → k ≠ (6, 0) → k ≠ (18, 0) → zR (Yh h' B) b = zR H b := fun {b k} h1 h2 h3 h4 h5 => (Yh_R (by omega) (lB h2 h5)).trans (p12 b h1 (l42 h2 h4) (nk h1 h2 h3))
  have kA : ∀ {a arr n os}, LsAt H a arr n os → arr ≠ B + 42 ∧ arr ≠ B := fun {a arr n os} l => by
    rcases l.2.2.2.2.1 with q | q
    · exact ⟨fun e => (by rw [e, w1.1] at q; cases q), fun e => (by rw [e, hKB] at q; cases q)⟩
    · exact ⟨fun e => (by rw [e, w1.1] at q; cases q.1), fun e => (by rw [e, hKB] at q; cases q.1)⟩
  have ra1 : zR (Yh h' B) a1 = zR H a1 := (Yh_R (by omega) (kA y1).2).trans (p12 a1 v1 (kA y1).1 na1)
  have ra2 : zR (Yh h' B) a2 = zR H a2 := (Yh_R (by omega) (kA z1).2).trans (p12 a2 v2 (kA z1).1 na2)
  have r2 : zR (Yh h' B) (B + 2) = zR H (B + 2) := (Yh_R (by omega) (by omega)).trans (p12 _ (show B + 2 < zT H by omega) (by omega) (nk (by omega) y1.1 (by decide)))
  have r3 : zR (Yh h' B) (B + 3) = zR H (B + 3) := (Yh_R (by omega) (by omega)).trans (p12 _ (show B + 3 < zT H by omega) (by omega) (nk (by omega) z1.1 (by decide)))
  have nB : arr' ≠ B := fun e => by
    have := ka' (by omega)
    rw [e, hKB] at this; cases this
  have fI : ∀ b, b < zT h' → zu (zI (Yh h' B)) (zT h') 3 1 b = zI h' b := fun b hb => (zu_ne (by omega) _ _).trans (Yh_I hb)
  have fo : ∀ b, b < zT H → b ≠ B + 42 → b ≠ dsx → zu (zI (Yh h' B)) (zT h') 3 1 b = f b := fun b h1 h2 h3 => (fI b (by omega)).trans ((p10 b h1 h2).trans (f2n b h3))
  have kd : ∀ {b k}, zK H b = k → k ≠ (14, 0) → b ≠ dsx := fun {b k} h1 h2 e => h2 (by rw [← h1, e]; exact kx)
  refine ⟨dsx, h', x1, kx, dB, st, x3, p1, ⟨zT h', zT h' + 1, zT h' + 2, a1, n1, o1, a2, n2, o2, arr', n', o3 ++ [dsx], ⟨Yh_R9, Yh_ob (by omega), ?_, fun j it hj => (by cases hj), fun q => (by have := AA_mem.mp q; omega), fun q => (by have := AA_mem.mp q; omega), ?_, ?_, ?_⟩, ⟨?_, ?_, y3, fun i hi => ?_⟩, ⟨?_, ?_, z3, z4, fun i hi => ?_⟩, ⟨?_, ?_, by rw [List.length_append, List.length_append, w3]; rfl, fun i hi => ?_⟩, ⟨?_, ?_, ?_, ?_, ?_, ?_, ?_, ?_, ?_⟩⟩, ⟨p4, p5, p6, p7, p8, p9, p10, p11, fun b h1 h2 h3 => ?_⟩, ⟨sz, w1.1, ?_⟩⟩
  · show zu (zI (Yh h' B)) (zT h') 3 1 (zT h') 1 = _
    rw [zu_cell, if_neg (by decide), Yh_In]; rfl
  · show zT h' < zT h' + 1 + 1 + 1; omega
  · show zT h' + 2 < zT h' + 1 + 1 + 1; omega
  · show zT h' + 1 < zT h' + 1 + 1 + 1; omega
  · exact y1.mv (hK7 _ (by omega)) (by rw [r2]) (hK7 _ v1) ra1 p8
  · rw [fo (B + 2) (by omega) (by omega) (ls y1)]; exact y2
  · obtain ⟨s', s1, s2, s3, s4⟩ := y4 i hi
    refine ⟨s', s1, s2.congr (hK7 _ s4) (fo _ s4 (l42 s2.1 (by decide)) (kd s2.1 (by decide))), fun q => ?_, by show _ < zT h' + 1 + 1 + 1; omega⟩
    rcases List.mem_append.mp q with q | q
    · exact s3 (List.mem_append.mpr (Or.inl q))
    · simp only [List.mem_cons, List.not_mem_nil, or_false] at q; omega
  · exact z1.mv (hK7 _ (by omega)) (by rw [r3]) (hK7 _ v2) ra2 p8
  · rw [fo (B + 3) (by omega) (by omega) (ls z1)]; exact z2
  · obtain ⟨s', s1, s2, s3, s4⟩ := z5 i hi
    refine ⟨s', s1, s2.congr (hK7 _ s4) (fo _ s4 (l42 s2.1 (by decide)) (kd s2.1 (by decide))), fun q => ?_, by show _ < zT h' + 1 + 1 + 1; omega⟩
    rcases List.mem_append.mp q with q | q
    · exact s3 (List.mem_append.mpr (Or.inl q))
    · simp only [List.mem_cons, List.not_mem_nil, or_false] at q; omega
  · exact p2.mv (Yh_K (by omega)) (by rw [Yh_R (by omega) (by omega)]) (Yh_K p15) (Yh_R p15 nB) rfl
  · rw [fI (B + 42) (by omega), p3, List.length_append, List.length_append, w3]; rfl
  · rw [List.length_append, List.length_singleton] at hi
    by_cases q : i < sy.length
    · obtain ⟨s', s1, sr, sa, s2, s3, s4, s5, s6, s7, s8, s9, s10, s11⟩ := w4 i q
      rw [(app_get (i := i)).1 (by omega)]
      obtain ⟨q1, q2, q3⟩ := ob8_k s2
      have ne : o3.getD i 0 ≠ dsx := fun e => s7 (List.mem_append.mpr (Or.inr (List.mem_cons.mpr (Or.inl e))))
      have ex := fo _ s9 (l42 q1 (by decide)) ne
      refine ⟨s', by rw [List.getElem?_append_left q]; exact s1, sr, sa, ob8_mv s2 (hK7 _ s9) (by rw [rr s9 q1 (by decide) (by decide) (by decide)]) (hK7 _ s10) (by rw [rr s10 q2 (by decide) (by decide) (by decide)]) (hK7 _ s11), by rw [ex]; exact s3, by rw [ex]; exact s4, by rw [ex]; exact s5, by rw [fo _ s11 (l42 q3 (by decide)) (kd q3 (by decide))]; exact s6, fun u => ?_, fun u => ?_, by show _ < zT h' + 1 + 1 + 1; omega, by show _ < zT h' + 1 + 1 + 1; omega, by show _ < zT h' + 1 + 1 + 1; omega⟩
      · rcases List.mem_append.mp u with u | u
        · exact s7 (List.mem_append.mpr (Or.inl u))
        · simp only [List.mem_cons, List.not_mem_nil, or_false] at u; omega
      · rcases List.mem_append.mp u with u | u
        · exact s8 (List.mem_append.mpr (Or.inl u))
        · simp only [List.mem_cons, List.not_mem_nil, or_false] at u; omega
    · have e : i = o3.length := by omega
      rw [e, (app_get (i := i)).2]
      have ex : zu (zI (Yh h' B)) (zT h') 3 1 dsx = f2 dsx := (fI dsx (by omega)).trans (p10 dsx x7 (fun q => ls w1 q.symm))
      refine ⟨(dr, k, w), by rw [w3, List.getElem?_append_right (Nat.le_refl _), Nat.sub_self]; rfl, dsr, da, ob8_mv x2 (hK7 _ x7) (by rw [rr x7 kx (by decide) (by decide) (by decide)]) (hK7 _ x9) (by rw [rr x9 kr (by decide) (by decide) (by decide)]) (hK7 _ x8), ?_, ?_, ?_, by rw [fo _ x8 (l42 ka (by decide)) (kd ka (by decide))]; exact x4, fun u => ?_, fun u => ?_, by show _ < zT h' + 1 + 1 + 1; omega, by show _ < zT h' + 1 + 1 + 1; omega, by show _ < zT h' + 1 + 1 + 1; omega⟩
      · rw [ex]; show zu (zu f dsx 2 _) dsx 3 _ dsx 1 = _
        rw [zu_cell, if_neg (by decide), zu_cell, if_neg (by decide)]; exact x3
      · rw [ex]; show zu (zu f dsx 2 _) dsx 3 _ dsx 2 = _
        rw [zu_cell, if_neg (by decide), zu_same]
      · rw [ex]; exact zu_same _ _ _ _
      · rcases List.mem_append.mp u with u | u
        · exact x5 u
        · simp only [List.mem_cons, List.not_mem_nil, or_false] at u; omega
      · rcases List.mem_append.mp u with u | u
        · exact x6 u
        · simp only [List.mem_cons, List.not_mem_nil, or_false] at u; omega
  · show a1 < zT h' + 1 + 1 + 1; omega
  · show a2 < zT h' + 1 + 1 + 1; omega
  · show arr' < zT h' + 1 + 1 + 1; omega
  · rw [hK7 _ v1]; exact v4
  · exact Or.inl na1
  · exact Or.inl na2
  · rw [hK7 _ v1]; exact v7
  · rw [hK7 _ v2]; exact v8
  · rcases p13 with ⟨q1, q2⟩ | ⟨q1, q2⟩
    · right
      have q2' : zK H a3 = (3, n3) := q2
      rcases v9 with z | z
      · rw [z] at q2'; cases q2'
      · omega
    · right; omega
  · refine p12 b (show b < zT H by omega) h3 (fun e => ?_)
    rcases p13 with ⟨q1, q2⟩ | ⟨q1, q2⟩
    · have q2' : zK H a3 = (3, n3) := q2
      rcases v9 with z | z
      · rw [z] at q2'; cases q2'
      · omega
    · omega
  · rw [p3, List.length_append, List.length_singleton, w3]
end
