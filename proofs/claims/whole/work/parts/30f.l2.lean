def fnd (l : Bk) (w : Nat) : Prop := brank l w < l.length ∧ cd l (brank l w) = w
theorem mem_bput {l : Bk} {w v : Nat} {x : Nat × Nat} (h : x ∈ bput l w v) : x = (w, v) ∨ x ∈ l := by
  induction l with
  | nil => exact Or.inl (List.mem_singleton.mp h)
  | cons y t ih =>
    obtain ⟨c, z⟩ := y
    simp only [bput] at h
    split at h
    · rcases List.mem_cons.mp h with e | e
      · exact Or.inr (e ▸ List.mem_cons_self)
      · rcases ih e with q | q
        · exact Or.inl q
        · exact Or.inr (List.mem_cons_of_mem _ q)
    · split at h
      · rcases List.mem_cons.mp h with e | e
        · exact Or.inl e
        · exact Or.inr (List.mem_cons_of_mem _ e)
      · rcases List.mem_cons.mp h with e | e
        · exact Or.inl e
        · exact Or.inr e
theorem SB_bput {l : Bk} (h : SB l) (w v : Nat) : SB (bput l w v) := by
  induction l with
  | nil => exact List.pairwise_singleton _ _
  | cons y t ih =>
    obtain ⟨c, z⟩ := y
    obtain ⟨h1, h2⟩ := List.pairwise_cons.mp h
    simp only [bput]
    split
    · rename_i hc
      refine List.pairwise_cons.mpr ⟨fun a ha => ?_, ih h2⟩
      rcases mem_bput ha with e | e
      · rw [e]; exact hc
      · exact h1 a e
    · split
      · rename_i hc
        refine List.pairwise_cons.mpr ⟨fun a ha => ?_, h2⟩
        have := h1 a ha
        rw [← hc]; exact this
      · refine List.pairwise_cons.mpr ⟨fun a ha => ?_, h⟩
        rcases List.mem_cons.mp ha with e | e
        · rw [e]; show w < c; omega
        · have := h1 a e
          have h3 : c < a.1 := this
          show w < a.1
          omega
theorem mem_bdel {l : Bk} {w : Nat} {x : Nat × Nat} (h : x ∈ bdel l w) : x ∈ l := by
  induction l with
  | nil => exact h
  | cons y t ih =>
    obtain ⟨c, z⟩ := y
    simp only [bdel] at h
    split at h
    · exact List.mem_cons_of_mem _ h
    · rcases List.mem_cons.mp h with e | e
      · exact e ▸ List.mem_cons_self
      · exact List.mem_cons_of_mem _ (ih e)
theorem SB_bdel {l : Bk} (h : SB l) (w : Nat) : SB (bdel l w) := by
  induction l with
  | nil => exact h
  | cons y t ih =>
    obtain ⟨c, z⟩ := y
    obtain ⟨h1, h2⟩ := List.pairwise_cons.mp h
    simp only [bdel]
    split
    · exact h2
    · exact List.pairwise_cons.mpr ⟨fun a ha => h1 a (mem_bdel ha), ih h2⟩
theorem bput_found {l : Bk} {w v : Nat} (hf : fnd l w) : (bput l w v).length = l.length ∧ ∀ i d, (bput l w v).getD i d = if i = brank l w then (w, v) else l.getD i d := by
  induction l with
  | nil => exact absurd hf.1 (Nat.not_lt_zero _)
  | cons y t ih =>
    obtain ⟨c, z⟩ := y
    by_cases hc : c < w
    · have e : brank ((c, z) :: t) w = brank t w + 1 := by simp only [brank, if_pos hc]
      have hf' : fnd t w := by
        unfold fnd at hf ⊢
        rw [e] at hf
        exact ⟨by simpa using hf.1, hf.2⟩
      obtain ⟨i1, i2⟩ := ih hf'
      have e2 : bput ((c, z) :: t) w v = (c, z) :: bput t w v := by simp only [bput, if_pos hc]
      rw [e, e2]
      refine ⟨by simp [i1], fun i d => ?_⟩
      cases i with
      | zero => rfl
      | succ i =>
        show (bput t w v).getD i d = _
        rw [i2]
        by_cases hi : i = brank t w
        · rw [if_pos hi, if_pos (by omega)]
        · rw [if_neg hi, if_neg (by omega)]; rfl
    · have e : brank ((c, z) :: t) w = 0 := by simp only [brank, if_neg hc]
      have hcw : c = w := by have := hf.2; rw [e] at this; exact this
      have e2 : bput ((c, z) :: t) w v = (w, v) :: t := by simp only [bput, if_neg hc, if_pos hcw]
      rw [e, e2]
      refine ⟨rfl, fun i d => ?_⟩
      cases i with
      | zero => rfl
      | succ i => rw [if_neg (by omega)]; rfl
theorem bput_new {l : Bk} (hs : SB l) {w v : Nat} (hf : ¬ fnd l w) : (bput l w v).length = l.length + 1 ∧ ∀ i d, (bput l w v).getD i d = if i < brank l w then l.getD i d else if i = brank l w then (w, v) else l.getD (i - 1) d := by
  induction l with
  | nil =>
    refine ⟨rfl, fun i d => ?_⟩
    cases i with
    | zero => rfl
    | succ i => show _ = if i + 1 < 0 then _ else if i + 1 = 0 then _ else _; rw [if_neg (by omega), if_neg (by omega)]; rfl
  | cons y t ih =>
    obtain ⟨c, z⟩ := y
    obtain ⟨h1, h2⟩ := List.pairwise_cons.mp hs
    by_cases hc : c < w
    · have e : brank ((c, z) :: t) w = brank t w + 1 := by simp only [brank, if_pos hc]
      have hf' : ¬ fnd t w := fun q => hf (by
        unfold fnd at q ⊢
        rw [e]
        exact ⟨by simpa using q.1, q.2⟩)
      obtain ⟨i1, i2⟩ := ih h2 hf'
      have e2 : bput ((c, z) :: t) w v = (c, z) :: bput t w v := by simp only [bput, if_pos hc]
      rw [e, e2]
      refine ⟨by simp [i1], fun i d => ?_⟩
      cases i with
      | zero => rw [if_pos (by omega)]; rfl
      | succ i =>
        show (bput t w v).getD i d = _
        rw [i2]
        by_cases hi : i < brank t w
        · rw [if_pos hi, if_pos (by omega)]; rfl
        · rw [if_neg hi, if_neg (show ¬ i + 1 < brank t w + 1 by omega)]
          by_cases hj : i = brank t w
          · rw [if_pos hj, if_pos (show i + 1 = brank t w + 1 by omega)]
          · rw [if_neg hj, if_neg (show ¬ i + 1 = brank t w + 1 by omega)]
            cases i with
            | zero => omega
            | succ i => rfl
    · have e : brank ((c, z) :: t) w = 0 := by simp only [brank, if_neg hc]
      have hcw : ¬ c = w := fun q => hf (by unfold fnd; rw [e]; exact ⟨by simp, q⟩)
      have e2 : bput ((c, z) :: t) w v = (w, v) :: (c, z) :: t := by simp only [bput, if_neg hc, if_neg hcw]
      rw [e, e2]
      refine ⟨rfl, fun i d => ?_⟩
      cases i with
      | zero => rfl
      | succ i => rw [if_neg (by omega), if_neg (by omega)]; rfl
theorem bdel_found {l : Bk} (hs : SB l) {w : Nat} (hf : fnd l w) : (bdel l w).length + 1 = l.length ∧ ∀ i d, (bdel l w).getD i d = if i < brank l w then l.getD i d else l.getD (i + 1) d := by
  induction l with
  | nil => exact absurd hf.1 (Nat.not_lt_zero _)
  | cons y t ih =>
    obtain ⟨c, z⟩ := y
    obtain ⟨h1, h2⟩ := List.pairwise_cons.mp hs
    by_cases hc : c < w
    · have e : brank ((c, z) :: t) w = brank t w + 1 := by simp only [brank, if_pos hc]
      have hf' : fnd t w := by
        unfold fnd at hf ⊢
        rw [e] at hf
        exact ⟨by simpa using hf.1, hf.2⟩
      obtain ⟨i1, i2⟩ := ih h2 hf'
      have e2 : bdel ((c, z) :: t) w = (c, z) :: bdel t w := by simp only [bdel, if_neg (show ¬ c = w by omega)]
      rw [e, e2]
      refine ⟨by simp only [List.length_cons]; omega, fun i d => ?_⟩
      cases i with
      | zero => rw [if_pos (by omega)]; rfl
      | succ i =>
        show (bdel t w).getD i d = _
        rw [i2]
        by_cases hi : i < brank t w
        · rw [if_pos hi, if_pos (by omega)]; rfl
        · rw [if_neg hi, if_neg (by omega)]; rfl
    · have e : brank ((c, z) :: t) w = 0 := by simp only [brank, if_neg hc]
      have hcw : c = w := by have := hf.2; rw [e] at this; exact this
      have e2 : bdel ((c, z) :: t) w = t := by simp only [bdel, if_pos hcw]
      rw [e, e2]
      exact ⟨rfl, fun i d => by rw [if_neg (by omega)]; rfl⟩
theorem bdel_none {l : Bk} (hs : SB l) {w : Nat} (hf : ¬ fnd l w) : bdel l w = l := by
  induction l with
  | nil => rfl
  | cons y t ih =>
    obtain ⟨c, z⟩ := y
    obtain ⟨h1, h2⟩ := List.pairwise_cons.mp hs
    have hcw : ¬ c = w := fun q => hf (by
      have e : brank ((c, z) :: t) w = 0 := by simp only [brank, if_neg (show ¬ c < w by omega)]
      unfold fnd; rw [e]; exact ⟨by simp, q⟩)
    simp only [bdel, if_neg hcw]
    congr 1
    by_cases hc : c < w
    · have e : brank ((c, z) :: t) w = brank t w + 1 := by simp only [brank, if_pos hc]
      exact ih h2 (fun q => hf (by unfold fnd at q ⊢; rw [e]; exact ⟨by simpa using q.1, q.2⟩))
    · have hall : ∀ x ∈ t, w < x.1 := fun x hx => by have := h1 x hx; have h3 : c < x.1 := this; omega
      clear ih hf h1 hs
      induction t with
      | nil => rfl
      | cons x t ih2 =>
        have h4 := hall x List.mem_cons_self
        simp only [bdel]
        rw [if_neg (by omega)]
        rw [ih2 (List.pairwise_cons.mp h2).2 (fun y hy => hall y (List.mem_cons_of_mem _ hy))]
section
variable {h : ZH} {f : FI} {k r1 a1 r2 a2 m : Nat} {l : Bk}
theorem vr_ok {α : Type} {c a : Nat} {m : ZM α} {h : ZH} (hk : zK h a = (c + 6, 0)) : z_vr c (some a) m h = m h := by
  simp only [z_vr, hk, if_true]
theorem bk_count (sh : BkAt h k r1 a1 r2 a2 m) (b : BkIs f k a1 a2 m l) : p_X10_count (some k) (hI h f) = some (I l.length, hI h f) := by
  simp only [p_X10_count, ite_ap, z_b, z_n, z_rt, z_vr, z_gI, z_gR, z_pI, z_pR, hI_K, hI_R, hI_I, hI_hI, hI_T, hI_N, hI_L, hI_D, sI_hI, wI_hI, if_true, sh.1, b.2.1]
theorem bk_wordOn (sh : BkAt h k r1 a1 r2 a2 m) (b : BkIs f k a1 a2 m l) {i : Nat} (hi : i < l.length) : p_X10_wordOn (some k) (I i) (hI h f) = some (I (cd l i), hI h f) := by
  simp only [p_X10_wordOn, ite_ap, z_b, z_n, z_rt, z_vr, z_gI, z_gR, z_pI, z_pR, hI_K, hI_R, hI_I, hI_hI, hI_T, hI_N, hI_L, hI_D, sI_hI, wI_hI, if_true, sh.1, sh.2.1, sh.2.2.2.1.1, row_getN (f := f) sh.2.2.2.1 (Nat.lt_of_lt_of_le hi b.2.2.1), (b.2.2.2.2.1 i hi).1]
theorem bk_valueOn (sh : BkAt h k r1 a1 r2 a2 m) (b : BkIs f k a1 a2 m l) {i : Nat} (hi : i < l.length) : p_X10_valueOn (some k) (I i) (hI h f) = some (I (vl l i), hI h f) := by
  simp only [p_X10_valueOn, ite_ap, z_b, z_n, z_rt, z_vr, z_gI, z_gR, z_pI, z_pR, hI_K, hI_R, hI_I, hI_hI, hI_T, hI_N, hI_L, hI_D, sI_hI, wI_hI, if_true, sh.1, sh.2.2.1, sh.2.2.2.2.1.1, row_getN (f := f) sh.2.2.2.2.1 (Nat.lt_of_lt_of_le hi b.2.2.1), (b.2.2.2.2.1 i hi).2]
theorem bk_clear (sh : BkAt h k r1 a1 r2 a2 m) (b : BkIs f k a1 a2 m l) : p_X10_clear (some k) (hI h f) = some ((), hI h (zu f k 3 0)) ∧ BkIs (zu f k 3 0) k a1 a2 m [] := by
  refine ⟨by simp only [p_X10_clear, ite_ap, z_b, z_n, z_rt, z_vr, z_gI, z_gR, z_pI, z_pR, hI_K, hI_R, hI_I, hI_hI, hI_T, hI_N, hI_L, hI_D, sI_hI, wI_hI, if_true, sh.1], ?_⟩
  refine ⟨by rw [zu_cell, if_neg (by decide)]; exact b.1, by rw [zu_cell, if_pos rfl]; rfl, Nat.zero_le _, List.Pairwise.nil, fun i hi => absurd hi (Nat.not_lt_zero _), fun i hi => absurd hi (Nat.not_lt_zero _)⟩
theorem bk_valueOf (sh : BkAt h k r1 a1 r2 a2 m) (b : BkIs f k a1 a2 m l) {w : Nat} (hw : w < 2147483648) : p_X10_valueOf (some k) (I w) (hI h f) = some (I (bget l w), hI h f) := by
  have hr := brank_le l w
  have hm := sh.2.2.2.2.2.2.2.2
  have hlm := b.2.2.1
  have e1 : (I (l.length : Int) ≤ I (brank l w : Int)) ↔ l.length ≤ brank l w := by rw [I_le (by omega) (by omega)]; omega
  rw [bget_eq b.2.2.2.1]
  simp only [p_X10_valueOf, ite_ap, z_b, z_n, z_rt, z_vr, z_gI, z_gR, z_pI, z_pR, hI_K, hI_R, hI_I, hI_hI, hI_T, hI_N, hI_L, hI_D, sI_hI, wI_hI, if_true, sh.1, sh.2.1, sh.2.2.1, sh.2.2.2.1.1, sh.2.2.2.2.1.1, place_eq sh b hw, b.2.1, e1]
  by_cases c1 : l.length ≤ brank l w
  · rw [if_pos c1, if_neg (by omega)]; rfl
  · have c2 : brank l w < l.length := by omega
    obtain ⟨g1, g2⟩ := b.2.2.2.2.1 _ c2
    have g3 := b.2.2.2.2.2 _ c2
    have e2 : (I (cd l (brank l w) : Int) = I (w : Int)) ↔ cd l (brank l w) = w := by rw [I_inj (by omega) (by omega)]; omega
    rw [if_neg c1]
    simp only [row_getN (f := f) sh.2.2.2.1 (Nat.lt_of_lt_of_le c2 hlm), row_getN (f := f) sh.2.2.2.2.1 (Nat.lt_of_lt_of_le c2 hlm), g1, g2, e2]
    by_cases c3 : cd l (brank l w) = w
    · rw [if_neg (fun q => q c3)]
      have c4 : brank l w < l.length ∧ cd l (brank l w) = w := ⟨c2, c3⟩
      simp only [ite_ap, z_b, z_n, z_rt, z_vr, z_gI, z_gR, z_pI, z_pR, hI_K, hI_R, hI_I, hI_hI, hI_T, hI_N, hI_L, hI_D, sI_hI, wI_hI, if_true, c4, sh.1, sh.2.2.1, sh.2.2.2.2.1.1, row_getN (f := f) sh.2.2.2.2.1 (Nat.lt_of_lt_of_le c2 hlm), g2, and_self]
    · have c4 : ¬ (brank l w < l.length ∧ cd l (brank l w) = w) := fun q => c3 q.2
      rw [if_pos c3, if_neg c4]; rfl
theorem bk_store (sh : BkAt h k r1 a1 r2 a2 m) (b : BkIs f k a1 a2 m l) {w v : Nat} (hw : w < 2147483648) (hv : v < 2147483648) (room : fnd l w ∨ l.length < m) :
    ∃ g, p_X10_store (some k) (I w) (I v) (hI h f) = some ((), hI h g) ∧ BkIs g k a1 a2 m (bput l w v) ∧ Fr f g [k, a1, a2] := by
  have hr := brank_le l w
  obtain ⟨s1, s2, s3, s4, s5, s6, s7, s8, s9⟩ := id sh
  obtain ⟨b1, b2, b3, b4, b5, b6⟩ := id b
  have e1 : (I (l.length : Int) ≤ I (brank l w : Int)) ↔ l.length ≤ brank l w := by rw [I_le (by omega) (by omega)]; omega
  by_cases hf : fnd l w
  · obtain ⟨c2, c3⟩ := id hf
    obtain ⟨g1, g2⟩ := b5 _ c2
    obtain ⟨p1, p2⟩ := bput_found (v := v) hf
    refine ⟨zu f a2 (brank l w) (I v), ?_, ?_, Fr.zu (by simp)⟩
    · simp only [p_X10_store, ite_ap, z_b, z_n, z_rt, z_vr, z_gI, z_gR, z_pI, z_pR, hI_K, hI_R, hI_I, hI_hI, hI_T, hI_N, hI_L, hI_D, sI_hI, wI_hI, if_true, s1, s2, s3, s4.1, s5.1, place_eq sh b hw, b2, e1]
      rw [if_neg (by omega)]
      simp only [row_getN (f := f) s4 (Nat.lt_of_lt_of_le c2 b3), g1, c3, not_true_eq_false, if_false, ite_ap, z_b, z_n, z_rt, z_vr, z_gI, z_gR, z_pI, z_pR, hI_K, hI_R, hI_I, hI_hI, hI_T, hI_N, hI_L, hI_D, sI_hI, wI_hI, if_true, s1, s3, s5.1, row_setN (f := f) s5 (Nat.lt_of_lt_of_le c2 b3)]
    · refine ⟨by rw [zu_ne s7]; exact b1, by rw [zu_ne s7, p1]; exact b2, by rw [p1]; exact b3, SB_bput b4 w v, fun i hi => ?_, fun i hi => ?_⟩
      · rw [p1] at hi
        rw [zu_ne s8, zu_cell]
        unfold cd vl
        rw [p2]
        obtain ⟨q1, q2⟩ := b5 i hi
        by_cases hi2 : i = brank l w
        · rw [if_pos hi2, if_pos hi2]
          refine ⟨?_, rfl⟩
          rw [q1, hi2, c3]
        · rw [if_neg hi2, if_neg hi2]
          exact ⟨q1, q2⟩
      · rw [p1] at hi
        unfold cd vl
        rw [p2]
        by_cases hi2 : i = brank l w
        · rw [if_pos hi2]; exact ⟨hw, hv⟩
        · rw [if_neg hi2]; exact b6 i hi
  · have hm : l.length < m := room.resolve_left hf
    obtain ⟨p1, p2⟩ := bput_new (v := v) b4 hf
    have e2 : (I (m : Int) ≤ I (l.length : Int)) ↔ m ≤ l.length := by rw [I_le (by omega) (by omega)]; omega
    have e3 : I (l.length : Int) + 1 = I ((l.length + 1 : Nat) : Int) := I_add _ 1
    have i1 := row_insertN (f := f) s4 hr hm (I (w : Int))
    have i2 := row_insertN (f := zw f a1 (insF (f a1) (brank l w) l.length (I (w : Int)))) s5 hr hm (I (v : Int))
    rw [zw_ne (fun q => s8 q.symm)] at i2
    have z1 : ∀ g : Nat → Int32, zw f a1 g k = f k := fun g => zw_ne s6 g
    have z2 : ∀ (g g' : Nat → Int32), zw (zw f a1 g) a2 g' k = f k := fun g g' => by rw [zw_ne s7, zw_ne s6]
    have hb38 : p_X10_store_b38 (some k) (I w) (I v) (I (brank l w)) (hI h f) = some ((), hI h (zu (zw (zw f a1 (insF (f a1) (brank l w) l.length (I (w : Int)))) a2 (insF (f a2) (brank l w) l.length (I (v : Int)))) k 3 (I ((l.length + 1 : Nat) : Int)))) := by
      simp only [p_X10_store_b38, ite_ap, z_b, z_n, z_rt, z_vr, z_gI, z_gR, z_pI, z_pR, hI_K, hI_R, hI_I, hI_hI, hI_T, hI_N, hI_L, hI_D, sI_hI, wI_hI, if_true, s1, s2, s3, s4.1, s5.1, b1, b2, e2]
      rw [if_neg (by omega)]
      simp only [i1, i2, ite_ap, z_b, z_n, z_rt, z_vr, z_gI, z_gR, z_pI, z_pR, hI_K, hI_R, hI_I, hI_hI, hI_T, hI_N, hI_L, hI_D, sI_hI, wI_hI, if_true, s1, s2, s3, s4.1, s5.1, b1, b2, z1, z2, e3]
    refine ⟨zu (zw (zw f a1 (insF (f a1) (brank l w) l.length (I (w : Int)))) a2 (insF (f a2) (brank l w) l.length (I (v : Int)))) k 3 (I ((l.length + 1 : Nat) : Int)), ?_, ?_, ((Fr.zw (A := [k, a1, a2]) (by simp)).trans (Fr.zw (by simp))).trans (Fr.zu (by simp))⟩
    · simp only [p_X10_store, ite_ap, z_b, z_n, z_rt, z_vr, z_gI, z_gR, z_pI, z_pR, hI_K, hI_R, hI_I, hI_hI, hI_T, hI_N, hI_L, hI_D, sI_hI, wI_hI, if_true, s1, place_eq sh b hw, b2, e1]
      by_cases c1 : l.length ≤ brank l w
      · rw [if_pos c1, hb38]
      · have c2 : brank l w < l.length := by omega
        rw [if_neg c1]
        obtain ⟨g1, g2⟩ := b5 _ c2
        have g3 := b6 _ c2
        have e4 : (I (cd l (brank l w) : Int) = I (w : Int)) ↔ cd l (brank l w) = w := by rw [I_inj (by omega) (by omega)]; omega
        have c3 : ¬ cd l (brank l w) = w := fun q => hf ⟨c2, q⟩
        simp only [s2, s4.1, ite_ap, z_b, z_n, z_rt, z_vr, z_gI, z_gR, z_pI, z_pR, hI_K, hI_R, hI_I, hI_hI, hI_T, hI_N, hI_L, hI_D, sI_hI, wI_hI, if_true, s1, row_getN (f := f) s4 (Nat.lt_of_lt_of_le c2 b3), g1, e4, c3, not_false_eq_true, hb38]
    · refine ⟨by rw [zu_cell, if_neg (by decide), z2]; exact b1, by rw [zu_cell, if_pos rfl, p1], by rw [p1]; exact hm, SB_bput b4 w v, fun i hi => ?_, fun i hi => ?_⟩
      · rw [p1] at hi
        rw [zu_ne (fun q => s6 q.symm), zu_ne (fun q => s7 q.symm), zw_ne s8, zw_same, zw_same]
        unfold cd vl insF
        rw [p2]
        by_cases hi1 : i < brank l w
        · rw [if_pos hi1, if_pos hi1, if_pos hi1]
          exact b5 i (by omega)
        · rw [if_neg hi1, if_neg hi1, if_neg hi1]
          by_cases hi2 : i = brank l w
          · rw [if_pos hi2, if_pos hi2, if_pos hi2]; exact ⟨rfl, rfl⟩
          · rw [if_neg hi2, if_neg hi2, if_neg hi2, if_pos (by omega), if_pos (by omega)]
            exact b5 (i - 1) (by omega)
      · rw [p1] at hi
        unfold cd vl
        rw [p2]
        by_cases hi1 : i < brank l w
        · rw [if_pos hi1]; exact b6 i (by omega)
        · rw [if_neg hi1]
          by_cases hi2 : i = brank l w
          · rw [if_pos hi2]; exact ⟨hw, hv⟩
          · rw [if_neg hi2]; exact b6 (i - 1) (by omega)
theorem bk_drop (sh : BkAt h k r1 a1 r2 a2 m) (b : BkIs f k a1 a2 m l) {w : Nat} (hw : w < 2147483648) :
    ∃ g, p_X10_drop (some k) (I w) (hI h f) = some ((), hI h g) ∧ BkIs g k a1 a2 m (bdel l w) ∧ Fr f g [k, a1, a2] := by
  have hr := brank_le l w
  obtain ⟨s1, s2, s3, s4, s5, s6, s7, s8, s9⟩ := id sh
  obtain ⟨b1, b2, b3, b4, b5, b6⟩ := id b
  have e1 : (I (l.length : Int) ≤ I (brank l w : Int)) ↔ l.length ≤ brank l w := by rw [I_le (by omega) (by omega)]; omega
  by_cases hf : fnd l w
  · obtain ⟨c2, c3⟩ := id hf
    obtain ⟨g1, g2⟩ := b5 _ c2
    obtain ⟨p1, p2⟩ := bdel_found b4 hf
    have i1 := row_removeN (f := f) s4 c2 b3
    have i2 := row_removeN (f := zw f a1 (remF (f a1) (brank l w) l.length)) s5 c2 b3
    rw [zw_ne (fun q => s8 q.symm)] at i2
    have e3 : I (l.length : Int) - 1 = I ((l.length - 1 : Nat) : Int) := I_sn l.length 1 (by omega)
    have z1 : ∀ g : Nat → Int32, zw f a1 g k = f k := fun g => zw_ne s6 g
    have z2 : ∀ (g g' : Nat → Int32), zw (zw f a1 g) a2 g' k = f k := fun g g' => by rw [zw_ne s7, zw_ne s6]
    refine ⟨zu (zw (zw f a1 (remF (f a1) (brank l w) l.length)) a2 (remF (f a2) (brank l w) l.length)) k 3 (I ((l.length - 1 : Nat) : Int)), ?_, ?_, ((Fr.zw (A := [k, a1, a2]) (by simp)).trans (Fr.zw (by simp))).trans (Fr.zu (by simp))⟩
    · simp only [p_X10_drop, ite_ap, z_b, z_n, z_rt, z_vr, z_gI, z_gR, z_pI, z_pR, hI_K, hI_R, hI_I, hI_hI, hI_T, hI_N, hI_L, hI_D, sI_hI, wI_hI, if_true, s1, s2, s3, s4.1, s5.1, place_eq sh b hw, b2, e1]
      rw [if_neg (by omega)]
      simp only [row_getN (f := f) s4 (Nat.lt_of_lt_of_le c2 b3), g1, c3, not_true_eq_false, if_false, ite_ap, z_b, z_n, z_rt, z_vr, z_gI, z_gR, z_pI, z_pR, hI_K, hI_R, hI_I, hI_hI, hI_T, hI_N, hI_L, hI_D, sI_hI, wI_hI, if_true, s1, s2, s3, s4.1, s5.1, i1, i2, b2, z1, z2, e3]
    · refine ⟨by rw [zu_cell, if_neg (by decide), z2]; exact b1, by rw [zu_cell, if_pos rfl, show l.length - 1 = (bdel l w).length by omega], by omega, SB_bdel b4 w, fun i hi => ?_, fun i hi => ?_⟩
      · rw [zu_ne (fun q => s6 q.symm), zu_ne (fun q => s7 q.symm), zw_ne s8, zw_same, zw_same]
        unfold cd vl remF
        rw [p2]
        by_cases hi1 : i < brank l w
        · rw [if_pos hi1, if_neg (by omega), if_neg (by omega)]
          exact b5 i (by omega)
        · rw [if_neg hi1, if_pos (by omega), if_pos (by omega)]
          exact b5 (i + 1) (by omega)
      · unfold cd vl
        rw [p2]
        by_cases hi1 : i < brank l w
        · rw [if_pos hi1]; exact b6 i (by omega)
        · rw [if_neg hi1]; exact b6 (i + 1) (by omega)
  · refine ⟨f, ?_, by rw [bdel_none b4 hf]; exact b, Fr.refl _ _⟩
    simp only [p_X10_drop, ite_ap, z_b, z_n, z_rt, z_vr, z_gI, z_gR, z_pI, z_pR, hI_K, hI_R, hI_I, hI_hI, hI_T, hI_N, hI_L, hI_D, sI_hI, wI_hI, if_true, s1, s2, place_eq sh b hw, b2, e1]
    by_cases c1 : l.length ≤ brank l w
    · rw [if_pos c1]
    · have c2 : brank l w < l.length := by omega
      rw [if_neg c1]
      obtain ⟨g1, g2⟩ := b5 _ c2
      have g3 := b6 _ c2
      have e4 : (I (cd l (brank l w) : Int) = I (w : Int)) ↔ cd l (brank l w) = w := by rw [I_inj (by omega) (by omega)]; omega
      have c3 : ¬ cd l (brank l w) = w := fun q => hf ⟨c2, q⟩
      simp only [s4.1, ite_ap, z_b, z_n, z_rt, z_vr, z_gI, z_gR, z_pI, z_pR, hI_K, hI_R, hI_I, hI_hI, hI_T, hI_N, hI_L, hI_D, sI_hI, wI_hI, if_true, row_getN (f := f) s4 (Nat.lt_of_lt_of_le c2 b3), g1, e4, c3, not_false_eq_true]
end
