def sgs (u : Wd) : List Nat := u.map (fun l => 97 + l)
def repT (t : List Nat) (s n : Nat) (u : Wd) : List Nat := t.take s ++ (sgs u ++ t.drop (s + n))
theorem remT_rep {t : List Nat} {s i : Nat} (h : s + i < t.length) : remT (t.take s ++ t.drop (s + i)) s = t.take s ++ t.drop (s + (i + 1)) := by
  unfold remT
  have hl : (t.take s).length = s := by rw [List.length_take]; omega
  rw [List.take_append_of_le_length (by omega), List.take_take, Nat.min_self, List.drop_append, hl, List.drop_eq_nil_of_le (by omega), List.nil_append, List.drop_drop]
  congr 2
  omega
theorem insT_rep {a b : List Nat} {s c : Nat} (h : a.length = s) : insT (a ++ b) s c = (a ++ [c]) ++ b := by
  unfold insT
  rw [List.take_append_of_le_length (by omega), List.take_of_length_le (by omega), List.drop_append, List.drop_eq_nil_of_le (by omega), List.nil_append, h, Nat.sub_self, List.drop_zero, List.append_assoc]
  rfl
section
variable {h : ZH} {tx ty : Nat} {rw ar rw' ar' : Nat → Nat} {f f' : FI} {t b : List Nat}
theorem bl_l (o : Ob h 10 tx rw ar tSz) (o' : Ob h 10 ty rw' ar' tSz) (hne : ar 0 ≠ ty ∧ tx ≠ ty ∧ ∀ j, j < 6 → ar 0 ≠ ar' j ∧ tx ≠ ar' j) (hs : ∀ c ∈ t, isSg c) :
    ∀ (c k n : Nat) (f : FI), k + c = t.length → c < n → TxC f tx ar t → f ty 6 = I t.length → (∀ i, i < k → f (ar' 0) i = I (t.getD i 0)) → f (ar' 4) 0 = 0 → f (ar' 5) 0 = 0 →
      ∃ f', p_X9_becomeLike_l10 n (some ty) (some tx) (I k) (hI h f) = some ((), hI h f') ∧ FoS f' ty ar' t ∧ OFr f f' ty ar' [6, 7, 8] [0, 1, 2, 3, 4, 5] := by
  intro c
  induction c with
  | zero =>
    intro k n f hk hn T T6 Ti z4 z5
    obtain ⟨n, rfl⟩ := Nat.exists_eq_add_of_lt hn
    have hk' : k = t.length := by omega
    subst hk'
    have hl := T.2.1
    have T' : TxC f ty ar' t := ⟨T6, hl, fun i c hc => by
      have hi := lt_of_get hc
      have := Ti i hi
      rw [List.getD_eq_getElem?_getD, hc] at this
      exact this⟩
    obtain ⟨f', v1, v2, v3⟩ := fw_eqS o' hs T' z4 z5
    refine ⟨f', ?_, v2, v3.of.mono (by simp) (by simp)⟩
    have e1 : I (t.length : Int) ≤ I (t.length : Int) := by rw [I_le (by omega) (by omega)]; omega
    show p_X9_becomeLike_c10 _ _ _ _ _ = _
    simp only [p_X9_becomeLike_c10, p_X9_becomeLike_b40, z_b, z_rt, ite_ap, o_gI o', T6, e1, if_true, o_vr o', v1]
  | succ c ih =>
    intro k n f hk hn T T6 Ti z4 z5
    cases n with
    | zero => exact absurd hn (Nat.not_lt_zero _)
    | succ n =>
      have hl := T.2.1
      have e1 : ¬ I (t.length : Int) ≤ I (k : Int) := by rw [I_le (by omega) (by omega)]; omega
      have e2 : I (k : Int) + 1 = I ((k + 1 : Nat) : Int) := I_add _ 1
      have g1 : f (ar 0) k = I (t.getD k 0) := T.2.2 k _ (getD_some (by omega))
      have n0 := o_nx o' (j := 0) (by decide)
      have n40 := o_ne o' (i := 4) (j := 0) (by decide) (by decide) (by decide)
      have n50 := o_ne o' (i := 5) (j := 0) (by decide) (by decide) (by decide)
      have F1 : OFr f (zu f (ar' 0) k (I (t.getD k 0))) ty ar' [6, 7, 8] [0, 1, 2, 3, 4, 5] := OFr.sI o' 0 k _ (by decide) (by simp)
      obtain ⟨f', p1, p2, p3⟩ := ih (k + 1) n (zu f (ar' 0) k (I (t.getD k 0))) (by omega) (by omega)
        ⟨by rw [zu_ne (hne.2.2 0 (by decide)).2]; exact T.1, hl, fun i c hc => by rw [zu_ne (hne.2.2 0 (by decide)).1]; exact T.2.2 i c hc⟩
        (by rw [zu_ne n0.symm]; exact T6)
        (fun i hi => by
          rw [zu_cell]
          by_cases q : i = k
          · rw [if_pos q, q]
          · rw [if_neg q]; exact Ti i (by omega))
        (by rw [zu_ne n40]; exact z4) (by rw [zu_ne n50]; exact z5)
      refine ⟨f', ?_, p2, F1.trans p3⟩
      rw [← p1]
      show p_X9_becomeLike_c10 (p_X9_becomeLike_l10 n) _ _ _ _ = _
      simp only [p_X9_becomeLike_c10, z_b, z_n, ite_ap, o_gI o', T6, e1, if_false, o_gR o 0 (by decide), o_gR o' 0 (by decide), o_rv o 0 (by decide), o_rv o' 0 (by decide), o_get o 0 100 rfl (show k < 100 by omega), g1, o_set o' 0 100 rfl (show k < 100 by omega), e2]
theorem bl_eq (o : Ob h 10 tx rw ar tSz) (o' : Ob h 10 ty rw' ar' tSz) (hne : ar 0 ≠ ty ∧ tx ≠ ty ∧ ∀ j, j < 6 → ar 0 ≠ ar' j ∧ tx ≠ ar' j) (hs : ∀ c ∈ t, isSg c) (T : TxC f tx ar t) (z4 : f (ar' 4) 0 = 0) (z5 : f (ar' 5) 0 = 0) :
    ∃ f', p_X9_becomeLike (some ty) (some tx) (hI h f) = some ((), hI h f') ∧ FoS f' ty ar' t ∧ OFr f f' ty ar' [6, 7, 8] [0, 1, 2, 3, 4, 5] := by
  have hl := T.2.1
  have n4 := o_nx o' (j := 4) (by decide)
  have n5 := o_nx o' (j := 5) (by decide)
  obtain ⟨f', p1, p2, p3⟩ := bl_l o o' hne hs t.length 0 zFuel (zu f ty 6 (I t.length)) (by omega) (by unfold zFuel; omega)
    ⟨by rw [zu_ne hne.2.1]; exact T.1, hl, fun i c hc => by rw [zu_ne hne.1]; exact T.2.2 i c hc⟩ (zu_same _ _ _ _) (fun i hi => absurd hi (Nat.not_lt_zero _)) (by rw [zu_ne n4]; exact z4) (by rw [zu_ne n5]; exact z5)
  refine ⟨f', ?_, p2, (OFr.pI 6 _ (by simp)).trans p3⟩
  have p1' : p_X9_becomeLike_l10 zFuel (some ty) (some tx) 0 (hI h (zu f ty 6 (I t.length))) = some ((), hI h f') := p1
  simp only [p_X9_becomeLike, z_b, o_gI o, o_pI o', T.1, p1']
theorem rp33 (o : Ob h 10 tx rw ar tSz) {a b : List Nat} {s : Nat} (ha : a.length = s) {u : Wd} (hu : isW u) (hul : u.length ≤ 10) (hlen : s + u.length + b.length ≤ 100) :
    ∀ (c i n : Nat) (f : FI), i + c = u.length → c < n → TxC f tx ar (a ++ (sgs (u.take i) ++ b)) →
      ∃ f', p_X9_replaceWord_l33 n (some tx) (I (cN u)) (I s) (I i) (hI h f) = some ((), hI h f') ∧ TxC f' tx ar (a ++ (sgs u ++ b)) ∧ OFr f f' tx ar [6] [0] := by
  intro c
  induction c with
  | zero =>
    intro i n f hi hn T
    obtain ⟨n, rfl⟩ := Nat.exists_eq_add_of_lt hn
    have e1 : I (u.length : Int) ≤ I (i : Int) := by rw [I_le (by omega) (by omega)]; omega
    rw [List.take_of_length_le (by omega)] at T
    refine ⟨f, ?_, T, OFr.refl _ _ _ _ _⟩
    show p_X9_replaceWord_c33 _ _ _ _ _ _ = _
    simp only [p_X9_replaceWord_c33, z_b, z_rt, ite_ap, sizeOf_eq _ hu hul, e1, if_true]
  | succ c ih =>
    intro i n f hi hn T
    cases n with
    | zero => exact absurd hn (Nat.not_lt_zero _)
    | succ n =>
      have e1 : ¬ I (u.length : Int) ≤ I (i : Int) := by rw [I_le (by omega) (by omega)]; omega
      have e2 : I (i : Int) + 1 = I ((i + 1 : Nat) : Int) := I_add _ 1
      have sl : (sgs (u.take i)).length = i := by unfold sgs; rw [List.length_map, List.length_take]; omega
      have tl : (a ++ (sgs (u.take i) ++ b)).length = s + i + b.length := by rw [List.length_append, List.length_append, sl]; omega
      obtain ⟨f1, v1, v2, v3⟩ := ins_eq o T (p := s + i) (by omega) (by omega) (97 + u.getD i 0)
      have ea : a ++ (sgs (u.take i) ++ b) = (a ++ sgs (u.take i)) ++ b := (List.append_assoc _ _ _).symm
      rw [ea, insT_rep (by rw [List.length_append, sl]; omega)] at v2
      have eb : (a ++ sgs (u.take i)) ++ [97 + u.getD i 0] ++ b = a ++ (sgs (u.take (i + 1)) ++ b) := by
        have : sgs (u.take (i + 1)) = sgs (u.take i) ++ [97 + u.getD i 0] := by
          unfold sgs
          rw [List.take_succ, getD_some (t := u) (d := 0) (show i < u.length by omega), List.map_append]; rfl
        rw [this]; simp
      rw [eb] at v2
      obtain ⟨f', p1, p2, p3⟩ := ih (i + 1) n f1 (by omega) (by omega) v2
      refine ⟨f', ?_, p2, v3.trans p3⟩
      rw [← p1]
      have lo := letterOf_eq (hI h f) hu hul (show i < u.length by omega)
      have e3 : (97 : Int32) + I (u.getD i 0 : Int) = I ((97 + u.getD i 0 : Nat) : Int) := I_add 97 _
      show p_X9_replaceWord_c33 (p_X9_replaceWord_l33 n) _ _ _ _ _ = _
      simp only [p_X9_replaceWord_c33, z_b, z_n, ite_ap, sizeOf_eq _ hu hul, e1, if_false, lo, I_an, e3, o_vr o, v1, e2]
theorem rp9 (o : Ob h 10 tx rw ar tSz) {j n0 s : Nat} (hj : j < 50) (hn0 : s + n0 ≤ t.length) {u : Wd} (hu : isW u) (hul : u.length ≤ 10) (hlen : t.length - n0 + u.length ≤ 100) (ht : t.length ≤ 100) :
    ∀ (c i n : Nat) (f : FI), i + c = n0 → c < n → f (ar 2) j = I n0 → TxC f tx ar (t.take s ++ t.drop (s + i)) →
      ∃ f', p_X9_replaceWord_l9 n (some tx) (I j) (I (cN u)) (I s) (I i) (hI h f) = some ((), hI h f') ∧ TxC f' tx ar (repT t s n0 u) ∧ OFr f f' tx ar [6] [0] := by
  have hs : (t.take s).length = s := by rw [List.length_take]; omega
  intro c
  induction c with
  | zero =>
    intro i n f hi hn hw T
    obtain ⟨n, rfl⟩ := Nat.exists_eq_add_of_lt hn
    have e1 : I (n0 : Int) ≤ I (i : Int) := by rw [I_le (by omega) (by omega)]; omega
    have hi' : i = n0 := by omega
    subst hi'
    obtain ⟨f', p1, p2, p3⟩ := rp33 o hs hu hul (b := t.drop (s + i)) (by rw [List.length_drop]; omega) u.length 0 zFuel f (by omega) (by unfold zFuel; omega) T
    refine ⟨f', ?_, p2, p3⟩
    have p1' : p_X9_replaceWord_l33 zFuel (some tx) (I (cN u)) (I s) 0 (hI h f) = some ((), hI h f') := p1
    show p_X9_replaceWord_c9 _ _ _ _ _ _ _ = _
    simp only [p_X9_replaceWord_c9, p_X9_replaceWord_b30, p_X9_wordSize, z_b, z_rt, ite_ap, o_vr o, o_gR o 2 (by decide), o_rv o 2 (by decide), o_get o 2 50 rfl hj, hw, e1, if_true, p1']
  | succ c ih =>
    intro i n f hi hn hw T
    cases n with
    | zero => exact absurd hn (Nat.not_lt_zero _)
    | succ n =>
      have e1 : ¬ I (n0 : Int) ≤ I (i : Int) := by rw [I_le (by omega) (by omega)]; omega
      have e2 : I (i : Int) + 1 = I ((i + 1 : Nat) : Int) := I_add _ 1
      obtain ⟨f1, v1, v2, v3⟩ := rem_eq o T (p := s) (by rw [List.length_append, List.length_drop, hs]; omega)
      rw [remT_rep (by omega)] at v2
      obtain ⟨f', p1, p2, p3⟩ := ih (i + 1) n f1 (by omega) (by omega) (by rw [v3.at_ o (j := 2) (by decide) (by simp) (by decide)]; exact hw) v2
      refine ⟨f', ?_, p2, v3.trans p3⟩
      rw [← p1]
      show p_X9_replaceWord_c9 (p_X9_replaceWord_l9 n) _ _ _ _ _ _ = _
      simp only [p_X9_replaceWord_c9, p_X9_wordSize, z_b, z_rt, z_n, ite_ap, o_vr o, o_gR o 2 (by decide), o_rv o 2 (by decide), o_get o 2 50 rfl hj, hw, e1, if_false, v1, e2]
/-- a word becomes another one -/
theorem rp_eq (o : Ob h 10 tx rw ar tSz) {ws : List Wr} (T : TxC f tx ar t) (W : WsC f tx ar ws) {j : Nat} {w : Wr} (hw : ws[j]? = some w) (hj : j < 50) (hn0 : w.1 + w.2.1.length ≤ t.length) {u : Wd} (hu : isW u) (hul : u.length ≤ 10) (hlen : t.length - w.2.1.length + u.length ≤ 100) :
    ∃ f', p_X9_replaceWord (some tx) (I j) (I (cN u)) (hI h f) = some ((), hI h f') ∧ TxC f' tx ar (repT t w.1 w.2.1.length u) ∧ OFr f f' tx ar [6] [0] := by
  obtain ⟨w1, w2, w3⟩ := W.2 j w hw
  have ht := T.2.1
  obtain ⟨f', p1, p2, p3⟩ := rp9 o (s := w.1) hj hn0 hu hul hlen ht w.2.1.length 0 zFuel f (by omega) (by unfold zFuel; omega) w2 (by rw [Nat.add_zero, List.take_append_drop]; exact T)
  refine ⟨f', ?_, p2, p3⟩
  have p1' : p_X9_replaceWord_l9 zFuel (some tx) (I j) (I (cN u)) (I w.1) 0 (hI h f) = some ((), hI h f') := p1
  simp only [p_X9_replaceWord, p_X9_wordStart, z_b, z_rt, o_vr o, o_gR o 1 (by decide), o_rv o 1 (by decide), o_get o 1 50 rfl hj, w1, p1']
theorem repT_mem {t : List Nat} {s n : Nat} {u : Wd} (hs : ∀ c ∈ t, isSg c) (hu : isW u) : ∀ d ∈ repT t s n u, isSg d := by
  intro d hd
  unfold repT sgs at hd
  rcases List.mem_append.mp hd with z | z
  · exact hs d (List.mem_of_mem_take z)
  · rcases List.mem_append.mp z with y | y
    · obtain ⟨l, l1, l2⟩ := List.mem_map.mp y
      have := hu l l1
      left
      unfold isLt
      omega
    · exact hs d (List.mem_of_mem_drop y)
end
