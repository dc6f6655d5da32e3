def kwI (x k g : Int32) : Int32 :=
  (if (if (x &&& 2) = 0 then (0 : Int32) else 1) = 0 ∧ (x &&& 1) = 0 then
    ((if (if (x &&& 2) = 0 then (0 : Int32) else 1) = 0 then (if (x &&& 4) = 0 then ((1 : Int32) <<< ((2 * k + g) &&& 31)) else ((1 : Int32) <<< ((2 * k + g) &&& 31)) ||| (((1 : Int32) <<< ((2 * k + g) &&& 31)) <<< (8 &&& 31))) else ((0 : Int32) ||| (((1 : Int32) <<< ((2 * k + g) &&& 31)) <<< (8 &&& 31)))) ||| 65536)
  else (if (if (x &&& 2) = 0 then (0 : Int32) else 1) = 0 then (if (x &&& 4) = 0 then ((1 : Int32) <<< ((2 * k + g) &&& 31)) else ((1 : Int32) <<< ((2 * k + g) &&& 31)) ||| (((1 : Int32) <<< ((2 * k + g) &&& 31)) <<< (8 &&& 31))) else ((0 : Int32) ||| (((1 : Int32) <<< ((2 * k + g) &&& 31)) <<< (8 &&& 31)))))
theorem kwI_all : ∀ x : Nat, x < 8 → ∀ k : Nat, k < 4 → ∀ g : Nat, g < 2 → kwI (I x) (I k) (I g) = I (kAll x k g) := by decide +kernel
theorem st_known {h : ZH} {f : FI} {a : Nat} {s : St} (si : StIs h f a s) (ho : StOk s) {k g : Nat} (hk : k ≤ 3) (hg : g ≤ 1) : p_X6_knownWith (some a) (I k) (I g) (hI h f) = some (I (kAll s.is k g), hI h f) := by
  obtain ⟨s0, s1, s2, s3, s4, s5⟩ := si
  have h7 := ho.2.2.2.2.2.2
  rw [← kwI_all s.is (by omega) k (by omega) g (by omega)]
  simp only [p_X6_knownWith, p_X6_knownWith_b22, p_X6_knownWith_b34, p_X6_knownWith_b50, p_X6_knownWith_b59, p_X11_readingOf, ite_ap, z_b, z_n, z_rt, z_vr, z_gI, z_gR, z_pI, z_pR, hI_K, hI_R, hI_I, hI_hI, hI_T, hI_N, hI_L, hI_D, sI_hI, wI_hI, if_true, s0, s5, kwI]
  by_cases c2 : (I (s.is : Int) &&& 2) = 0
  · by_cases c4 : (I (s.is : Int) &&& 4) = 0
    · by_cases c1 : (I (s.is : Int) &&& 1) = 0 <;> simp [c1, c2, c4]
    · by_cases c1 : (I (s.is : Int) &&& 1) = 0 <;> simp [c1, c2, c4]
  · by_cases c1 : (I (s.is : Int) &&& 1) = 0 <;> simp [c1, c2]
/-! ===== lists of objects ===== -/
/-- a list object at a: its array, the array's length, its objects -/
def LsAt (h : ZH) (a arr n : Nat) (os : List Nat) : Prop := zK h a = (6, 0) ∧ zR h a 1 = some arr ∧ os.length ≤ n ∧ n < 1000 ∧ (zK h arr = (3, n) ∨ (zK h arr = (5, 0) ∧ n = 0 ∧ arr = (zD h).1)) ∧ ∀ i, i < os.length → zR h arr i = some (os.getD i 0)
theorem ls_size {h : ZH} {f : FI} {a arr n : Nat} {os : List Nat} (l : LsAt h a arr n os) (hs : f a 2 = I os.length) : p_Jx4a65c_size_8abf5 (some a) (hI h f) = some (I os.length, hI h f) := by
  simp only [p_Jx4a65c_size_8abf5, ite_ap, z_b, z_n, z_rt, z_vr, z_gI, z_gR, z_pI, z_pR, hI_K, hI_R, hI_I, hI_hI, hI_T, hI_N, hI_L, hI_D, sI_hI, wI_hI, if_true, l.1, hs]
theorem ls_get {h : ZH} {f : FI} {a arr n : Nat} {os : List Nat} (l : LsAt h a arr n os) (hs : f a 2 = I os.length) {i : Nat} (hi : i < os.length) : p_Jx4a65c_get_915e3 (some a) (I i) (hI h f) = some (some (os.getD i 0), hI h f) := by
  obtain ⟨l1, l2, l3, l4, l5, l6⟩ := l
  have e1 : ¬ (I (i : Int) < 0) := by rw [I_0, I_lt (by omega) (by omega)]; omega
  have e2 : I (i : Int) < I (os.length : Int) := by rw [I_lt (by omega) (by omega)]; omega
  have e3 : (I (i : Int)).toNatClampNeg = i := by rw [I_nat (by omega)]; omega
  have k3 : zK h arr = (3, n) := l5.resolve_right (fun q => by omega)
  have e4 : ¬ n ≤ i := by omega
  simp only [p_Jx4a65c_get_915e3, p_J15_checkIndex_7cf53, p_J3_checkIndex_8e157, p_Jx4a65c_elementData_915e3, ite_ap, z_b, z_n, z_rt, z_vr, z_gI, z_gR, z_pI, z_pR, hI_K, hI_R, hI_I, hI_hI, hI_T, hI_N, hI_L, hI_D, sI_hI, wI_hI, if_true, l1, l2, hs, e1, e2, e3, e4, k3, z_aR, if_false, l6 i hi, or_self, not_false_eq_true, and_self]
/-- these two heaps differ, below the first one's top, at the cells A alone; kinds stay -/
def HF (h h' : ZH) (A : List Nat) : Prop := zT h ≤ zT h' ∧ zN h ≤ zN h' ∧ zD h' = zD h ∧ (∀ b, b < zT h → zK h' b = zK h b) ∧ ∀ b, b < zT h → b ∉ A → zI h' b = zI h b ∧ zL h' b = zL h b ∧ zR h' b = zR h b
theorem HF.refl (h : ZH) (A : List Nat) : HF h h A := ⟨Nat.le_refl _, Nat.le_refl _, rfl, fun _ _ => rfl, fun _ _ _ => ⟨rfl, rfl, rfl⟩⟩
theorem HF.trans {h h1 h2 : ZH} {A : List Nat} (a : HF h h1 A) (b : HF h1 h2 A) : HF h h2 A :=
  ⟨Nat.le_trans a.1 b.1, Nat.le_trans a.2.1 b.2.1, b.2.2.1.trans a.2.2.1, fun q hq => (b.2.2.2.1 q (Nat.lt_of_lt_of_le hq a.1)).trans (a.2.2.2.1 q hq), fun q hq hA => by
    obtain ⟨x1, x2, x3⟩ := a.2.2.2.2 q hq hA
    obtain ⟨y1, y2, y3⟩ := b.2.2.2.2 q (Nat.lt_of_lt_of_le hq a.1) hA
    exact ⟨y1.trans x1, y2.trans x2, y3.trans x3⟩⟩
theorem HF.mono {h h' : ZH} {A A' : List Nat} (a : HF h h' A) (hs : ∀ b ∈ A, b ∈ A') : HF h h' A' :=
  ⟨a.1, a.2.1, a.2.2.1, a.2.2.2.1, fun q hq hA => a.2.2.2.2 q hq (fun z => hA (hs q z))⟩
theorem HF.sI {h : ZH} {A : List Nat} {a k : Nat} {v : Int32} (ha : a ∈ A) : HF h (zsI h a k v) A :=
  ⟨Nat.le_refl _, Nat.le_refl _, rfl, fun _ _ => rfl, fun b _ hA => ⟨zu_ne (fun (q : b = a) => hA (q ▸ ha)) _ _, rfl, rfl⟩⟩
theorem HF.sR {h : ZH} {A : List Nat} {a k : Nat} {v : Option Nat} (ha : a ∈ A) : HF h (zsR h a k v) A :=
  ⟨Nat.le_refl _, Nat.le_refl _, rfl, fun _ _ => rfl, fun b _ hA => ⟨rfl, rfl, zu_ne (fun (q : b = a) => hA (q ▸ ha)) _ _⟩⟩
theorem HF.new {h : ZH} {A : List Nat} (kd : Nat × Nat) (n : Nat) : HF h (znew h kd n) A :=
  ⟨Nat.le_succ _, Nat.le_add_right _ _, rfl, fun b hb => zw_ne (Nat.ne_of_lt hb) _, fun b hb _ => ⟨zw_ne (Nat.ne_of_lt hb) _, zw_ne (Nat.ne_of_lt hb) _, zw_ne (Nat.ne_of_lt hb) _⟩⟩
/-- the last step of add: there is room -/
theorem ls_put {h : ZH} {a arr n o : Nat} {os : List Nat} (l : LsAt h a arr n os) (hk : zK h arr = (3, n)) (hr : os.length < n) (ho : zob (zK h o)) (hne : a ≠ arr) :
    ∃ h', p_Jx4a65c_add_72be8_b11 (some a) (some o) (some arr) (I os.length) h = some ((), h') ∧ LsAt h' a arr n (os ++ [o]) ∧ zI h' a 2 = I (os ++ [o]).length ∧ HF h h' [a, arr] ∧ zT h' = zT h ∧ zN h' = zN h ∧ (∀ b, b ≠ a → zI h' b = zI h b) ∧ (∀ b, b ≠ arr → zR h' b = zR h b) ∧ zL h' = zL h ∧ zK h' = zK h := by
  obtain ⟨l1, l2, l3, l4, l5, l6⟩ := l
  have e1 : ¬ (I (os.length : Int) < 0) := by rw [I_0, I_lt (by omega) (by omega)]; omega
  have e3 : (I (os.length : Int)).toNatClampNeg = os.length := by rw [I_nat (by omega)]; omega
  have e4 : ¬ n ≤ os.length := by omega
  have e5 : I (os.length : Int) + 1 = I ((os.length + 1 : Nat) : Int) := I_add _ 1
  refine ⟨zsI (zsR h arr os.length (some o)) a 2 (I ((os.length + 1 : Nat) : Int)), ?_, ?_, ?_, (HF.sR (by simp)).trans (HF.sI (by simp)), rfl, rfl, fun b hb => zu_ne hb _ _, fun b hb => zu_ne hb _ _, rfl, rfl⟩
  · have ho' : zK h o = (12, 0) ∨ zK h o = (13, 0) ∨ zK h o = (14, 0) := ho
    simp only [p_Jx4a65c_add_72be8_b11, ite_ap, z_b, z_n, z_rt, z_vr, z_gI, z_gR, z_pI, z_pR, hI_K, hI_R, hI_I, hI_hI, hI_T, hI_N, hI_L, hI_D, sI_hI, wI_hI, if_true, z_sR, hk, e1, e3, e4, e5, ho', or_self, not_false_eq_true, and_self, K_sR, l1]
  · refine ⟨l1, ?_, ?_, l4, ?_, fun i hi => ?_⟩
    · show zu (zR h) arr os.length (some o) a 1 = some arr
      rw [zu_ne hne]; exact l2
    · rw [List.length_append, List.length_singleton]; omega
    · exact Or.inl hk
    · show zu (zR h) arr os.length (some o) arr i = _
      rw [zu_cell]
      rw [List.length_append, List.length_singleton] at hi
      by_cases hc : i = os.length
      · rw [if_pos hc, hc, List.getD_eq_getElem?_getD, List.getElem?_append_right (Nat.le_refl _), Nat.sub_self]; rfl
      · rw [if_neg hc, List.getD_eq_getElem?_getD, List.getElem?_append_left (by omega), ← List.getD_eq_getElem?_getD]
        exact l6 i (by omega)
  · show zu (zI h) a 2 _ a 2 = _
    rw [zu_cell, if_pos rfl, List.length_append, List.length_singleton]
