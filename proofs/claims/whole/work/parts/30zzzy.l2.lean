/-! ===== a new object of each ===== -/
abbrev Rl : Type := Nat → Option (Option Nat)
abbrev Cl : Type := (Nat × Nat) × (Nat → Int32) × Rl
abbrev Dd : Type := Nat × Nat × Nat × Nat × (Nat → Int32)
/-- a reference: none, the lists' empty array, or a new cell -/
def aR (B : Nat) (D : Dd) : Option (Option Nat) → Option Nat
  | none => none
  | some none => some D.1
  | some (some k) => some (B + k)
def dC : Cl := ((0, 0), fun _ => 0, fun _ => none)
def nC (kd : Nat × Nat) : Cl := (kd, fun _ => 0, fun _ => none)
def up (r : Rl) (k : Nat) (v : Option (Option Nat)) : Rl := fun j => if j = k then v else r j
def ui (f : Nat → Int32) (k : Nat) (v : Int32) : Nat → Int32 := fun j => if j = k then v else f j
/-- the heap in which the cells cs are new -/
def gH (B : Nat) (D : Dd) (N : Nat) (cs : List Cl) : ZH := (B + cs.length, N, fun a => if a < B then (if a = D.1 then (5, 0) else (0, 0)) else (cs.getD (a - B) dC).1, fun a k => if a < B then 0 else (cs.getD (a - B) dC).2.1 k, fun _ _ => 0, fun a k => if a < B then none else aR B D ((cs.getD (a - B) dC).2.2 k), D)
theorem getD_snoc (cs : List Cl) (x : Cl) (i : Nat) : (cs ++ [x]).getD i dC = if i = cs.length then x else cs.getD i dC := by
  by_cases h : i = cs.length
  · rw [if_pos h, h, List.getD_eq_getElem?_getD, List.getElem?_append_right (Nat.le_refl _), Nat.sub_self]; rfl
  · rw [if_neg h, List.getD_eq_getElem?_getD, List.getD_eq_getElem?_getD]
    by_cases q : i < cs.length
    · rw [List.getElem?_append_left q]
    · rw [List.getElem?_eq_none (by rw [List.length_append, List.length_cons, List.length_nil]; omega), List.getElem?_eq_none (by omega)]
theorem getD_mid (cs : List Cl) (x : Cl) (r : List Cl) : (cs ++ x :: r).getD cs.length dC = x := by
  rw [List.getD_eq_getElem?_getD, List.getElem?_append_right (Nat.le_refl _), Nat.sub_self]; rfl
theorem getD_mid_ne (cs : List Cl) (x y : Cl) (r : List Cl) {i : Nat} (h : i ≠ cs.length) : (cs ++ x :: r).getD i dC = (cs ++ y :: r).getD i dC := by
  rw [List.getD_eq_getElem?_getD, List.getD_eq_getElem?_getD]
  by_cases q : i < cs.length
  · rw [List.getElem?_append_left q, List.getElem?_append_left q]
  · obtain ⟨d, hd⟩ : ∃ d, i - cs.length = d + 1 := ⟨i - cs.length - 1, by omega⟩
    rw [List.getElem?_append_right (by omega), List.getElem?_append_right (by omega), hd, List.getElem?_cons_succ, List.getElem?_cons_succ]
section
variable {B : Nat} {D : Dd} {N : Nat} {cs r : List Cl} {α : Type}
theorem g_new (kd : Nat × Nat) (n : Nat) : znew (gH B D N cs) kd n = gH B D (N + n) (cs ++ [nC kd]) := by
  have e0 : zT (gH B D N cs) = B + cs.length := rfl
  have hk : ∀ (a : Nat), ¬ a < B → (a - B = cs.length ↔ a = B + cs.length) := fun a h => by omega
  refine Prod.ext ?_ (Prod.ext rfl (Prod.ext ?_ (Prod.ext ?_ (Prod.ext ?_ (Prod.ext ?_ rfl)))))
  · show B + cs.length + 1 = B + (cs ++ [nC kd]).length
    rw [List.length_append]; rfl
  · show zw (zK (gH B D N cs)) (B + cs.length) kd = fun a => if a < B then _ else ((cs ++ [nC kd]).getD (a - B) dC).1
    funext a
    unfold zw
    by_cases h : a < B
    · rw [if_neg (by omega), if_pos h]
      show (if a < B then _ else _) = _
      rw [if_pos h]
    · rw [if_neg h, getD_snoc]
      by_cases q : a = B + cs.length
      · rw [if_pos q, if_pos ((hk a h).mpr q)]; rfl
      · rw [if_neg q, if_neg (fun z => q ((hk a h).mp z))]
        show (if a < B then _ else _) = _
        rw [if_neg h]
  · show zw (zI (gH B D N cs)) (B + cs.length) (fun _ => 0) = fun a k => if a < B then 0 else ((cs ++ [nC kd]).getD (a - B) dC).2.1 k
    funext a k
    unfold zw
    by_cases h : a < B
    · rw [if_neg (by omega), if_pos h]
      show (if a < B then _ else _) = _
      rw [if_pos h]
    · rw [if_neg h, getD_snoc]
      by_cases q : a = B + cs.length
      · rw [if_pos q, if_pos ((hk a h).mpr q)]; rfl
      · rw [if_neg q, if_neg (fun z => q ((hk a h).mp z))]
        show (if a < B then _ else _) = _
        rw [if_neg h]
  · show zw (fun _ _ => 0) (B + cs.length) (fun _ => 0) = fun _ _ => 0
    funext a k
    unfold zw
    split <;> rfl
  · show zw (zR (gH B D N cs)) (B + cs.length) (fun _ => none) = fun a k => if a < B then none else aR B D (((cs ++ [nC kd]).getD (a - B) dC).2.2 k)
    funext a k
    unfold zw
    by_cases h : a < B
    · rw [if_neg (by omega), if_pos h]
      show (if a < B then _ else _) = _
      rw [if_pos h]
    · rw [if_neg h, getD_snoc]
      by_cases q : a = B + cs.length
      · rw [if_pos q, if_pos ((hk a h).mpr q)]; rfl
      · rw [if_neg q, if_neg (fun z => q ((hk a h).mp z))]
        show (if a < B then _ else _) = _
        rw [if_neg h]
theorem g_K (x : Cl) : zK (gH B D N (cs ++ x :: r)) (B + cs.length) = x.1 := by
  show (if B + cs.length < B then _ else ((cs ++ x :: r).getD (B + cs.length - B) dC).1) = _
  rw [if_neg (by omega), Nat.add_sub_cancel_left, getD_mid]
theorem g_sR (x : Cl) (k : Nat) (v : Option (Option Nat)) : zsR (gH B D N (cs ++ x :: r)) (B + cs.length) k (aR B D v) = gH B D N (cs ++ (x.1, x.2.1, up x.2.2 k v) :: r) := by
  refine Prod.ext ?_ (Prod.ext rfl (Prod.ext ?_ (Prod.ext ?_ (Prod.ext rfl (Prod.ext ?_ rfl)))))
  · show B + (cs ++ x :: r).length = B + (cs ++ _ :: r).length
    rw [List.length_append, List.length_append]; rfl
  · funext a
    show (if a < B then _ else ((cs ++ x :: r).getD (a - B) dC).1) = (if a < B then _ else ((cs ++ _ :: r).getD (a - B) dC).1)
    by_cases h : a < B
    · rw [if_pos h, if_pos h]
    · rw [if_neg h, if_neg h]
      by_cases q : a - B = cs.length
      · rw [q, getD_mid, getD_mid]
      · rw [getD_mid_ne cs x (x.1, x.2.1, up x.2.2 k v) r q]
  · funext a j
    show (if a < B then _ else ((cs ++ x :: r).getD (a - B) dC).2.1 j) = (if a < B then _ else ((cs ++ _ :: r).getD (a - B) dC).2.1 j)
    by_cases h : a < B
    · rw [if_pos h, if_pos h]
    · rw [if_neg h, if_neg h]
      by_cases q : a - B = cs.length
      · rw [q, getD_mid, getD_mid]
      · rw [getD_mid_ne cs x (x.1, x.2.1, up x.2.2 k v) r q]
  · funext a j
    show (if a = B + cs.length ∧ j = k then aR B D v else if a < B then none else aR B D (((cs ++ x :: r).getD (a - B) dC).2.2 j)) = (if a < B then none else aR B D (((cs ++ _ :: r).getD (a - B) dC).2.2 j))
    by_cases h : a < B
    · rw [if_neg (by omega), if_pos h, if_pos h]
    · rw [if_neg h, if_neg h]
      by_cases q : a - B = cs.length
      · rw [q, getD_mid, getD_mid]
        show _ = aR B D (if j = k then v else x.2.2 j)
        by_cases z : j = k
        · rw [if_pos ⟨by omega, z⟩, if_pos z]
        · rw [if_neg (fun y => z y.2), if_neg z]
      · rw [if_neg (by omega), getD_mid_ne cs x (x.1, x.2.1, up x.2.2 k v) r q]
theorem g_sI (x : Cl) (k : Nat) (v : Int32) : zsI (gH B D N (cs ++ x :: r)) (B + cs.length) k v = gH B D N (cs ++ (x.1, ui x.2.1 k v, x.2.2) :: r) := by
  refine Prod.ext ?_ (Prod.ext rfl (Prod.ext ?_ (Prod.ext ?_ (Prod.ext rfl (Prod.ext ?_ rfl)))))
  · show B + (cs ++ x :: r).length = B + (cs ++ _ :: r).length
    rw [List.length_append, List.length_append]; rfl
  · funext a
    show (if a < B then _ else ((cs ++ x :: r).getD (a - B) dC).1) = (if a < B then _ else ((cs ++ _ :: r).getD (a - B) dC).1)
    by_cases h : a < B
    · rw [if_pos h, if_pos h]
    · rw [if_neg h, if_neg h]
      by_cases q : a - B = cs.length
      · rw [q, getD_mid, getD_mid]
      · rw [getD_mid_ne cs x (x.1, ui x.2.1 k v, x.2.2) r q]
  · funext a j
    show (if a = B + cs.length ∧ j = k then v else if a < B then 0 else ((cs ++ x :: r).getD (a - B) dC).2.1 j) = (if a < B then 0 else ((cs ++ _ :: r).getD (a - B) dC).2.1 j)
    by_cases h : a < B
    · rw [if_neg (by omega), if_pos h, if_pos h]
    · rw [if_neg h, if_neg h]
      by_cases q : a - B = cs.length
      · rw [q, getD_mid, getD_mid]
        show _ = (if j = k then v else x.2.1 j)
        by_cases z : j = k
        · rw [if_pos ⟨by omega, z⟩, if_pos z]
        · rw [if_neg (fun y => z y.2), if_neg z]
      · rw [if_neg (by omega), getD_mid_ne cs x (x.1, ui x.2.1 k v, x.2.2) r q]
  · funext a j
    show (if a < B then none else aR B D (((cs ++ x :: r).getD (a - B) dC).2.2 j)) = (if a < B then none else aR B D (((cs ++ _ :: r).getD (a - B) dC).2.2 j))
    by_cases h : a < B
    · rw [if_pos h, if_pos h]
    · rw [if_neg h, if_neg h]
      by_cases q : a - B = cs.length
      · rw [q, getD_mid, getD_mid]
      · rw [getD_mid_ne cs x (x.1, ui x.2.1 k v, x.2.2) r q]
theorem g_0 {B df mi b L : Nat} {xs : Nat → Int32} (hd : df < B) : z_h0 B df mi b L xs = gH B (df, mi, b, L, xs) 0 [] := by
  refine Prod.ext rfl (Prod.ext rfl (Prod.ext ?_ (Prod.ext ?_ (Prod.ext rfl (Prod.ext ?_ rfl)))))
  · funext a
    show (if a = df then (5, 0) else (0, 0)) = if a < B then (if a = df then (5, 0) else (0, 0)) else (0, 0)
    by_cases h : a < B
    · rw [if_pos h]
    · rw [if_neg h, if_neg (by omega)]
  · funext a k
    show (0 : Int32) = if a < B then 0 else 0
    split <;> rfl
  · funext a k
    show none = if a < B then none else none
    split <;> rfl
/-! steps -/
theorem g_nO {c n : Nat} {kk : Option Nat → ZM α} : z_b (z_nO c n) kk (gH B D N cs) = kk (some (B + cs.length)) (gH B D (N + n) (cs ++ [nC (c + 6, 0)])) := by
  rw [← g_new]; rfl
theorem g_nA {kd : Nat} {v : Int32} {kk : Option Nat → ZM α} (hv : ¬ v < 0 ∧ v.toNatClampNeg * 8 ≤ 536870912) : z_b (z_nA kd v) kk (gH B D N cs) = kk (some (B + cs.length)) (gH B D (N + v.toNatClampNeg) (cs ++ [nC (kd, v.toNatClampNeg)])) := by
  rw [← g_new]
  exact z_b_some (if_pos hv)
theorem g_pR {c k n : Nat} {x : Cl} (hx : x.1 = (c + 6, 0)) {kk : Unit → ZM α} : z_b (z_pR c k (some (B + cs.length)) (some (B + n))) kk (gH B D N (cs ++ x :: r)) = kk () (gH B D N (cs ++ (x.1, x.2.1, up x.2.2 k (some (some n))) :: r)) := by
  rw [← g_sR]
  exact z_b_some (if_pos ((g_K x).trans hx))
theorem g_pRd {c k : Nat} {x : Cl} (hx : x.1 = (c + 6, 0)) {kk : Unit → ZM α} : z_b (z_pR c k (some (B + cs.length)) (some D.1)) kk (gH B D N (cs ++ x :: r)) = kk () (gH B D N (cs ++ (x.1, x.2.1, up x.2.2 k (some none)) :: r)) := by
  rw [← g_sR]
  exact z_b_some (if_pos ((g_K x).trans hx))
theorem g_pI {c k : Nat} {v : Int32} {x : Cl} (hx : x.1 = (c + 6, 0)) {kk : Unit → ZM α} : z_b (z_pI c k (some (B + cs.length)) v) kk (gH B D N (cs ++ x :: r)) = kk () (gH B D N (cs ++ (x.1, ui x.2.1 k v, x.2.2) :: r)) := by
  rw [← g_sI]
  exact z_b_some (if_pos ((g_K x).trans hx))
theorem g_ii {a : Nat} {kk : Unit → ZM α} {h : ZH} : z_b (z_ii (some a) (z_rt ())) kk h = kk () h := rfl
theorem g_df {kk : Option Nat → ZM α} : z_b z_df kk (gH B D N cs) = kk (some D.1) (gH B D N cs) := rfl
/-- a row -/
def rowC (i : Nat) (v : Int32) : List Cl := [((11, 0), fun _ => 0, up (fun _ => none) 0 (some (some (i + 1)))), nC (1, v.toNatClampNeg)]
theorem rowC_len (i : Nat) (v : Int32) : (rowC i v).length = 2 := rfl
theorem g_row {v : Int32} {kk : Option Nat → ZM α} (hv : ¬ v ≤ 0 ∧ ¬ v < 0 ∧ v.toNatClampNeg * 8 ≤ 536870912) : z_b (z_nO 5 1) (fun x => z_b (z_ii x (p_X4_init x v)) fun _ => kk x) (gH B D N cs) = kk (some (B + cs.length)) (gH B D (N + 1 + v.toNatClampNeg) (cs ++ rowC cs.length v)) := by
  rw [g_nO]
  refine z_b_some (v := ()) ?_
  show p_X4_init (some (B + cs.length)) v (gH B D (N + 1) (cs ++ [nC (5 + 6, 0)])) = _
  rw [p_X4_init, g_ii, ite_ap, if_neg hv.1, p_X4_init_b14, g_nA hv.2, List.append_assoc, List.length_append]
  exact g_pR (x := nC (11, 0)) (r := [nC (1, v.toNatClampNeg)]) rfl
/-- a list -/
def lstC : Cl := ((6, 0), ui (fun _ => 0) 0 0, up (fun _ => none) 1 (some none))
theorem g_lst {kk : Option Nat → ZM α} : z_b (z_nO 0 3) (fun x => z_b (z_ii x (p_Jx4a65c_init_da8c8 x)) fun _ => kk x) (gH B D N cs) = kk (some (B + cs.length)) (gH B D (N + 3) (cs ++ [lstC])) := by
  rw [g_nO]
  refine z_b_some (v := ()) ?_
  have e1 : p_Jxc12de_init_da8c8 (some (B + cs.length)) (gH B D (N + 3) (cs ++ [nC (0 + 6, 0)])) = some ((), gH B D (N + 3) (cs ++ [((6, 0), ui (fun _ => 0) 0 0, fun _ => none)])) := g_pI (x := nC (6, 0)) (r := []) rfl
  show p_Jx4a65c_init_da8c8 (some (B + cs.length)) (gH B D (N + 3) (cs ++ [nC (0 + 6, 0)])) = _
  unfold p_Jx4a65c_init_da8c8
  rw [z_b_some (m := z_ii (some (B + cs.length)) (p_Jxc12de_init_da8c8 (some (B + cs.length)))) e1, g_df]
  exact g_pRd (x := ((6, 0), ui (fun _ => 0) 0 0, fun _ => none)) (r := []) rfl
end
