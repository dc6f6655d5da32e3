section
variable {B : Nat} {D : Dd} {N : Nat} {cs r : List Cl} {α : Type} {kd : Nat × Nat} {fi : Nat → Int32} {rl : Rl}
theorem h_pR {c k n : Nat} (hx : kd = (c + 6, 0)) {kk : Unit → ZM α} : z_b (z_pR c k (some (B + cs.length)) (some (B + n))) kk (gH B D N (cs ++ (kd, fi, rl) :: r)) = kk () (gH B D N (cs ++ (kd, fi, up rl k (some (some n))) :: r)) := g_pR (x := (kd, fi, rl)) hx
theorem h_pI {c k : Nat} {v : Int32} (hx : kd = (c + 6, 0)) {kk : Unit → ZM α} : z_b (z_pI c k (some (B + cs.length)) v) kk (gH B D N (cs ++ (kd, fi, rl) :: r)) = kk () (gH B D N (cs ++ (kd, ui fi k v, rl) :: r)) := g_pI (x := (kd, fi, rl)) hx
/-- a part is made and kept -/
theorem sub_R {c' n' m : Nat} {init : Option Nat → ZM Unit} {C : Nat → List Cl} (hs : ∀ (N : Nat) (cs : List Cl) (kk : Option Nat → ZM α), z_b (z_nO c' n') (fun x => z_b (z_ii x (init x)) fun _ => kk x) (gH B D N cs) = kk (some (B + cs.length)) (gH B D (N + m) (cs ++ C cs.length)))
    {c k : Nat} (hx : kd = (c + 6, 0)) {kk : Unit → ZM α} : z_b (z_nO c' n') (fun x => z_b (z_ii x (init x)) fun _ => z_b (z_pR c k (some (B + cs.length)) x) kk) (gH B D N (cs ++ (kd, fi, rl) :: r)) = kk () (gH B D (N + m) (cs ++ (kd, fi, up rl k (some (some (cs.length + (r.length + 1))))) :: (r ++ C (cs.length + (r.length + 1))))) := by
  rw [hs, List.length_append, List.length_cons, List.append_assoc, List.cons_append]
  exact h_pR hx
theorem row_R {v : Int32} (hv : ¬ v ≤ 0 ∧ ¬ v < 0 ∧ v.toNatClampNeg * 8 ≤ 536870912) {c k : Nat} (hx : kd = (c + 6, 0)) {kk : Unit → ZM α} : z_b (z_nO 5 1) (fun x => z_b (z_ii x (p_X4_init x v)) fun _ => z_b (z_pR c k (some (B + cs.length)) x) kk) (gH B D N (cs ++ (kd, fi, rl) :: r)) = kk () (gH B D (N + (1 + v.toNatClampNeg)) (cs ++ (kd, fi, up rl k (some (some (cs.length + (r.length + 1))))) :: (r ++ rowC (cs.length + (r.length + 1)) v))) :=
  sub_R (C := fun i => rowC i v) (init := fun x => p_X4_init x v) (fun N cs kk => by rw [g_row hv, Nat.add_assoc]) hx
theorem arr_R {a : Nat} {v : Int32} (hv : ¬ v < 0 ∧ v.toNatClampNeg * 8 ≤ 536870912) {c k : Nat} (hx : kd = (c + 6, 0)) {kk : Unit → ZM α} : z_b (z_nA a v) (fun x => z_b (z_pR c k (some (B + cs.length)) x) kk) (gH B D N (cs ++ (kd, fi, rl) :: r)) = kk () (gH B D (N + v.toNatClampNeg) (cs ++ (kd, fi, up rl k (some (some (cs.length + (r.length + 1))))) :: (r ++ [nC (a, v.toNatClampNeg)]))) := by
  rw [g_nA hv, List.length_append, List.length_cons, List.append_assoc, List.cons_append]
  exact h_pR hx
def rfL (i : Nat) : Nat → Nat → List Int32 → Rl → Rl
  | _, _, [], rl => rl
  | k, o, v :: vs, rl => rfL i (k + 1) (o + 2) vs (up rl k (some (some (i + (o + 1)))))
def rwsL (i : Nat) : Nat → List Int32 → List Cl
  | _, [] => []
  | o, v :: vs => rowC (i + (o + 1)) v ++ rwsL i (o + 2) vs
def objC (kd : Nat × Nat) (fi : Nat → Int32) (i : Nat) (vs : List Int32) : List Cl := (kd, fi, rfL i 0 0 vs (fun _ => none)) :: rwsL i 0 vs
def smL : List Int32 → Nat → Nat
  | [], n => n
  | v :: vs, n => smL vs (n + (1 + v.toNatClampNeg))

theorem x0_new (N : Nat) (cs : List Cl) (kk : Option Nat → ZM α) : z_b (z_nO 1 2) (fun x => z_b (z_ii x (p_X0_init x)) fun _ => kk x) (gH B D N cs) = kk (some (B + cs.length)) (gH B D (N + smL [16, 450] 2) (cs ++ objC (7, 0) (fun _ => 0) cs.length [16, 450])) := by
  rw [g_nO]
  refine z_b_some (v := ()) ?_
  show p_X0_init (some (B + cs.length)) (gH B D (N + 2) (cs ++ ((7, 0), (fun _ => 0), (fun _ => none)) :: [])) = _
  unfold p_X0_init
  rw [g_ii, row_R (v := 16) (by decide) rfl, row_R (v := 450) (by decide) rfl]
  rfl

theorem x1_new (N : Nat) (cs : List Cl) (kk : Option Nat → ZM α) : z_b (z_nO 2 3) (fun x => z_b (z_ii x (p_X1_init x)) fun _ => kk x) (gH B D N cs) = kk (some (B + cs.length)) (gH B D (N + smL [2100, 21] 3) (cs ++ objC (8, 0) (fun _ => 0) cs.length [2100, 21])) := by
  rw [g_nO]
  refine z_b_some (v := ()) ?_
  show p_X1_init (some (B + cs.length)) (gH B D (N + 3) (cs ++ ((8, 0), (fun _ => 0), (fun _ => none)) :: [])) = _
  unfold p_X1_init
  rw [g_ii, row_R (v := 2100) (by decide) rfl, row_R (v := 21) (by decide) rfl]
  rfl

theorem x3_new (N : Nat) (cs : List Cl) (kk : Option Nat → ZM α) : z_b (z_nO 4 7) (fun x => z_b (z_ii x (p_X3_init x)) fun _ => kk x) (gH B D N cs) = kk (some (B + cs.length)) (gH B D (N + smL [50, 50, 50, 50, 100, 100] 7) (cs ++ objC (10, 0) (fun _ => 0) cs.length [50, 50, 50, 50, 100, 100])) := by
  rw [g_nO]
  refine z_b_some (v := ()) ?_
  show p_X3_init (some (B + cs.length)) (gH B D (N + 7) (cs ++ ((10, 0), (fun _ => 0), (fun _ => none)) :: [])) = _
  unfold p_X3_init
  rw [g_ii, row_R (v := 50) (by decide) rfl, row_R (v := 50) (by decide) rfl, row_R (v := 50) (by decide) rfl, row_R (v := 50) (by decide) rfl, row_R (v := 100) (by decide) rfl, row_R (v := 100) (by decide) rfl]
  rfl

theorem x8_new (N : Nat) (cs : List Cl) (kk : Option Nat → ZM α) : z_b (z_nO 9 8) (fun x => z_b (z_ii x (p_X8_init x)) fun _ => kk x) (gH B D N cs) = kk (some (B + cs.length)) (gH B D (N + smL [64, 100, 10, 1111, 1558, 5] 8) (cs ++ objC (15, 0) (fun _ => 0) cs.length [64, 100, 10, 1111, 1558, 5])) := by
  rw [g_nO]
  refine z_b_some (v := ()) ?_
  show p_X8_init (some (B + cs.length)) (gH B D (N + 8) (cs ++ ((15, 0), (fun _ => 0), (fun _ => none)) :: [])) = _
  unfold p_X8_init
  rw [g_ii, row_R (v := 64) (by decide) rfl, row_R (v := 100) (by decide) rfl, row_R (v := 10) (by decide) rfl, row_R (v := 1111) (by decide) rfl, row_R (v := 1558) (by decide) rfl, row_R (v := 5) (by decide) rfl]
  rfl

theorem x9_new (N : Nat) (cs : List Cl) (kk : Option Nat → ZM α) : z_b (z_nO 10 9) (fun x => z_b (z_ii x (p_X9_init x)) fun _ => kk x) (gH B D N cs) = kk (some (B + cs.length)) (gH B D (N + smL [100, 50, 50, 50, 102, 102] 9) (cs ++ objC (16, 0) (fun _ => 0) cs.length [100, 50, 50, 50, 102, 102])) := by
  rw [g_nO]
  refine z_b_some (v := ()) ?_
  show p_X9_init (some (B + cs.length)) (gH B D (N + 9) (cs ++ ((16, 0), (fun _ => 0), (fun _ => none)) :: [])) = _
  unfold p_X9_init
  rw [g_ii, row_R (v := 100) (by decide) rfl, row_R (v := 50) (by decide) rfl, row_R (v := 50) (by decide) rfl, row_R (v := 50) (by decide) rfl, row_R (v := 102) (by decide) rfl, row_R (v := 102) (by decide) rfl]
  rfl

theorem x10_new {v : Int32} (hv : ¬ v ≤ 0 ∧ ¬ v < 0 ∧ v.toNatClampNeg * 8 ≤ 536870912) (N : Nat) (cs : List Cl) (kk : Option Nat → ZM α) : z_b (z_nO 11 4) (fun x => z_b (z_ii x (p_X10_init x v)) fun _ => kk x) (gH B D N cs) = kk (some (B + cs.length)) (gH B D (N + smL [v, v] 4) (cs ++ objC (17, 0) (ui (fun _ => 0) 2 v) cs.length [v, v])) := by
  rw [g_nO]
  refine z_b_some (v := ()) ?_
  show p_X10_init (some (B + cs.length)) v (gH B D (N + 4) (cs ++ ((17, 0), (fun _ => 0), (fun _ => none)) :: [])) = _
  unfold p_X10_init
  rw [g_ii, h_pI rfl, row_R hv rfl, row_R hv rfl, show N + smL [v, v] 4 = N + 4 + (1 + v.toNatClampNeg) + (1 + v.toNatClampNeg) by simp only [smL]; omega]
  rfl
theorem x7_new (N : Nat) (cs : List Cl) (kk : Option Nat → ZM α) : z_b (z_nO 8 4) (fun x => z_b (z_ii x (p_X7_init x)) fun _ => kk x) (gH B D N cs) = kk (some (B + cs.length)) (gH B D (N + smL [3] 4) (cs ++ objC (14, 0) (ui (fun _ => 0) 3 1) cs.length [3])) := by
  rw [g_nO]
  refine z_b_some (v := ()) ?_
  show p_X7_init (some (B + cs.length)) (gH B D (N + 4) (cs ++ ((14, 0), (fun _ => 0), (fun _ => none)) :: [])) = _
  unfold p_X7_init
  rw [g_ii, row_R (v := 3) (by decide) rfl, h_pI rfl]
  rfl
theorem lst_new (N : Nat) (cs : List Cl) (kk : Option Nat → ZM α) : z_b (z_nO 0 3) (fun x => z_b (z_ii x (p_Jx4a65c_init_da8c8 x)) fun _ => kk x) (gH B D N cs) = kk (some (B + cs.length)) (gH B D (N + 3) (cs ++ [lstC])) := g_lst
def bokC (i : Nat) (v : Int32) : List Cl := objC (17, 0) (ui (fun _ => 0) 2 v) i [v, v]
/-- the lexicon -/
def lexC (i : Nat) : List Cl := ((9, 0), (fun _ => 0), up (up (up (up (up (up (fun _ => none) 0 (some (some (i + 1)))) 1 (some (some (i + 2)))) 2 (some (some (i + 3)))) 3 (some (some (i + 8)))) 4 (some (some (i + 13)))) 5 (some (some (i + 18)))) :: ([lstC] ++ [lstC] ++ bokC (i + 3) 1548 ++ bokC (i + 8) 10 ++ bokC (i + 13) 10 ++ bokC (i + 18) 1558)
theorem x2_new (N : Nat) (cs : List Cl) (kk : Option Nat → ZM α) : z_b (z_nO 3 6) (fun x => z_b (z_ii x (p_X2_init x)) fun _ => kk x) (gH B D N cs) = kk (some (B + cs.length)) (gH B D (N + (12 + smL [1548, 1548] 4 + smL [10, 10] 4 + smL [10, 10] 4 + smL [1558, 1558] 4)) (cs ++ lexC cs.length)) := by
  rw [g_nO]
  refine z_b_some (v := ()) ?_
  show p_X2_init (some (B + cs.length)) (gH B D (N + 6) (cs ++ ((9, 0), (fun _ => 0), (fun _ => none)) :: [])) = _
  unfold p_X2_init
  rw [g_ii, sub_R (C := fun _ => [lstC]) lst_new rfl, sub_R (C := fun _ => [lstC]) lst_new rfl, sub_R (C := fun i => bokC i 1548) (x10_new (v := 1548) (by decide)) rfl, sub_R (C := fun i => bokC i 10) (x10_new (v := 10) (by decide)) rfl, sub_R (C := fun i => bokC i 10) (x10_new (v := 10) (by decide)) rfl, sub_R (C := fun i => bokC i 1558) (x10_new (v := 1558) (by decide)) rfl]
  rfl
end
