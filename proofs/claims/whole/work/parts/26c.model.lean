def p_X12_costOf_b318 (v0 : Option Nat) (v1 : Int32) (v4 : Int32) : ZM Int32 :=
  z_b (z_gR 13 50 v0) fun x1 => z_b (z_aI x1 ((13 * v1) + v4)) fun x2 => z_rt x2
def p_X12_costOf_b312 (r9 : Option Nat → Int32 → Int64 → Int32 → Int32 → ZM Int32) (v0 : Option Nat) (v1 : Int32) (v2 : Int64) (v4 : Int32) (v5 : Int32) : ZM Int32 :=
  z_n (v5 + 1 : Int32) fun y3 => r9 v0 v1 v2 v4 y3
def p_X12_costOf_b291 (r9 : Option Nat → Int32 → Int64 → Int32 → Int32 → ZM Int32) (r18 : Option Nat → Int32 → Int64 → Int32 → Int32 → Int32 → ZM Int32) (v0 : Option Nat) (v1 : Int32) (v2 : Int64) (v4 : Int32) (v5 : Int32) (v6 : Int32) (v7 : Int32) : ZM Int32 :=
  z_b (z_gR 13 50 v0) fun x4 => z_b (z_sI x4 ((13 * v5) + v6) v7) fun _ => z_n (v6 + 1 : Int32) fun y5 => r18 v0 v1 v2 v4 v5 y5
def p_X12_costOf_b289 (r9 : Option Nat → Int32 → Int64 → Int32 → Int32 → ZM Int32) (r18 : Option Nat → Int32 → Int64 → Int32 → Int32 → Int32 → ZM Int32) (v0 : Option Nat) (v1 : Int32) (v2 : Int64) (v4 : Int32) (v5 : Int32) (v6 : Int32) (s0 : Int32) : ZM Int32 :=
  p_X12_costOf_b291 r9 r18 v0 v1 v2 v4 v5 v6 s0
def p_X12_costOf_b253 (r9 : Option Nat → Int32 → Int64 → Int32 → Int32 → ZM Int32) (r18 : Option Nat → Int32 → Int64 → Int32 → Int32 → Int32 → ZM Int32) (v0 : Option Nat) (v1 : Int32) (v2 : Int64) (v4 : Int32) (v5 : Int32) (v6 : Int32) (v7 : Int32) (s0 : Int32) : ZM Int32 :=
  if s0 = 0 then (p_X12_costOf_b289 r9 r18 v0 v1 v2 v4 v5 v6 v7)
  else (z_b (z_gR 13 50 v0) fun x6 => z_b (z_aI x6 (((13 * (v5 - 2)) + v6) - 2)) fun x7 => z_b (p_X12_least v7 (x7 + 1)) fun x8 => p_X12_costOf_b289 r9 r18 v0 v1 v2 v4 v5 v6 x8)
def p_X12_costOf_b252 (r9 : Option Nat → Int32 → Int64 → Int32 → Int32 → ZM Int32) (r18 : Option Nat → Int32 → Int64 → Int32 → Int32 → Int32 → ZM Int32) (v0 : Option Nat) (v1 : Int32) (v2 : Int64) (v4 : Int32) (v5 : Int32) (v6 : Int32) (v7 : Int32) : ZM Int32 :=
  p_X12_costOf_b253 r9 r18 v0 v1 v2 v4 v5 v6 v7 0
def p_X12_costOf_b139 (r9 : Option Nat → Int32 → Int64 → Int32 → Int32 → ZM Int32) (r18 : Option Nat → Int32 → Int64 → Int32 → Int32 → Int32 → ZM Int32) (v0 : Option Nat) (v1 : Int32) (v2 : Int64) (v4 : Int32) (v5 : Int32) (v6 : Int32) (v8 : Int32) (v9 : Int32) (s0 : Int32) : ZM Int32 :=
  z_b (z_gR 13 50 v0) fun x9 => z_b (z_aI x9 (((13 * (v5 - 1)) + v6) - 1)) fun x10 => z_b (z_gR 13 50 v0) fun x11 => z_b (z_aI x11 ((13 * (v5 - 1)) + v6)) fun x12 => z_b (z_gR 13 50 v0) fun x13 => z_b (z_aI x13 (((13 * v5) + v6) - 1)) fun x14 => z_b (p_X12_least x12 x14) fun x15 => z_b (p_X12_least (x10 + s0) (2 + x15)) fun x16 => if v5 ≤ 1 then (p_X12_costOf_b252 r9 r18 v0 v1 v2 v4 v5 v6 x16)
  else (if v6 ≤ 1 then (p_X12_costOf_b252 r9 r18 v0 v1 v2 v4 v5 v6 x16)
  else (if ¬ v8 = (Int64.toInt32 ((v2 >>> (Int32.toInt64 (4 * ((v4 - v6) + 1)) &&& 63)) &&& 15)) then (p_X12_costOf_b252 r9 r18 v0 v1 v2 v4 v5 v6 x16)
  else (z_b (z_gR 13 51 v0) fun x17 => z_b (z_aI x17 (v5 - 1)) fun x18 => if ¬ x18 = v9 then (p_X12_costOf_b252 r9 r18 v0 v1 v2 v4 v5 v6 x16)
  else (p_X12_costOf_b253 r9 r18 v0 v1 v2 v4 v5 v6 x16 1))))
def p_X12_costOf_b134 (r9 : Option Nat → Int32 → Int64 → Int32 → Int32 → ZM Int32) (r18 : Option Nat → Int32 → Int64 → Int32 → Int32 → Int32 → ZM Int32) (v0 : Option Nat) (v1 : Int32) (v2 : Int64) (v4 : Int32) (v5 : Int32) (v6 : Int32) (v8 : Int32) (v9 : Int32) : ZM Int32 :=
  p_X12_costOf_b139 r9 r18 v0 v1 v2 v4 v5 v6 v8 v9 1
def p_X12_costOf_b51 (r9 : Option Nat → Int32 → Int64 → Int32 → Int32 → ZM Int32) (r18 : Option Nat → Int32 → Int64 → Int32 → Int32 → Int32 → ZM Int32) (v0 : Option Nat) (v1 : Int32) (v2 : Int64) (v4 : Int32) (v5 : Int32) (v6 : Int32) (s0 : Int32) : ZM Int32 :=
  if v5 ≤ 0 then (p_X12_costOf_b291 r9 r18 v0 v1 v2 v4 v5 v6 s0)
  else (if v6 ≤ 0 then (p_X12_costOf_b291 r9 r18 v0 v1 v2 v4 v5 v6 s0)
  else (z_b (z_gR 13 51 v0) fun x19 => z_b (z_aI x19 v5) fun x20 => z_n ((Int64.toInt32 ((v2 >>> (Int32.toInt64 (4 * (v4 - v6)) &&& 63)) &&& 15)) : Int32) fun y21 => if ¬ x20 = y21 then (if (x20 - y21) = 1 then (p_X12_costOf_b134 r9 r18 v0 v1 v2 v4 v5 v6 x20 y21)
  else (if (y21 - x20) = 1 then (p_X12_costOf_b134 r9 r18 v0 v1 v2 v4 v5 v6 x20 y21)
  else (z_b (z_gR 13 16 v0) fun x22 => z_b (z_aI x22 ((9 * x20) + y21)) fun x23 => if ¬ x23 = 1 then (p_X12_costOf_b139 r9 r18 v0 v1 v2 v4 v5 v6 x20 y21 2)
  else (p_X12_costOf_b134 r9 r18 v0 v1 v2 v4 v5 v6 x20 y21))))
  else (p_X12_costOf_b139 r9 r18 v0 v1 v2 v4 v5 v6 x20 y21 0)))
def p_X12_costOf_c18 (r9 : Option Nat → Int32 → Int64 → Int32 → Int32 → ZM Int32) (r18 : Option Nat → Int32 → Int64 → Int32 → Int32 → Int32 → ZM Int32) (v0 : Option Nat) (v1 : Int32) (v2 : Int64) (v4 : Int32) (v5 : Int32) (v6 : Int32) : ZM Int32 :=
  if v4 < v6 then (p_X12_costOf_b312 r9 v0 v1 v2 v4 v5)
  else (if ¬ v5 = 0 then (if ¬ v6 = 0 then (p_X12_costOf_b51 r9 r18 v0 v1 v2 v4 v5 v6 99)
  else (p_X12_costOf_b51 r9 r18 v0 v1 v2 v4 v5 v6 (2 * v5)))
  else (p_X12_costOf_b51 r9 r18 v0 v1 v2 v4 v5 v6 (2 * v6)))
def p_X12_costOf_l18 (r9 : Option Nat → Int32 → Int64 → Int32 → Int32 → ZM Int32) : Nat → Option Nat → Int32 → Int64 → Int32 → Int32 → Int32 → ZM Int32
  | 0, _, _, _, _, _, _ => z_fl
  | n + 1, v0, v1, v2, v4, v5, v6 => p_X12_costOf_c18 r9 (p_X12_costOf_l18 r9 n) v0 v1 v2 v4 v5 v6
def p_X12_costOf_c9 (r9 : Option Nat → Int32 → Int64 → Int32 → Int32 → ZM Int32) (v0 : Option Nat) (v1 : Int32) (v2 : Int64) (v4 : Int32) (v5 : Int32) : ZM Int32 :=
  if v1 < v5 then (p_X12_costOf_b318 v0 v1 v4)
  else (p_X12_costOf_l18 r9 zFuel v0 v1 v2 v4 v5 0)
def p_X12_costOf_l9 : Nat → Option Nat → Int32 → Int64 → Int32 → Int32 → ZM Int32
  | 0, _, _, _, _, _ => z_fl
  | n + 1, v0, v1, v2, v4, v5 => p_X12_costOf_c9 (p_X12_costOf_l9 n) v0 v1 v2 v4 v5
def p_X12_costOf (v0 : Option Nat) (v1 : Int32) (v2 : Int64) : ZM Int32 :=
  z_b (p_X12_lengthOf v2) fun x24 => p_X12_costOf_l9 zFuel v0 v1 v2 x24 0
abbrev M_X12_costOf (l : Launch) : ZMe := (l, "SpellScribeModel", cX12_costOf, 12, 1, 24, (some .int), "costOf", [])
set_option maxRecDepth 20000 in
theorem sim_X12_costOf_b318 (l : Launch) (v0 : Option Nat) (v1 : Int32) (v4 : Int32) : Sim (M_X12_costOf l) (zFin zcI) 318 [(0, .inr (.inr v0)), (1, .inl v1), (4, .inl v4)] [] (p_X12_costOf_b318 v0 v1 v4) := by
  unfold p_X12_costOf_b318
  refine s_aloadn (j := 0) dX12_costOf_318 rfl ?_
  refine s_getR (k := 50) cls_13 (by decide) rfl dX12_costOf_319 w_1398 rfl (fun x1 => ?_)
  refine s_bipush (v := 13) dX12_costOf_322 (by decide) ?_
  refine s_iloadn (j := 1) dX12_costOf_324 rfl ?_
  refine s_imul dX12_costOf_325 ?_
  refine s_iload (j := 2) dX12_costOf_326 rfl ?_
  refine s_iadd dX12_costOf_328 ?_
  refine s_iald dX12_costOf_329 (fun x2 => ?_)
  exact s_iret dX12_costOf_330 rfl
set_option maxRecDepth 20000 in
theorem sim_X12_costOf_b312 (l : Launch) (r9 : Option Nat → Int32 → Int64 → Int32 → Int32 → ZM Int32) (hr9 : ∀ (v0 : Option Nat) (v1 : Int32) (v2 : Int64) (v4 : Int32) (v5 : Int32), Sim (M_X12_costOf l) (zFin zcI) 9 [(0, .inr (.inr v0)), (1, .inl v1), (2, .inr (.inl v2)), (4, .inl v4), (5, .inl v5)] [] (r9 v0 v1 v2 v4 v5)) (v0 : Option Nat) (v1 : Int32) (v2 : Int64) (v4 : Int32) (v5 : Int32) : Sim (M_X12_costOf l) (zFin zcI) 312 [(0, .inr (.inr v0)), (1, .inl v1), (2, .inr (.inl v2)), (4, .inl v4), (5, .inl v5)] [] (p_X12_costOf_b312 r9 v0 v1 v2 v4 v5) := by
  unfold p_X12_costOf_b312
  refine s_n0 (fun y3 hy3 => ?_)
  refine s_iinc (j := 4) (v := y3) (d := 1) (lv' := [(5, .inl y3), (0, .inr (.inr v0)), (1, .inl v1), (2, .inr (.inl v2)), (4, .inl v4)]) dX12_costOf_312 rfl (by decide) hy3 (Nat.le_of_ble_eq_true rfl) rfl ?_
  refine s_goto (tgt := 9) dX12_costOf_315 (by decide) ?_
  exact Sim.sub [1, 2, 3, 4, 0] rfl (hr9 v0 v1 v2 v4 y3)
set_option maxRecDepth 20000 in
theorem sim_X12_costOf_b291 (l : Launch) (r9 : Option Nat → Int32 → Int64 → Int32 → Int32 → ZM Int32) (r18 : Option Nat → Int32 → Int64 → Int32 → Int32 → Int32 → ZM Int32) (hr9 : ∀ (v0 : Option Nat) (v1 : Int32) (v2 : Int64) (v4 : Int32) (v5 : Int32), Sim (M_X12_costOf l) (zFin zcI) 9 [(0, .inr (.inr v0)), (1, .inl v1), (2, .inr (.inl v2)), (4, .inl v4), (5, .inl v5)] [] (r9 v0 v1 v2 v4 v5)) (hr18 : ∀ (v0 : Option Nat) (v1 : Int32) (v2 : Int64) (v4 : Int32) (v5 : Int32) (v6 : Int32), Sim (M_X12_costOf l) (zFin zcI) 18 [(0, .inr (.inr v0)), (1, .inl v1), (2, .inr (.inl v2)), (4, .inl v4), (5, .inl v5), (6, .inl v6)] [] (r18 v0 v1 v2 v4 v5 v6)) (v0 : Option Nat) (v1 : Int32) (v2 : Int64) (v4 : Int32) (v5 : Int32) (v6 : Int32) (v7 : Int32) : Sim (M_X12_costOf l) (zFin zcI) 291 [(0, .inr (.inr v0)), (1, .inl v1), (2, .inr (.inl v2)), (4, .inl v4), (5, .inl v5), (6, .inl v6), (7, .inl v7)] [] (p_X12_costOf_b291 r9 r18 v0 v1 v2 v4 v5 v6 v7) := by
  unfold p_X12_costOf_b291
  refine s_aloadn (j := 0) dX12_costOf_291 rfl ?_
  refine s_getR (k := 50) cls_13 (by decide) rfl dX12_costOf_292 w_1398 rfl (fun x4 => ?_)
  refine s_bipush (v := 13) dX12_costOf_295 (by decide) ?_
  refine s_iload (j := 4) dX12_costOf_297 rfl ?_
  refine s_imul dX12_costOf_299 ?_
  refine s_iload (j := 5) dX12_costOf_300 rfl ?_
  refine s_iadd dX12_costOf_302 ?_
  refine s_iload (j := 6) dX12_costOf_303 rfl ?_
  refine s_iast dX12_costOf_305 ?_
  refine s_n0 (fun y5 hy5 => ?_)
  refine s_iinc (j := 5) (v := y5) (d := 1) (lv' := [(6, .inl y5), (0, .inr (.inr v0)), (1, .inl v1), (2, .inr (.inl v2)), (4, .inl v4), (5, .inl v5), (7, .inl v7)]) dX12_costOf_306 rfl (by decide) hy5 (Nat.le_of_ble_eq_true rfl) rfl ?_
  refine s_goto (tgt := 18) dX12_costOf_309 (by decide) ?_
  exact Sim.sub [1, 2, 3, 4, 5, 0] rfl (hr18 v0 v1 v2 v4 v5 y5)
set_option maxRecDepth 20000 in
theorem sim_X12_costOf_b289 (l : Launch) (r9 : Option Nat → Int32 → Int64 → Int32 → Int32 → ZM Int32) (r18 : Option Nat → Int32 → Int64 → Int32 → Int32 → Int32 → ZM Int32) (hr9 : ∀ (v0 : Option Nat) (v1 : Int32) (v2 : Int64) (v4 : Int32) (v5 : Int32), Sim (M_X12_costOf l) (zFin zcI) 9 [(0, .inr (.inr v0)), (1, .inl v1), (2, .inr (.inl v2)), (4, .inl v4), (5, .inl v5)] [] (r9 v0 v1 v2 v4 v5)) (hr18 : ∀ (v0 : Option Nat) (v1 : Int32) (v2 : Int64) (v4 : Int32) (v5 : Int32) (v6 : Int32), Sim (M_X12_costOf l) (zFin zcI) 18 [(0, .inr (.inr v0)), (1, .inl v1), (2, .inr (.inl v2)), (4, .inl v4), (5, .inl v5), (6, .inl v6)] [] (r18 v0 v1 v2 v4 v5 v6)) (v0 : Option Nat) (v1 : Int32) (v2 : Int64) (v4 : Int32) (v5 : Int32) (v6 : Int32) (s0 : Int32) : Sim (M_X12_costOf l) (zFin zcI) 289 [(0, .inr (.inr v0)), (1, .inl v1), (2, .inr (.inl v2)), (4, .inl v4), (5, .inl v5), (6, .inl v6)] [.inl s0] (p_X12_costOf_b289 r9 r18 v0 v1 v2 v4 v5 v6 s0) := by
  unfold p_X12_costOf_b289
  refine s_istore (lv' := [(7, .inl s0), (0, .inr (.inr v0)), (1, .inl v1), (2, .inr (.inl v2)), (4, .inl v4), (5, .inl v5), (6, .inl v6)]) dX12_costOf_289 (Nat.le_of_ble_eq_true rfl) rfl ?_
  exact Sim.sub [1, 2, 3, 4, 5, 6, 0] rfl (sim_X12_costOf_b291 l r9 r18 hr9 hr18 v0 v1 v2 v4 v5 v6 s0)
set_option maxRecDepth 20000 in
theorem sim_X12_costOf_b253 (l : Launch) (r9 : Option Nat → Int32 → Int64 → Int32 → Int32 → ZM Int32) (r18 : Option Nat → Int32 → Int64 → Int32 → Int32 → Int32 → ZM Int32) (hr9 : ∀ (v0 : Option Nat) (v1 : Int32) (v2 : Int64) (v4 : Int32) (v5 : Int32), Sim (M_X12_costOf l) (zFin zcI) 9 [(0, .inr (.inr v0)), (1, .inl v1), (2, .inr (.inl v2)), (4, .inl v4), (5, .inl v5)] [] (r9 v0 v1 v2 v4 v5)) (hr18 : ∀ (v0 : Option Nat) (v1 : Int32) (v2 : Int64) (v4 : Int32) (v5 : Int32) (v6 : Int32), Sim (M_X12_costOf l) (zFin zcI) 18 [(0, .inr (.inr v0)), (1, .inl v1), (2, .inr (.inl v2)), (4, .inl v4), (5, .inl v5), (6, .inl v6)] [] (r18 v0 v1 v2 v4 v5 v6)) (v0 : Option Nat) (v1 : Int32) (v2 : Int64) (v4 : Int32) (v5 : Int32) (v6 : Int32) (v7 : Int32) (s0 : Int32) : Sim (M_X12_costOf l) (zFin zcI) 253 [(0, .inr (.inr v0)), (1, .inl v1), (2, .inr (.inl v2)), (4, .inl v4), (5, .inl v5), (6, .inl v6), (7, .inl v7)] [.inl s0] (p_X12_costOf_b253 r9 r18 v0 v1 v2 v4 v5 v6 v7 s0) := by
  unfold p_X12_costOf_b253
  refine s_istore (lv' := [(11, .inl s0), (0, .inr (.inr v0)), (1, .inl v1), (2, .inr (.inl v2)), (4, .inl v4), (5, .inl v5), (6, .inl v6), (7, .inl v7)]) dX12_costOf_253 (Nat.le_of_ble_eq_true rfl) rfl ?_
  refine s_iload (j := 0) dX12_costOf_255 rfl ?_
  refine s_if_eq (tgt := 287) dX12_costOf_257 (by decide) ?_ ?_
  · refine s_iload (j := 7) dX12_costOf_287 rfl ?_
    exact Sim.sub [1, 2, 3, 4, 5, 6] rfl (sim_X12_costOf_b289 l r9 r18 hr9 hr18 v0 v1 v2 v4 v5 v6 v7)
  · refine s_iload (j := 7) dX12_costOf_260 rfl ?_
    refine s_aloadn (j := 1) dX12_costOf_262 rfl ?_
    refine s_getR (k := 50) cls_13 (by decide) rfl dX12_costOf_263 w_1398 rfl (fun x6 => ?_)
    refine s_bipush (v := 13) dX12_costOf_266 (by decide) ?_
    refine s_iload (j := 5) dX12_costOf_268 rfl ?_
    refine s_iconst (v := 2) dX12_costOf_270 (by decide) ?_
    refine s_isub dX12_costOf_271 ?_
    refine s_imul dX12_costOf_272 ?_
    refine s_iload (j := 6) dX12_costOf_273 rfl ?_
    refine s_iadd dX12_costOf_275 ?_
    refine s_iconst (v := 2) dX12_costOf_276 (by decide) ?_
    refine s_isub dX12_costOf_277 ?_
    refine s_iald dX12_costOf_278 (fun x7 => ?_)
    refine s_iconst (v := 1) dX12_costOf_279 (by decide) ?_
    refine s_iadd dX12_costOf_280 ?_
    refine s_cSI (rest := []) (met_X12_least l v7 (x7 + 1)) mth_X12_least rfl dX12_costOf_281 w_1744 w_1745 ⟨Nat.le_of_ble_eq_true rfl, Nat.le_of_ble_eq_true rfl⟩ (Nat.le_of_ble_eq_true rfl) rfl (fun x8 => ?_)
    refine s_goto (tgt := 289) dX12_costOf_284 (by decide) ?_
    exact Sim.sub [1, 2, 3, 4, 5, 6] rfl (sim_X12_costOf_b289 l r9 r18 hr9 hr18 v0 v1 v2 v4 v5 v6 x8)
set_option maxRecDepth 20000 in
theorem sim_X12_costOf_b252 (l : Launch) (r9 : Option Nat → Int32 → Int64 → Int32 → Int32 → ZM Int32) (r18 : Option Nat → Int32 → Int64 → Int32 → Int32 → Int32 → ZM Int32) (hr9 : ∀ (v0 : Option Nat) (v1 : Int32) (v2 : Int64) (v4 : Int32) (v5 : Int32), Sim (M_X12_costOf l) (zFin zcI) 9 [(0, .inr (.inr v0)), (1, .inl v1), (2, .inr (.inl v2)), (4, .inl v4), (5, .inl v5)] [] (r9 v0 v1 v2 v4 v5)) (hr18 : ∀ (v0 : Option Nat) (v1 : Int32) (v2 : Int64) (v4 : Int32) (v5 : Int32) (v6 : Int32), Sim (M_X12_costOf l) (zFin zcI) 18 [(0, .inr (.inr v0)), (1, .inl v1), (2, .inr (.inl v2)), (4, .inl v4), (5, .inl v5), (6, .inl v6)] [] (r18 v0 v1 v2 v4 v5 v6)) (v0 : Option Nat) (v1 : Int32) (v2 : Int64) (v4 : Int32) (v5 : Int32) (v6 : Int32) (v7 : Int32) : Sim (M_X12_costOf l) (zFin zcI) 252 [(0, .inr (.inr v0)), (1, .inl v1), (2, .inr (.inl v2)), (4, .inl v4), (5, .inl v5), (6, .inl v6), (7, .inl v7)] [] (p_X12_costOf_b252 r9 r18 v0 v1 v2 v4 v5 v6 v7) := by
  unfold p_X12_costOf_b252
  refine s_iconst (v := 0) dX12_costOf_252 (by decide) ?_
  exact Sim.sub [0, 1, 2, 3, 4, 5, 6] rfl (sim_X12_costOf_b253 l r9 r18 hr9 hr18 v0 v1 v2 v4 v5 v6 v7 0)
set_option maxRecDepth 20000 in
theorem sim_X12_costOf_b139 (l : Launch) (r9 : Option Nat → Int32 → Int64 → Int32 → Int32 → ZM Int32) (r18 : Option Nat → Int32 → Int64 → Int32 → Int32 → Int32 → ZM Int32) (hr9 : ∀ (v0 : Option Nat) (v1 : Int32) (v2 : Int64) (v4 : Int32) (v5 : Int32), Sim (M_X12_costOf l) (zFin zcI) 9 [(0, .inr (.inr v0)), (1, .inl v1), (2, .inr (.inl v2)), (4, .inl v4), (5, .inl v5)] [] (r9 v0 v1 v2 v4 v5)) (hr18 : ∀ (v0 : Option Nat) (v1 : Int32) (v2 : Int64) (v4 : Int32) (v5 : Int32) (v6 : Int32), Sim (M_X12_costOf l) (zFin zcI) 18 [(0, .inr (.inr v0)), (1, .inl v1), (2, .inr (.inl v2)), (4, .inl v4), (5, .inl v5), (6, .inl v6)] [] (r18 v0 v1 v2 v4 v5 v6)) (v0 : Option Nat) (v1 : Int32) (v2 : Int64) (v4 : Int32) (v5 : Int32) (v6 : Int32) (v8 : Int32) (v9 : Int32) (s0 : Int32) : Sim (M_X12_costOf l) (zFin zcI) 139 [(0, .inr (.inr v0)), (1, .inl v1), (2, .inr (.inl v2)), (4, .inl v4), (5, .inl v5), (6, .inl v6), (8, .inl v8), (9, .inl v9)] [.inl s0] (p_X12_costOf_b139 r9 r18 v0 v1 v2 v4 v5 v6 v8 v9 s0) := by
  unfold p_X12_costOf_b139
  refine s_istore (lv' := [(10, .inl s0), (0, .inr (.inr v0)), (1, .inl v1), (2, .inr (.inl v2)), (4, .inl v4), (5, .inl v5), (6, .inl v6), (8, .inl v8), (9, .inl v9)]) dX12_costOf_139 (Nat.le_of_ble_eq_true rfl) rfl ?_
  refine s_aloadn (j := 1) dX12_costOf_141 rfl ?_
  refine s_getR (k := 50) cls_13 (by decide) rfl dX12_costOf_142 w_1398 rfl (fun x9 => ?_)
  refine s_bipush (v := 13) dX12_costOf_145 (by decide) ?_
  refine s_iload (j := 5) dX12_costOf_147 rfl ?_
  refine s_iconst (v := 1) dX12_costOf_149 (by decide) ?_
  refine s_isub dX12_costOf_150 ?_
  refine s_imul dX12_costOf_151 ?_
  refine s_iload (j := 6) dX12_costOf_152 rfl ?_
  refine s_iadd dX12_costOf_154 ?_
  refine s_iconst (v := 1) dX12_costOf_155 (by decide) ?_
  refine s_isub dX12_costOf_156 ?_
  refine s_iald dX12_costOf_157 (fun x10 => ?_)
  refine s_iload (j := 0) dX12_costOf_158 rfl ?_
  refine s_iadd dX12_costOf_160 ?_
  refine s_iconst (v := 2) dX12_costOf_161 (by decide) ?_
  refine s_aloadn (j := 1) dX12_costOf_162 rfl ?_
  refine s_getR (k := 50) cls_13 (by decide) rfl dX12_costOf_163 w_1398 rfl (fun x11 => ?_)
  refine s_bipush (v := 13) dX12_costOf_166 (by decide) ?_
  refine s_iload (j := 5) dX12_costOf_168 rfl ?_
  refine s_iconst (v := 1) dX12_costOf_170 (by decide) ?_
  refine s_isub dX12_costOf_171 ?_
  refine s_imul dX12_costOf_172 ?_
  refine s_iload (j := 6) dX12_costOf_173 rfl ?_
  refine s_iadd dX12_costOf_175 ?_
  refine s_iald dX12_costOf_176 (fun x12 => ?_)
  refine s_aloadn (j := 1) dX12_costOf_177 rfl ?_
  refine s_getR (k := 50) cls_13 (by decide) rfl dX12_costOf_178 w_1398 rfl (fun x13 => ?_)
  refine s_bipush (v := 13) dX12_costOf_181 (by decide) ?_
  refine s_iload (j := 5) dX12_costOf_183 rfl ?_
  refine s_imul dX12_costOf_185 ?_
  refine s_iload (j := 6) dX12_costOf_186 rfl ?_
  refine s_iadd dX12_costOf_188 ?_
  refine s_iconst (v := 1) dX12_costOf_189 (by decide) ?_
  refine s_isub dX12_costOf_190 ?_
  refine s_iald dX12_costOf_191 (fun x14 => ?_)
  refine s_cSI (rest := [.inl 2, .inl (x10 + s0)]) (met_X12_least l x12 x14) mth_X12_least rfl dX12_costOf_192 w_1744 w_1745 ⟨Nat.le_of_ble_eq_true rfl, Nat.le_of_ble_eq_true rfl⟩ (Nat.le_of_ble_eq_true rfl) rfl (fun x15 => ?_)
  refine s_iadd dX12_costOf_195 ?_
  refine s_cSI (rest := []) (met_X12_least l (x10 + s0) (2 + x15)) mth_X12_least rfl dX12_costOf_196 w_1744 w_1745 ⟨Nat.le_of_ble_eq_true rfl, Nat.le_of_ble_eq_true rfl⟩ (Nat.le_of_ble_eq_true rfl) rfl (fun x16 => ?_)
  refine s_istore (lv' := [(7, .inl x16), (10, .inl s0), (0, .inr (.inr v0)), (1, .inl v1), (2, .inr (.inl v2)), (4, .inl v4), (5, .inl v5), (6, .inl v6), (8, .inl v8), (9, .inl v9)]) dX12_costOf_199 (Nat.le_of_ble_eq_true rfl) rfl ?_
  refine s_iload (j := 6) dX12_costOf_201 rfl ?_
  refine s_iconst (v := 1) dX12_costOf_203 (by decide) ?_
  refine s_icmp_le (tgt := 252) dX12_costOf_204 (by decide) ?_ ?_
  · exact Sim.sub [2, 3, 4, 5, 6, 7, 0] rfl (sim_X12_costOf_b252 l r9 r18 hr9 hr18 v0 v1 v2 v4 v5 v6 x16)
  · refine s_iload (j := 7) dX12_costOf_207 rfl ?_
    refine s_iconst (v := 1) dX12_costOf_209 (by decide) ?_
    refine s_icmp_le (tgt := 252) dX12_costOf_210 (by decide) ?_ ?_
    · exact Sim.sub [2, 3, 4, 5, 6, 7, 0] rfl (sim_X12_costOf_b252 l r9 r18 hr9 hr18 v0 v1 v2 v4 v5 v6 x16)
    · refine s_iload (j := 8) dX12_costOf_213 rfl ?_
      refine s_lloadn (j := 4) dX12_costOf_215 rfl ?_
      refine s_iconst (v := 4) dX12_costOf_216 (by decide) ?_
      refine s_iload (j := 5) dX12_costOf_217 rfl ?_
      refine s_iload (j := 7) dX12_costOf_219 rfl ?_
      refine s_isub dX12_costOf_221 ?_
      refine s_iconst (v := 1) dX12_costOf_222 (by decide) ?_
      refine s_iadd dX12_costOf_223 ?_
      refine s_imul dX12_costOf_224 ?_
      refine s_lshr dX12_costOf_225 ?_
      refine s_ldc2 (v := 15) dX12_costOf_226 w_1618 ?_
      refine s_land dX12_costOf_229 ?_
      refine s_l2i dX12_costOf_230 ?_
      refine s_icmp_ne (tgt := 252) dX12_costOf_231 (by decide) ?_ ?_
      · exact Sim.sub [2, 3, 4, 5, 6, 7, 0] rfl (sim_X12_costOf_b252 l r9 r18 hr9 hr18 v0 v1 v2 v4 v5 v6 x16)
      · refine s_aloadn (j := 2) dX12_costOf_234 rfl ?_
        refine s_getR (k := 51) cls_13 (by decide) rfl dX12_costOf_235 w_1399 rfl (fun x17 => ?_)
        refine s_iload (j := 6) dX12_costOf_238 rfl ?_
        refine s_iconst (v := 1) dX12_costOf_240 (by decide) ?_
        refine s_isub dX12_costOf_241 ?_
        refine s_iald dX12_costOf_242 (fun x18 => ?_)
        refine s_iload (j := 9) dX12_costOf_243 rfl ?_
        refine s_icmp_ne (tgt := 252) dX12_costOf_245 (by decide) ?_ ?_
        · exact Sim.sub [2, 3, 4, 5, 6, 7, 0] rfl (sim_X12_costOf_b252 l r9 r18 hr9 hr18 v0 v1 v2 v4 v5 v6 x16)
        · refine s_iconst (v := 1) dX12_costOf_248 (by decide) ?_
          refine s_goto (tgt := 253) dX12_costOf_249 (by decide) ?_
          exact Sim.sub [2, 3, 4, 5, 6, 7, 0] rfl (sim_X12_costOf_b253 l r9 r18 hr9 hr18 v0 v1 v2 v4 v5 v6 x16 1)
set_option maxRecDepth 20000 in
theorem sim_X12_costOf_b134 (l : Launch) (r9 : Option Nat → Int32 → Int64 → Int32 → Int32 → ZM Int32) (r18 : Option Nat → Int32 → Int64 → Int32 → Int32 → Int32 → ZM Int32) (hr9 : ∀ (v0 : Option Nat) (v1 : Int32) (v2 : Int64) (v4 : Int32) (v5 : Int32), Sim (M_X12_costOf l) (zFin zcI) 9 [(0, .inr (.inr v0)), (1, .inl v1), (2, .inr (.inl v2)), (4, .inl v4), (5, .inl v5)] [] (r9 v0 v1 v2 v4 v5)) (hr18 : ∀ (v0 : Option Nat) (v1 : Int32) (v2 : Int64) (v4 : Int32) (v5 : Int32) (v6 : Int32), Sim (M_X12_costOf l) (zFin zcI) 18 [(0, .inr (.inr v0)), (1, .inl v1), (2, .inr (.inl v2)), (4, .inl v4), (5, .inl v5), (6, .inl v6)] [] (r18 v0 v1 v2 v4 v5 v6)) (v0 : Option Nat) (v1 : Int32) (v2 : Int64) (v4 : Int32) (v5 : Int32) (v6 : Int32) (v8 : Int32) (v9 : Int32) : Sim (M_X12_costOf l) (zFin zcI) 134 [(0, .inr (.inr v0)), (1, .inl v1), (2, .inr (.inl v2)), (4, .inl v4), (5, .inl v5), (6, .inl v6), (8, .inl v8), (9, .inl v9)] [] (p_X12_costOf_b134 r9 r18 v0 v1 v2 v4 v5 v6 v8 v9) := by
  unfold p_X12_costOf_b134
  refine s_iconst (v := 1) dX12_costOf_134 (by decide) ?_
  refine s_goto (tgt := 139) dX12_costOf_135 (by decide) ?_
  exact Sim.sub [0, 1, 2, 3, 4, 5, 6, 7] rfl (sim_X12_costOf_b139 l r9 r18 hr9 hr18 v0 v1 v2 v4 v5 v6 v8 v9 1)
set_option maxRecDepth 20000 in
theorem sim_X12_costOf_b51 (l : Launch) (r9 : Option Nat → Int32 → Int64 → Int32 → Int32 → ZM Int32) (r18 : Option Nat → Int32 → Int64 → Int32 → Int32 → Int32 → ZM Int32) (hr9 : ∀ (v0 : Option Nat) (v1 : Int32) (v2 : Int64) (v4 : Int32) (v5 : Int32), Sim (M_X12_costOf l) (zFin zcI) 9 [(0, .inr (.inr v0)), (1, .inl v1), (2, .inr (.inl v2)), (4, .inl v4), (5, .inl v5)] [] (r9 v0 v1 v2 v4 v5)) (hr18 : ∀ (v0 : Option Nat) (v1 : Int32) (v2 : Int64) (v4 : Int32) (v5 : Int32) (v6 : Int32), Sim (M_X12_costOf l) (zFin zcI) 18 [(0, .inr (.inr v0)), (1, .inl v1), (2, .inr (.inl v2)), (4, .inl v4), (5, .inl v5), (6, .inl v6)] [] (r18 v0 v1 v2 v4 v5 v6)) (v0 : Option Nat) (v1 : Int32) (v2 : Int64) (v4 : Int32) (v5 : Int32) (v6 : Int32) (s0 : Int32) : Sim (M_X12_costOf l) (zFin zcI) 51 [(0, .inr (.inr v0)), (1, .inl v1), (2, .inr (.inl v2)), (4, .inl v4), (5, .inl v5), (6, .inl v6)] [.inl s0] (p_X12_costOf_b51 r9 r18 v0 v1 v2 v4 v5 v6 s0) := by
  unfold p_X12_costOf_b51
  refine s_istore (lv' := [(7, .inl s0), (0, .inr (.inr v0)), (1, .inl v1), (2, .inr (.inl v2)), (4, .inl v4), (5, .inl v5), (6, .inl v6)]) dX12_costOf_51 (Nat.le_of_ble_eq_true rfl) rfl ?_
  refine s_iload (j := 5) dX12_costOf_53 rfl ?_
  refine s_if_le (tgt := 291) dX12_costOf_55 (by decide) ?_ ?_
  · exact Sim.sub [1, 2, 3, 4, 5, 6, 0] rfl (sim_X12_costOf_b291 l r9 r18 hr9 hr18 v0 v1 v2 v4 v5 v6 s0)
  · refine s_iload (j := 6) dX12_costOf_58 rfl ?_
    refine s_if_le (tgt := 291) dX12_costOf_60 (by decide) ?_ ?_
    · exact Sim.sub [1, 2, 3, 4, 5, 6, 0] rfl (sim_X12_costOf_b291 l r9 r18 hr9 hr18 v0 v1 v2 v4 v5 v6 s0)
    · refine s_aloadn (j := 1) dX12_costOf_63 rfl ?_
      refine s_getR (k := 51) cls_13 (by decide) rfl dX12_costOf_64 w_1399 rfl (fun x19 => ?_)
      refine s_iload (j := 5) dX12_costOf_67 rfl ?_
      refine s_iald dX12_costOf_69 (fun x20 => ?_)
      refine s_istore (lv' := [(8, .inl x20), (7, .inl s0), (0, .inr (.inr v0)), (1, .inl v1), (2, .inr (.inl v2)), (4, .inl v4), (5, .inl v5), (6, .inl v6)]) dX12_costOf_70 (Nat.le_of_ble_eq_true rfl) rfl ?_
      refine s_lloadn (j := 4) dX12_costOf_72 rfl ?_
      refine s_iconst (v := 4) dX12_costOf_73 (by decide) ?_
      refine s_iload (j := 5) dX12_costOf_74 rfl ?_
      refine s_iload (j := 7) dX12_costOf_76 rfl ?_
      refine s_isub dX12_costOf_78 ?_
      refine s_imul dX12_costOf_79 ?_
      refine s_lshr dX12_costOf_80 ?_
      refine s_ldc2 (v := 15) dX12_costOf_81 w_1618 ?_
      refine s_land dX12_costOf_84 ?_
      refine s_l2i dX12_costOf_85 ?_
      refine s_nI (fun y21 => ?_)
      refine s_istore (lv' := [(9, .inl y21), (8, .inl x20), (7, .inl s0), (0, .inr (.inr v0)), (1, .inl v1), (2, .inr (.inl v2)), (4, .inl v4), (5, .inl v5), (6, .inl v6)]) dX12_costOf_86 (Nat.le_of_ble_eq_true rfl) rfl ?_
      refine s_iload (j := 1) dX12_costOf_88 rfl ?_
      refine s_iload (j := 0) dX12_costOf_90 rfl ?_
      refine s_icmp_ne (tgt := 99) dX12_costOf_92 (by decide) ?_ ?_
      · refine s_iload (j := 1) dX12_costOf_99 rfl ?_
        refine s_iload (j := 0) dX12_costOf_101 rfl ?_
        refine s_isub dX12_costOf_103 ?_
        refine s_iconst (v := 1) dX12_costOf_104 (by decide) ?_
        refine s_icmp_eq (tgt := 134) dX12_costOf_105 (by decide) ?_ ?_
        · exact Sim.sub [3, 4, 5, 6, 7, 8, 1, 0] rfl (sim_X12_costOf_b134 l r9 r18 hr9 hr18 v0 v1 v2 v4 v5 v6 x20 y21)
        · refine s_iload (j := 0) dX12_costOf_108 rfl ?_
          refine s_iload (j := 1) dX12_costOf_110 rfl ?_
          refine s_isub dX12_costOf_112 ?_
          refine s_iconst (v := 1) dX12_costOf_113 (by decide) ?_
          refine s_icmp_eq (tgt := 134) dX12_costOf_114 (by decide) ?_ ?_
          · exact Sim.sub [3, 4, 5, 6, 7, 8, 1, 0] rfl (sim_X12_costOf_b134 l r9 r18 hr9 hr18 v0 v1 v2 v4 v5 v6 x20 y21)
          · refine s_aloadn (j := 3) dX12_costOf_117 rfl ?_
            refine s_getR (k := 16) cls_13 (by decide) rfl dX12_costOf_118 w_1364 rfl (fun x22 => ?_)
            refine s_bipush (v := 9) dX12_costOf_121 (by decide) ?_
            refine s_iload (j := 1) dX12_costOf_123 rfl ?_
            refine s_imul dX12_costOf_125 ?_
            refine s_iload (j := 0) dX12_costOf_126 rfl ?_
            refine s_iadd dX12_costOf_128 ?_
            refine s_iald dX12_costOf_129 (fun x23 => ?_)
            refine s_iconst (v := 1) dX12_costOf_130 (by decide) ?_
            refine s_icmp_ne (tgt := 138) dX12_costOf_131 (by decide) ?_ ?_
            · refine s_iconst (v := 2) dX12_costOf_138 (by decide) ?_
              exact Sim.sub [3, 4, 5, 6, 7, 8, 1, 0] rfl (sim_X12_costOf_b139 l r9 r18 hr9 hr18 v0 v1 v2 v4 v5 v6 x20 y21 2)
            · exact Sim.sub [3, 4, 5, 6, 7, 8, 1, 0] rfl (sim_X12_costOf_b134 l r9 r18 hr9 hr18 v0 v1 v2 v4 v5 v6 x20 y21)
      · refine s_iconst (v := 0) dX12_costOf_95 (by decide) ?_
        refine s_goto (tgt := 139) dX12_costOf_96 (by decide) ?_
        exact Sim.sub [3, 4, 5, 6, 7, 8, 1, 0] rfl (sim_X12_costOf_b139 l r9 r18 hr9 hr18 v0 v1 v2 v4 v5 v6 x20 y21 0)
set_option maxRecDepth 20000 in
theorem sim_X12_costOf_c18 (l : Launch) (r9 : Option Nat → Int32 → Int64 → Int32 → Int32 → ZM Int32) (r18 : Option Nat → Int32 → Int64 → Int32 → Int32 → Int32 → ZM Int32) (hr9 : ∀ (v0 : Option Nat) (v1 : Int32) (v2 : Int64) (v4 : Int32) (v5 : Int32), Sim (M_X12_costOf l) (zFin zcI) 9 [(0, .inr (.inr v0)), (1, .inl v1), (2, .inr (.inl v2)), (4, .inl v4), (5, .inl v5)] [] (r9 v0 v1 v2 v4 v5)) (hr18 : ∀ (v0 : Option Nat) (v1 : Int32) (v2 : Int64) (v4 : Int32) (v5 : Int32) (v6 : Int32), Sim (M_X12_costOf l) (zFin zcI) 18 [(0, .inr (.inr v0)), (1, .inl v1), (2, .inr (.inl v2)), (4, .inl v4), (5, .inl v5), (6, .inl v6)] [] (r18 v0 v1 v2 v4 v5 v6)) (v0 : Option Nat) (v1 : Int32) (v2 : Int64) (v4 : Int32) (v5 : Int32) (v6 : Int32) : Sim (M_X12_costOf l) (zFin zcI) 18 [(0, .inr (.inr v0)), (1, .inl v1), (2, .inr (.inl v2)), (4, .inl v4), (5, .inl v5), (6, .inl v6)] [] (p_X12_costOf_c18 r9 r18 v0 v1 v2 v4 v5 v6) := by
  unfold p_X12_costOf_c18
  refine s_iload (j := 5) dX12_costOf_18 rfl ?_
  refine s_iload (j := 3) dX12_costOf_20 rfl ?_
  refine s_icmp_gt (tgt := 312) dX12_costOf_22 (by decide) ?_ ?_
  · exact Sim.sub [0, 1, 2, 3, 4] rfl (sim_X12_costOf_b312 l r9 hr9 v0 v1 v2 v4 v5)
  · refine s_iload (j := 4) dX12_costOf_25 rfl ?_
    refine s_if_ne (tgt := 37) dX12_costOf_27 (by decide) ?_ ?_
    · refine s_iload (j := 5) dX12_costOf_37 rfl ?_
      refine s_if_ne (tgt := 49) dX12_costOf_39 (by decide) ?_ ?_
      · refine s_bipush (v := 99) dX12_costOf_49 (by decide) ?_
        exact Sim.sub [0, 1, 2, 3, 4, 5] rfl (sim_X12_costOf_b51 l r9 r18 hr9 hr18 v0 v1 v2 v4 v5 v6 99)
      · refine s_iconst (v := 2) dX12_costOf_42 (by decide) ?_
        refine s_iload (j := 4) dX12_costOf_43 rfl ?_
        refine s_imul dX12_costOf_45 ?_
        refine s_goto (tgt := 51) dX12_costOf_46 (by decide) ?_
        exact Sim.sub [0, 1, 2, 3, 4, 5] rfl (sim_X12_costOf_b51 l r9 r18 hr9 hr18 v0 v1 v2 v4 v5 v6 (2 * v5))
    · refine s_iconst (v := 2) dX12_costOf_30 (by decide) ?_
      refine s_iload (j := 5) dX12_costOf_31 rfl ?_
      refine s_imul dX12_costOf_33 ?_
      refine s_goto (tgt := 51) dX12_costOf_34 (by decide) ?_
      exact Sim.sub [0, 1, 2, 3, 4, 5] rfl (sim_X12_costOf_b51 l r9 r18 hr9 hr18 v0 v1 v2 v4 v5 v6 (2 * v6))
theorem sim_X12_costOf_l18 (l : Launch) (r9 : Option Nat → Int32 → Int64 → Int32 → Int32 → ZM Int32) (hr9 : ∀ (v0 : Option Nat) (v1 : Int32) (v2 : Int64) (v4 : Int32) (v5 : Int32), Sim (M_X12_costOf l) (zFin zcI) 9 [(0, .inr (.inr v0)), (1, .inl v1), (2, .inr (.inl v2)), (4, .inl v4), (5, .inl v5)] [] (r9 v0 v1 v2 v4 v5)) : ∀ (n : Nat) (v0 : Option Nat) (v1 : Int32) (v2 : Int64) (v4 : Int32) (v5 : Int32) (v6 : Int32), Sim (M_X12_costOf l) (zFin zcI) 18 [(0, .inr (.inr v0)), (1, .inl v1), (2, .inr (.inl v2)), (4, .inl v4), (5, .inl v5), (6, .inl v6)] [] (p_X12_costOf_l18 r9 n v0 v1 v2 v4 v5 v6)
  | 0, _, _, _, _, _, _ => s_fl
  | n + 1, v0, v1, v2, v4, v5, v6 => sim_X12_costOf_c18 l r9 (p_X12_costOf_l18 r9 n) hr9 (sim_X12_costOf_l18 l r9 hr9 n) v0 v1 v2 v4 v5 v6
set_option maxRecDepth 20000 in
theorem sim_X12_costOf_c9 (l : Launch) (r9 : Option Nat → Int32 → Int64 → Int32 → Int32 → ZM Int32) (hr9 : ∀ (v0 : Option Nat) (v1 : Int32) (v2 : Int64) (v4 : Int32) (v5 : Int32), Sim (M_X12_costOf l) (zFin zcI) 9 [(0, .inr (.inr v0)), (1, .inl v1), (2, .inr (.inl v2)), (4, .inl v4), (5, .inl v5)] [] (r9 v0 v1 v2 v4 v5)) (v0 : Option Nat) (v1 : Int32) (v2 : Int64) (v4 : Int32) (v5 : Int32) : Sim (M_X12_costOf l) (zFin zcI) 9 [(0, .inr (.inr v0)), (1, .inl v1), (2, .inr (.inl v2)), (4, .inl v4), (5, .inl v5)] [] (p_X12_costOf_c9 r9 v0 v1 v2 v4 v5) := by
  unfold p_X12_costOf_c9
  refine s_iload (j := 4) dX12_costOf_9 rfl ?_
  refine s_iloadn (j := 1) dX12_costOf_11 rfl ?_
  refine s_icmp_gt (tgt := 318) dX12_costOf_12 (by decide) ?_ ?_
  · exact Sim.sub [0, 1, 3] rfl (sim_X12_costOf_b318 l v0 v1 v4)
  · refine s_iconst (v := 0) dX12_costOf_15 (by decide) ?_
    refine s_istore (lv' := [(6, .inl 0), (0, .inr (.inr v0)), (1, .inl v1), (2, .inr (.inl v2)), (4, .inl v4), (5, .inl v5)]) dX12_costOf_16 (Nat.le_of_ble_eq_true rfl) rfl ?_
    exact Sim.sub [1, 2, 3, 4, 5, 0] rfl (sim_X12_costOf_l18 l r9 hr9 zFuel v0 v1 v2 v4 v5 0)
theorem sim_X12_costOf_l9 (l : Launch) : ∀ (n : Nat) (v0 : Option Nat) (v1 : Int32) (v2 : Int64) (v4 : Int32) (v5 : Int32), Sim (M_X12_costOf l) (zFin zcI) 9 [(0, .inr (.inr v0)), (1, .inl v1), (2, .inr (.inl v2)), (4, .inl v4), (5, .inl v5)] [] (p_X12_costOf_l9 n v0 v1 v2 v4 v5)
  | 0, _, _, _, _, _ => s_fl
  | n + 1, v0, v1, v2, v4, v5 => sim_X12_costOf_c9 l (p_X12_costOf_l9 n) (sim_X12_costOf_l9 l n) v0 v1 v2 v4 v5
set_option maxRecDepth 20000 in
theorem sim_X12_costOf (l : Launch) (v0 : Option Nat) (v1 : Int32) (v2 : Int64) : Sim (M_X12_costOf l) (zFin zcI) 0 [(0, .inr (.inr v0)), (1, .inl v1), (2, .inr (.inl v2))] [] (p_X12_costOf v0 v1 v2) := by
  unfold p_X12_costOf
  refine s_lloadn (j := 2) dX12_costOf_0 rfl ?_
  refine s_cSI (rest := []) (met_X12_lengthOf l v2) mth_X12_lengthOf rfl dX12_costOf_1 w_1538 w_1539 ⟨Nat.le_of_ble_eq_true rfl, Nat.le_of_ble_eq_true rfl⟩ (Nat.le_of_ble_eq_true rfl) rfl (fun x24 => ?_)
  refine s_istore (lv' := [(4, .inl x24), (0, .inr (.inr v0)), (1, .inl v1), (2, .inr (.inl v2))]) dX12_costOf_4 (Nat.le_of_ble_eq_true rfl) rfl ?_
  refine s_iconst (v := 0) dX12_costOf_6 (by decide) ?_
  refine s_istore (lv' := [(5, .inl 0), (4, .inl x24), (0, .inr (.inr v0)), (1, .inl v1), (2, .inr (.inl v2))]) dX12_costOf_7 (Nat.le_of_ble_eq_true rfl) rfl ?_
  exact Sim.sub [2, 3, 4, 1, 0] rfl (sim_X12_costOf_l9 l zFuel v0 v1 v2 x24 0)
theorem met_X12_costOf (l : Launch) (v0 : Option Nat) (v1 : Int32) (v2 : Int64) : zMet l yX12_costOf cX12_costOf 12 (some .int) 1 24 [.inr (.inr v0), .inl v1, .inr (.inl v2)] zcI (p_X12_costOf v0 v1 v2) :=
  zMet.of (by decide +kernel) (Nat.le_of_ble_eq_true rfl) rfl (sim_X12_costOf l v0 v1 v2)
def p_X12_away (v0 : Int32) : ZM Int32 :=
  if 0 ≤ v0 then (z_rt v0)
  else (z_rt (-v0))
abbrev M_X12_away (l : Launch) : ZMe := (l, "SpellScribeModel", cX12_away, 1, 0, 0, (some .int), "away", [])
set_option maxRecDepth 20000 in
theorem sim_X12_away (l : Launch) (v0 : Int32) : Sim (M_X12_away l) (zFin zcI) 0 [(0, .inl v0)] [] (p_X12_away v0) := by
  unfold p_X12_away
  refine s_iloadn (j := 0) dX12_away_0 rfl ?_
  refine s_if_ge (tgt := 9) dX12_away_1 (by decide) ?_ ?_
  · refine s_iloadn (j := 0) dX12_away_9 rfl ?_
    exact s_iret dX12_away_10 rfl
  · refine s_iloadn (j := 0) dX12_away_4 rfl ?_
    refine s_ineg dX12_away_5 ?_
    refine s_goto (tgt := 10) dX12_away_6 (by decide) ?_
    exact s_iret dX12_away_10 rfl
theorem met_X12_away (l : Launch) (v0 : Int32) : zMet l yX12_away cX12_away 1 (some .int) 0 0 [.inl v0] zcI (p_X12_away v0) :=
  zMet.of (by decide +kernel) (Nat.le_of_ble_eq_true rfl) rfl (sim_X12_away l v0)
def p_X12_offers_b66 (v0 : Option Nat) (v2 : Int64) (s0 : Int32) : ZM Unit :=
  if 4 < s0 then (z_rt ())
  else (z_b (z_gR 13 53 v0) fun x1 => z_b (z_gI 13 52 v0) fun x2 => z_b (z_sL x1 x2 v2) fun _ => z_b (z_gR 13 54 v0) fun x3 => z_b (z_gI 13 52 v0) fun x4 => z_b (z_sI x3 x4 s0) fun _ => z_b (z_gI 13 52 v0) fun x5 => z_b (z_pI 13 52 v0 (x5 + 1)) fun _ => z_rt ())
def p_X12_offers_b43 (v0 : Option Nat) (v1 : Int32) (v2 : Int64) (s0 : Int32) : ZM Unit :=
  if s0 = 0 then (p_X12_offers_b66 v0 v2 99)
  else (z_b (z_gR 13 42 v0) fun x6 => z_b (z_aI x6 v1) fun x7 => z_b (z_vr 13 v0 (p_X12_costOf v0 x7 v2)) fun x8 => p_X12_offers_b66 v0 v2 x8)
def p_X12_offers_b42 (v0 : Option Nat) (v1 : Int32) (v2 : Int64) : ZM Unit :=
  p_X12_offers_b43 v0 v1 v2 0
def p_X12_offers (v0 : Option Nat) (v1 : Int32) (v2 : Int64) : ZM Unit :=
  z_b (z_gR 13 44 v0) fun x9 => z_b (z_aL x9 v1) fun x10 => if (lg_cmp v2 x10) = 0 then (p_X12_offers_b42 v0 v1 v2)
  else (z_b (z_vr 13 v0 (p_X12_barOf v0 v2)) fun x11 => if ¬ x11 = (-1) then (p_X12_offers_b42 v0 v1 v2)
  else (z_b (p_X12_lengthOf v2) fun x12 => z_b (z_gR 13 42 v0) fun x13 => z_b (z_aI x13 v1) fun x14 => z_b (p_X12_away (x12 - x14)) fun x15 => if 2 < x15 then (p_X12_offers_b42 v0 v1 v2)
  else (p_X12_offers_b43 v0 v1 v2 1)))
abbrev M_X12_offers (l : Launch) : ZMe := (l, "SpellScribeModel", cX12_offers, 6, 2, 55, none, "offers", [])
set_option maxRecDepth 20000 in
theorem sim_X12_offers_b66 (l : Launch) (v0 : Option Nat) (v2 : Int64) (s0 : Int32) : Sim (M_X12_offers l) (zFin zcV) 66 [(0, .inr (.inr v0)), (2, .inr (.inl v2))] [.inl s0] (p_X12_offers_b66 v0 v2 s0) := by
  unfold p_X12_offers_b66
  refine s_istore (lv' := [(5, .inl s0), (0, .inr (.inr v0)), (2, .inr (.inl v2))]) dX12_offers_66 (Nat.le_of_ble_eq_true rfl) rfl ?_
  refine s_iload (j := 0) dX12_offers_68 rfl ?_
  refine s_iconst (v := 4) dX12_offers_70 (by decide) ?_
  refine s_icmp_gt (tgt := 105) dX12_offers_71 (by decide) ?_ ?_
  · exact s_vret dX12_offers_105 rfl
  · refine s_aloadn (j := 1) dX12_offers_74 rfl ?_
    refine s_getR (k := 53) cls_13 (by decide) rfl dX12_offers_75 w_1401 rfl (fun x1 => ?_)
    refine s_aloadn (j := 1) dX12_offers_78 rfl ?_
    refine s_getI (k := 52) cls_13 (by decide) rfl dX12_offers_79 w_1400 rfl (fun x2 => ?_)
    refine s_lloadn (j := 2) dX12_offers_82 rfl ?_
    refine s_last dX12_offers_83 ?_
    refine s_aloadn (j := 1) dX12_offers_84 rfl ?_
    refine s_getR (k := 54) cls_13 (by decide) rfl dX12_offers_85 w_1402 rfl (fun x3 => ?_)
    refine s_aloadn (j := 1) dX12_offers_88 rfl ?_
    refine s_getI (k := 52) cls_13 (by decide) rfl dX12_offers_89 w_1400 rfl (fun x4 => ?_)
    refine s_iload (j := 0) dX12_offers_92 rfl ?_
    refine s_iast dX12_offers_94 ?_
    refine s_aloadn (j := 1) dX12_offers_95 rfl ?_
    refine s_dupR dX12_offers_96 ?_
    refine s_getI (k := 52) cls_13 (by decide) rfl dX12_offers_97 w_1400 rfl (fun x5 => ?_)
    refine s_iconst (v := 1) dX12_offers_100 (by decide) ?_
    refine s_iadd dX12_offers_101 ?_
    refine s_putI (k := 52) cls_13 (by decide) rfl rfl rfl dX12_offers_102 w_1400 rfl ?_
    exact s_vret dX12_offers_105 rfl
set_option maxRecDepth 20000 in
theorem sim_X12_offers_b43 (l : Launch) (v0 : Option Nat) (v1 : Int32) (v2 : Int64) (s0 : Int32) : Sim (M_X12_offers l) (zFin zcV) 43 [(0, .inr (.inr v0)), (1, .inl v1), (2, .inr (.inl v2))] [.inl s0] (p_X12_offers_b43 v0 v1 v2 s0) := by
  unfold p_X12_offers_b43
  refine s_istore (lv' := [(4, .inl s0), (0, .inr (.inr v0)), (1, .inl v1), (2, .inr (.inl v2))]) dX12_offers_43 (Nat.le_of_ble_eq_true rfl) rfl ?_
  refine s_iload (j := 0) dX12_offers_45 rfl ?_
  refine s_if_eq (tgt := 64) dX12_offers_47 (by decide) ?_ ?_
  · refine s_bipush (v := 99) dX12_offers_64 (by decide) ?_
    exact Sim.sub [1, 3] rfl (sim_X12_offers_b66 l v0 v2 99)
  · refine s_aloadn (j := 1) dX12_offers_50 rfl ?_
    refine s_aloadn (j := 1) dX12_offers_51 rfl ?_
    refine s_getR (k := 42) cls_13 (by decide) rfl dX12_offers_52 w_1390 rfl (fun x6 => ?_)
    refine s_iloadn (j := 2) dX12_offers_55 rfl ?_
    refine s_iald dX12_offers_56 (fun x7 => ?_)
    refine s_lloadn (j := 3) dX12_offers_57 rfl ?_
    refine s_cVI (rest := []) (met_X12_costOf l v0 x7 v2) cls_13 mth_X12_costOf rfl dX12_offers_58 w_1740 w_1742 wp_70 ⟨Nat.le_of_ble_eq_true rfl, Nat.le_of_ble_eq_true rfl⟩ (Nat.le_of_ble_eq_true rfl) rfl (fun x8 => ?_)
    refine s_goto (tgt := 66) dX12_offers_61 (by decide) ?_
    exact Sim.sub [1, 3] rfl (sim_X12_offers_b66 l v0 v2 x8)
set_option maxRecDepth 20000 in
theorem sim_X12_offers_b42 (l : Launch) (v0 : Option Nat) (v1 : Int32) (v2 : Int64) : Sim (M_X12_offers l) (zFin zcV) 42 [(0, .inr (.inr v0)), (1, .inl v1), (2, .inr (.inl v2))] [] (p_X12_offers_b42 v0 v1 v2) := by
  unfold p_X12_offers_b42
  refine s_iconst (v := 0) dX12_offers_42 (by decide) ?_
  exact Sim.sub [0, 1, 2] rfl (sim_X12_offers_b43 l v0 v1 v2 0)
set_option maxRecDepth 20000 in
theorem sim_X12_offers (l : Launch) (v0 : Option Nat) (v1 : Int32) (v2 : Int64) : Sim (M_X12_offers l) (zFin zcV) 0 [(0, .inr (.inr v0)), (1, .inl v1), (2, .inr (.inl v2))] [] (p_X12_offers v0 v1 v2) := by
  unfold p_X12_offers
  refine s_lloadn (j := 2) dX12_offers_0 rfl ?_
  refine s_aloadn (j := 0) dX12_offers_1 rfl ?_
  refine s_getR (k := 44) cls_13 (by decide) rfl dX12_offers_2 w_1392 rfl (fun x9 => ?_)
  refine s_iloadn (j := 1) dX12_offers_5 rfl ?_
  refine s_lald dX12_offers_6 (fun x10 => ?_)
  refine s_lcmp dX12_offers_7 ?_
  refine s_if_eq (tgt := 42) dX12_offers_8 (by decide) ?_ ?_
  · exact Sim.sub [0, 1, 2] rfl (sim_X12_offers_b42 l v0 v1 v2)
  · refine s_aloadn (j := 0) dX12_offers_11 rfl ?_
    refine s_lloadn (j := 2) dX12_offers_12 rfl ?_
    refine s_cVI (rest := []) (met_X12_barOf l v0 v2) cls_13 mth_X12_barOf rfl dX12_offers_13 w_1573 w_1575 wp_43 ⟨Nat.le_of_ble_eq_true rfl, Nat.le_of_ble_eq_true rfl⟩ (Nat.le_of_ble_eq_true rfl) rfl (fun x11 => ?_)
    refine s_iconst (v := (-1)) dX12_offers_16 (by decide) ?_
    refine s_icmp_ne (tgt := 42) dX12_offers_17 (by decide) ?_ ?_
    · exact Sim.sub [0, 1, 2] rfl (sim_X12_offers_b42 l v0 v1 v2)
    · refine s_lloadn (j := 2) dX12_offers_20 rfl ?_
      refine s_cSI (rest := []) (met_X12_lengthOf l v2) mth_X12_lengthOf rfl dX12_offers_21 w_1538 w_1539 ⟨Nat.le_of_ble_eq_true rfl, Nat.le_of_ble_eq_true rfl⟩ (Nat.le_of_ble_eq_true rfl) rfl (fun x12 => ?_)
      refine s_aloadn (j := 0) dX12_offers_24 rfl ?_
      refine s_getR (k := 42) cls_13 (by decide) rfl dX12_offers_25 w_1390 rfl (fun x13 => ?_)
      refine s_iloadn (j := 1) dX12_offers_28 rfl ?_
      refine s_iald dX12_offers_29 (fun x14 => ?_)
      refine s_isub dX12_offers_30 ?_
      refine s_cSI (rest := []) (met_X12_away l (x12 - x14)) mth_X12_away rfl dX12_offers_31 w_1737 w_1738 ⟨Nat.le_of_ble_eq_true rfl, Nat.le_of_ble_eq_true rfl⟩ (Nat.le_of_ble_eq_true rfl) rfl (fun x15 => ?_)
      refine s_iconst (v := 2) dX12_offers_34 (by decide) ?_
      refine s_icmp_gt (tgt := 42) dX12_offers_35 (by decide) ?_ ?_
      · exact Sim.sub [0, 1, 2] rfl (sim_X12_offers_b42 l v0 v1 v2)
      · refine s_iconst (v := 1) dX12_offers_38 (by decide) ?_
        refine s_goto (tgt := 43) dX12_offers_39 (by decide) ?_
        exact Sim.sub [0, 1, 2] rfl (sim_X12_offers_b43 l v0 v1 v2 1)
theorem met_X12_offers (l : Launch) (v0 : Option Nat) (v1 : Int32) (v2 : Int64) : zMet l yX12_offers cX12_offers 6 none 2 55 [.inr (.inr v0), .inl v1, .inr (.inl v2)] zcV (p_X12_offers v0 v1 v2) :=
  zMet.of (by decide +kernel) (Nat.le_of_ble_eq_true rfl) rfl (sim_X12_offers l v0 v1 v2)
def p_X12_isAhead (v0 : Option Nat) (v1 : Int32) (v2 : Int64) (v4 : Int32) : ZM Int32 :=
  z_b (z_gR 13 54 v0) fun x1 => z_b (z_aI x1 v4) fun x2 => if v1 < x2 then (z_rz 1)
  else (z_b (z_gR 13 54 v0) fun x3 => z_b (z_aI x3 v4) fun x4 => if ¬ v1 = x4 then (z_rz 0)
  else (z_b (z_gR 13 53 v0) fun x5 => z_b (z_aL x5 v4) fun x6 => if 0 ≤ (lg_cmp v2 x6) then (z_rz 0)
  else (z_rz 1)))
abbrev M_X12_isAhead (l : Launch) : ZMe := (l, "SpellScribeModel", cX12_isAhead, 5, 0, 0, (some .boolean), "isAhead", [])
set_option maxRecDepth 20000 in
theorem sim_X12_isAhead (l : Launch) (v0 : Option Nat) (v1 : Int32) (v2 : Int64) (v4 : Int32) : Sim (M_X12_isAhead l) (zFin zcI) 0 [(0, .inr (.inr v0)), (1, .inl v1), (2, .inr (.inl v2)), (4, .inl v4)] [] (p_X12_isAhead v0 v1 v2 v4) := by
  unfold p_X12_isAhead
  refine s_iloadn (j := 1) dX12_isAhead_0 rfl ?_
  refine s_aloadn (j := 0) dX12_isAhead_1 rfl ?_
  refine s_getR (k := 54) cls_13 (by decide) rfl dX12_isAhead_2 w_1402 rfl (fun x1 => ?_)
  refine s_iload (j := 3) dX12_isAhead_5 rfl ?_
  refine s_iald dX12_isAhead_7 (fun x2 => ?_)
  refine s_icmp_lt (tgt := 34) dX12_isAhead_8 (by decide) ?_ ?_
  · refine s_iconst (v := 1) dX12_isAhead_34 (by decide) ?_
    refine s_goto (tgt := 39) dX12_isAhead_35 (by decide) ?_
    exact s_zret dX12_isAhead_39 rfl
  · refine s_iloadn (j := 1) dX12_isAhead_11 rfl ?_
    refine s_aloadn (j := 0) dX12_isAhead_12 rfl ?_
    refine s_getR (k := 54) cls_13 (by decide) rfl dX12_isAhead_13 w_1402 rfl (fun x3 => ?_)
    refine s_iload (j := 3) dX12_isAhead_16 rfl ?_
    refine s_iald dX12_isAhead_18 (fun x4 => ?_)
    refine s_icmp_ne (tgt := 38) dX12_isAhead_19 (by decide) ?_ ?_
    · refine s_iconst (v := 0) dX12_isAhead_38 (by decide) ?_
      exact s_zret dX12_isAhead_39 rfl
    · refine s_lloadn (j := 2) dX12_isAhead_22 rfl ?_
      refine s_aloadn (j := 0) dX12_isAhead_23 rfl ?_
      refine s_getR (k := 53) cls_13 (by decide) rfl dX12_isAhead_24 w_1401 rfl (fun x5 => ?_)
      refine s_iload (j := 3) dX12_isAhead_27 rfl ?_
      refine s_lald dX12_isAhead_29 (fun x6 => ?_)
      refine s_lcmp dX12_isAhead_30 ?_
      refine s_if_ge (tgt := 38) dX12_isAhead_31 (by decide) ?_ ?_
      · refine s_iconst (v := 0) dX12_isAhead_38 (by decide) ?_
        exact s_zret dX12_isAhead_39 rfl
      · refine s_iconst (v := 1) dX12_isAhead_34 (by decide) ?_
        refine s_goto (tgt := 39) dX12_isAhead_35 (by decide) ?_
        exact s_zret dX12_isAhead_39 rfl
theorem met_X12_isAhead (l : Launch) (v0 : Option Nat) (v1 : Int32) (v2 : Int64) (v4 : Int32) : zMet l yX12_isAhead cX12_isAhead 5 (some .boolean) 0 0 [.inr (.inr v0), .inl v1, .inr (.inl v2), .inl v4] zcI (p_X12_isAhead v0 v1 v2 v4) :=
  zMet.of (by decide +kernel) (Nat.le_of_ble_eq_true rfl) rfl (sim_X12_isAhead l v0 v1 v2 v4)
def p_X12_suggests_b272 (r153 : Option Nat → Int32 → ZM Unit) (v0 : Option Nat) (v2 : Int32) : ZM Unit :=
  z_n ((v2 / 3) : Int32) fun y1 => r153 v0 y1
def p_X12_suggests_b248 (r153 : Option Nat → Int32 → ZM Unit) (r159 : Option Nat → Int32 → Int32 → ZM Unit) (v0 : Option Nat) (v2 : Int32) (v3 : Int32) (v4 : Int64) (v6 : Int32) (v7 : Int32) : ZM Unit :=
  z_b (z_gR 13 53 v0) fun x2 => z_b (z_sL x2 v7 v4) fun _ => z_b (z_gR 13 54 v0) fun x3 => z_b (z_sI x3 v7 v6) fun _ => z_n (v3 + 1 : Int32) fun y4 => r159 v0 v2 y4
def p_X12_suggests_c186 (r153 : Option Nat → Int32 → ZM Unit) (r159 : Option Nat → Int32 → Int32 → ZM Unit) (r186 : Option Nat → Int32 → Int32 → Int64 → Int32 → Int32 → ZM Unit) (v0 : Option Nat) (v2 : Int32) (v3 : Int32) (v4 : Int64) (v6 : Int32) (v7 : Int32) : ZM Unit :=
  if v7 < v2 then (p_X12_suggests_b248 r153 r159 v0 v2 v3 v4 v6 v7)
  else (z_b (z_vr 13 v0 (p_X12_isAhead v0 v6 v4 (v7 - v2))) fun x5 => if x5 = 0 then (p_X12_suggests_b248 r153 r159 v0 v2 v3 v4 v6 v7)
  else (z_b (z_gR 13 53 v0) fun x6 => z_b (z_gR 13 53 v0) fun x7 => z_b (z_aL x7 (v7 - v2)) fun x8 => z_b (z_sL x6 v7 x8) fun _ => z_b (z_gR 13 54 v0) fun x9 => z_b (z_gR 13 54 v0) fun x10 => z_b (z_aI x10 (v7 - v2)) fun x11 => z_b (z_sI x9 v7 x11) fun _ => z_n ((v7 - v2) : Int32) fun y12 => r186 v0 v2 v3 v4 v6 y12))
def p_X12_suggests_l186 (r153 : Option Nat → Int32 → ZM Unit) (r159 : Option Nat → Int32 → Int32 → ZM Unit) : Nat → Option Nat → Int32 → Int32 → Int64 → Int32 → Int32 → ZM Unit
  | 0, _, _, _, _, _, _ => z_fl
  | n + 1, v0, v2, v3, v4, v6, v7 => p_X12_suggests_c186 r153 r159 (p_X12_suggests_l186 r153 r159 n) v0 v2 v3 v4 v6 v7
def p_X12_suggests_c159 (r153 : Option Nat → Int32 → ZM Unit) (r159 : Option Nat → Int32 → Int32 → ZM Unit) (v0 : Option Nat) (v2 : Int32) (v3 : Int32) : ZM Unit :=
  z_b (z_gI 13 52 v0) fun x13 => if x13 ≤ v3 then (p_X12_suggests_b272 r153 v0 v2)
  else (z_b (z_gR 13 53 v0) fun x14 => z_b (z_aL x14 v3) fun x15 => z_b (z_gR 13 54 v0) fun x16 => z_b (z_aI x16 v3) fun x17 => p_X12_suggests_l186 r153 r159 zFuel v0 v2 v3 x15 x17 v3)
def p_X12_suggests_l159 (r153 : Option Nat → Int32 → ZM Unit) : Nat → Option Nat → Int32 → Int32 → ZM Unit
  | 0, _, _, _ => z_fl
  | n + 1, v0, v2, v3 => p_X12_suggests_c159 r153 (p_X12_suggests_l159 r153 n) v0 v2 v3
def p_X12_suggests_c153 (r153 : Option Nat → Int32 → ZM Unit) (v0 : Option Nat) (v2 : Int32) : ZM Unit :=
  if v2 ≤ 0 then (z_rt ())
  else (p_X12_suggests_l159 r153 zFuel v0 v2 v2)
def p_X12_suggests_l153 : Nat → Option Nat → Int32 → ZM Unit
  | 0, _, _ => z_fl
  | n + 1, v0, v2 => p_X12_suggests_c153 (p_X12_suggests_l153 n) v0 v2
def p_X12_suggests_b149 (v0 : Option Nat) : ZM Unit :=
  p_X12_suggests_l153 zFuel v0 1093
def p_X12_suggests_c124 (r124 : Option Nat → Int32 → Int32 → ZM Unit) (v0 : Option Nat) (v1 : Int32) (v2 : Int32) : ZM Unit :=
  z_b (z_gI 13 17 v0) fun x18 => if x18 ≤ v2 then (p_X12_suggests_b149 v0)
  else (z_b (z_gR 13 18 v0) fun x19 => z_b (z_aL x19 v2) fun x20 => z_b (z_vr 13 v0 (p_X12_offers v0 v1 x20)) fun _ => z_n (v2 + 1 : Int32) fun y21 => r124 v0 v1 y21)
def p_X12_suggests_l124 : Nat → Option Nat → Int32 → Int32 → ZM Unit
  | 0, _, _, _ => z_fl
  | n + 1, v0, v1, v2 => p_X12_suggests_c124 (p_X12_suggests_l124 n) v0 v1 v2
def p_X12_suggests_b122 (v0 : Option Nat) (v1 : Int32) : ZM Unit :=
  p_X12_suggests_l124 zFuel v0 v1 0
def p_X12_suggests_b116 (r63 : Option Nat → Int32 → Int32 → ZM Unit) (v0 : Option Nat) (v1 : Int32) (v2 : Int32) : ZM Unit :=
  z_n (v2 + 1 : Int32) fun y22 => r63 v0 v1 y22
def p_X12_suggests_c63 (r63 : Option Nat → Int32 → Int32 → ZM Unit) (v0 : Option Nat) (v1 : Int32) (v2 : Int32) : ZM Unit :=
  if 16384 ≤ v2 then (p_X12_suggests_b122 v0 v1)
  else (z_b (z_gR 13 36 v0) fun x23 => z_b (z_aL x23 v2) fun x24 => if (lg_cmp x24 0) = 0 then (p_X12_suggests_b116 r63 v0 v1 v2)
  else (z_b (z_gR 13 39 v0) fun x25 => z_b (z_aI x25 v2) fun x26 => if ¬ x26 = 1 then (p_X12_suggests_b116 r63 v0 v1 v2)
  else (z_b (z_gR 13 36 v0) fun x27 => z_b (z_aL x27 v2) fun x28 => z_b (z_vr 13 v0 (p_X12_ownOf v0 x28)) fun x29 => if ¬ x29 = (-1) then (p_X12_suggests_b116 r63 v0 v1 v2)
  else (z_b (z_gR 13 36 v0) fun x30 => z_b (z_aL x30 v2) fun x31 => z_b (z_vr 13 v0 (p_X12_offers v0 v1 x31)) fun _ => p_X12_suggests_b116 r63 v0 v1 v2))))
def p_X12_suggests_l63 : Nat → Option Nat → Int32 → Int32 → ZM Unit
  | 0, _, _, _ => z_fl
  | n + 1, v0, v1, v2 => p_X12_suggests_c63 (p_X12_suggests_l63 n) v0 v1 v2
def p_X12_suggests_b61 (v0 : Option Nat) (v1 : Int32) : ZM Unit :=
  p_X12_suggests_l63 zFuel v0 v1 0
def p_X12_suggests_c19 (r19 : Option Nat → Int32 → Int32 → ZM Unit) (v0 : Option Nat) (v1 : Int32) (v2 : Int32) : ZM Unit :=
  z_b (z_gR 13 42 v0) fun x32 => z_b (z_aI x32 v1) fun x33 => if x33 ≤ v2 then (p_X12_suggests_b61 v0 v1)
  else (z_b (z_gR 13 51 v0) fun x34 => z_b (z_gR 13 33 v0) fun x35 => z_b (z_gR 13 41 v0) fun x36 => z_b (z_aI x36 v1) fun x37 => z_b (z_aI x35 (x37 + v2)) fun x38 => z_b (z_sI x34 (v2 + 1) ((x38 - 97) + 1)) fun _ => z_n (v2 + 1 : Int32) fun y39 => r19 v0 v1 y39)
def p_X12_suggests_l19 : Nat → Option Nat → Int32 → Int32 → ZM Unit
  | 0, _, _, _ => z_fl
  | n + 1, v0, v1, v2 => p_X12_suggests_c19 (p_X12_suggests_l19 n) v0 v1 v2
def p_X12_suggests (v0 : Option Nat) (v1 : Int32) : ZM Unit :=
  z_b (z_pI 13 52 v0 0) fun _ => z_b (z_gR 13 42 v0) fun x40 => z_b (z_aI x40 v1) fun x41 => if x41 ≤ 12 then (p_X12_suggests_l19 zFuel v0 v1 0)
  else (z_rt ())
abbrev M_X12_suggests (l : Launch) : ZMe := (l, "SpellScribeModel", cX12_suggests, 8, 3, 80, none, "suggests", [])
set_option maxRecDepth 20000 in
theorem sim_X12_suggests_b272 (l : Launch) (r153 : Option Nat → Int32 → ZM Unit) (hr153 : ∀ (v0 : Option Nat) (v2 : Int32), Sim (M_X12_suggests l) (zFin zcV) 153 [(0, .inr (.inr v0)), (2, .inl v2)] [] (r153 v0 v2)) (v0 : Option Nat) (v2 : Int32) : Sim (M_X12_suggests l) (zFin zcV) 272 [(0, .inr (.inr v0)), (2, .inl v2)] [] (p_X12_suggests_b272 r153 v0 v2) := by
  unfold p_X12_suggests_b272
  refine s_iloadn (j := 1) dX12_suggests_272 rfl ?_
  refine s_iconst (v := 3) dX12_suggests_273 (by decide) ?_
  refine s_idiv dX12_suggests_274 (by decide) ?_
  refine s_nI (fun y1 => ?_)
  refine s_istoren (lv' := [(2, .inl y1), (0, .inr (.inr v0))]) dX12_suggests_275 (Nat.le_of_ble_eq_true rfl) rfl ?_
  refine s_goto (tgt := 153) dX12_suggests_276 (by decide) ?_
  exact Sim.sub [1, 0] rfl (hr153 v0 y1)
set_option maxRecDepth 20000 in
theorem sim_X12_suggests_b248 (l : Launch) (r153 : Option Nat → Int32 → ZM Unit) (r159 : Option Nat → Int32 → Int32 → ZM Unit) (hr153 : ∀ (v0 : Option Nat) (v2 : Int32), Sim (M_X12_suggests l) (zFin zcV) 153 [(0, .inr (.inr v0)), (2, .inl v2)] [] (r153 v0 v2)) (hr159 : ∀ (v0 : Option Nat) (v2 : Int32) (v3 : Int32), Sim (M_X12_suggests l) (zFin zcV) 159 [(0, .inr (.inr v0)), (2, .inl v2), (3, .inl v3)] [] (r159 v0 v2 v3)) (v0 : Option Nat) (v2 : Int32) (v3 : Int32) (v4 : Int64) (v6 : Int32) (v7 : Int32) : Sim (M_X12_suggests l) (zFin zcV) 248 [(0, .inr (.inr v0)), (2, .inl v2), (3, .inl v3), (4, .inr (.inl v4)), (6, .inl v6), (7, .inl v7)] [] (p_X12_suggests_b248 r153 r159 v0 v2 v3 v4 v6 v7) := by
  unfold p_X12_suggests_b248
  refine s_aloadn (j := 0) dX12_suggests_248 rfl ?_
  refine s_getR (k := 53) cls_13 (by decide) rfl dX12_suggests_249 w_1401 rfl (fun x2 => ?_)
  refine s_iload (j := 5) dX12_suggests_252 rfl ?_
  refine s_lload (j := 3) dX12_suggests_254 rfl ?_
  refine s_last dX12_suggests_256 ?_
  refine s_aloadn (j := 0) dX12_suggests_257 rfl ?_
  refine s_getR (k := 54) cls_13 (by decide) rfl dX12_suggests_258 w_1402 rfl (fun x3 => ?_)
  refine s_iload (j := 5) dX12_suggests_261 rfl ?_
  refine s_iload (j := 4) dX12_suggests_263 rfl ?_
  refine s_iast dX12_suggests_265 ?_
  refine s_n0 (fun y4 hy4 => ?_)
  refine s_iinc (j := 2) (v := y4) (d := 1) (lv' := [(3, .inl y4), (0, .inr (.inr v0)), (2, .inl v2), (4, .inr (.inl v4)), (6, .inl v6), (7, .inl v7)]) dX12_suggests_266 rfl (by decide) hy4 (Nat.le_of_ble_eq_true rfl) rfl ?_
  refine s_goto (tgt := 159) dX12_suggests_269 (by decide) ?_
  exact Sim.sub [1, 2, 0] rfl (hr159 v0 v2 y4)
set_option maxRecDepth 20000 in
theorem sim_X12_suggests_c186 (l : Launch) (r153 : Option Nat → Int32 → ZM Unit) (r159 : Option Nat → Int32 → Int32 → ZM Unit) (r186 : Option Nat → Int32 → Int32 → Int64 → Int32 → Int32 → ZM Unit) (hr153 : ∀ (v0 : Option Nat) (v2 : Int32), Sim (M_X12_suggests l) (zFin zcV) 153 [(0, .inr (.inr v0)), (2, .inl v2)] [] (r153 v0 v2)) (hr159 : ∀ (v0 : Option Nat) (v2 : Int32) (v3 : Int32), Sim (M_X12_suggests l) (zFin zcV) 159 [(0, .inr (.inr v0)), (2, .inl v2), (3, .inl v3)] [] (r159 v0 v2 v3)) (hr186 : ∀ (v0 : Option Nat) (v2 : Int32) (v3 : Int32) (v4 : Int64) (v6 : Int32) (v7 : Int32), Sim (M_X12_suggests l) (zFin zcV) 186 [(0, .inr (.inr v0)), (2, .inl v2), (3, .inl v3), (4, .inr (.inl v4)), (6, .inl v6), (7, .inl v7)] [] (r186 v0 v2 v3 v4 v6 v7)) (v0 : Option Nat) (v2 : Int32) (v3 : Int32) (v4 : Int64) (v6 : Int32) (v7 : Int32) : Sim (M_X12_suggests l) (zFin zcV) 186 [(0, .inr (.inr v0)), (2, .inl v2), (3, .inl v3), (4, .inr (.inl v4)), (6, .inl v6), (7, .inl v7)] [] (p_X12_suggests_c186 r153 r159 r186 v0 v2 v3 v4 v6 v7) := by
  unfold p_X12_suggests_c186
  refine s_iload (j := 5) dX12_suggests_186 rfl ?_
  refine s_iloadn (j := 1) dX12_suggests_188 rfl ?_
  refine s_icmp_lt (tgt := 248) dX12_suggests_189 (by decide) ?_ ?_
  · exact Sim.sub [0, 1, 2, 3, 4, 5] rfl (sim_X12_suggests_b248 l r153 r159 hr153 hr159 v0 v2 v3 v4 v6 v7)
  · refine s_aloadn (j := 0) dX12_suggests_192 rfl ?_
    refine s_iload (j := 4) dX12_suggests_193 rfl ?_
    refine s_lload (j := 3) dX12_suggests_195 rfl ?_
    refine s_iload (j := 5) dX12_suggests_197 rfl ?_
    refine s_iloadn (j := 1) dX12_suggests_199 rfl ?_
    refine s_isub dX12_suggests_200 ?_
    refine s_cVI (rest := []) (met_X12_isAhead l v0 v6 v4 (v7 - v2)) cls_13 mth_X12_isAhead rfl dX12_suggests_201 w_1747 w_1749 wp_71 ⟨Nat.le_of_ble_eq_true rfl, Nat.le_of_ble_eq_true rfl⟩ (Nat.le_of_ble_eq_true rfl) rfl (fun x5 => ?_)
    refine s_if_eq (tgt := 248) dX12_suggests_204 (by decide) ?_ ?_
    · exact Sim.sub [0, 1, 2, 3, 4, 5] rfl (sim_X12_suggests_b248 l r153 r159 hr153 hr159 v0 v2 v3 v4 v6 v7)
    · refine s_aloadn (j := 0) dX12_suggests_207 rfl ?_
      refine s_getR (k := 53) cls_13 (by decide) rfl dX12_suggests_208 w_1401 rfl (fun x6 => ?_)
      refine s_iload (j := 5) dX12_suggests_211 rfl ?_
      refine s_aloadn (j := 0) dX12_suggests_213 rfl ?_
      refine s_getR (k := 53) cls_13 (by decide) rfl dX12_suggests_214 w_1401 rfl (fun x7 => ?_)
      refine s_iload (j := 5) dX12_suggests_217 rfl ?_
      refine s_iloadn (j := 1) dX12_suggests_219 rfl ?_
      refine s_isub dX12_suggests_220 ?_
      refine s_lald dX12_suggests_221 (fun x8 => ?_)
      refine s_last dX12_suggests_222 ?_
      refine s_aloadn (j := 0) dX12_suggests_223 rfl ?_
      refine s_getR (k := 54) cls_13 (by decide) rfl dX12_suggests_224 w_1402 rfl (fun x9 => ?_)
      refine s_iload (j := 5) dX12_suggests_227 rfl ?_
      refine s_aloadn (j := 0) dX12_suggests_229 rfl ?_
      refine s_getR (k := 54) cls_13 (by decide) rfl dX12_suggests_230 w_1402 rfl (fun x10 => ?_)
      refine s_iload (j := 5) dX12_suggests_233 rfl ?_
      refine s_iloadn (j := 1) dX12_suggests_235 rfl ?_
      refine s_isub dX12_suggests_236 ?_
      refine s_iald dX12_suggests_237 (fun x11 => ?_)
      refine s_iast dX12_suggests_238 ?_
      refine s_iload (j := 5) dX12_suggests_239 rfl ?_
      refine s_iloadn (j := 1) dX12_suggests_241 rfl ?_
      refine s_isub dX12_suggests_242 ?_
      refine s_nI (fun y12 => ?_)
      refine s_istore (lv' := [(7, .inl y12), (0, .inr (.inr v0)), (2, .inl v2), (3, .inl v3), (4, .inr (.inl v4)), (6, .inl v6)]) dX12_suggests_243 (Nat.le_of_ble_eq_true rfl) rfl ?_
      refine s_goto (tgt := 186) dX12_suggests_245 (by decide) ?_
      exact Sim.sub [1, 2, 3, 4, 5, 0] rfl (hr186 v0 v2 v3 v4 v6 y12)
theorem sim_X12_suggests_l186 (l : Launch) (r153 : Option Nat → Int32 → ZM Unit) (r159 : Option Nat → Int32 → Int32 → ZM Unit) (hr153 : ∀ (v0 : Option Nat) (v2 : Int32), Sim (M_X12_suggests l) (zFin zcV) 153 [(0, .inr (.inr v0)), (2, .inl v2)] [] (r153 v0 v2)) (hr159 : ∀ (v0 : Option Nat) (v2 : Int32) (v3 : Int32), Sim (M_X12_suggests l) (zFin zcV) 159 [(0, .inr (.inr v0)), (2, .inl v2), (3, .inl v3)] [] (r159 v0 v2 v3)) : ∀ (n : Nat) (v0 : Option Nat) (v2 : Int32) (v3 : Int32) (v4 : Int64) (v6 : Int32) (v7 : Int32), Sim (M_X12_suggests l) (zFin zcV) 186 [(0, .inr (.inr v0)), (2, .inl v2), (3, .inl v3), (4, .inr (.inl v4)), (6, .inl v6), (7, .inl v7)] [] (p_X12_suggests_l186 r153 r159 n v0 v2 v3 v4 v6 v7)
  | 0, _, _, _, _, _, _ => s_fl
  | n + 1, v0, v2, v3, v4, v6, v7 => sim_X12_suggests_c186 l r153 r159 (p_X12_suggests_l186 r153 r159 n) hr153 hr159 (sim_X12_suggests_l186 l r153 r159 hr153 hr159 n) v0 v2 v3 v4 v6 v7
set_option maxRecDepth 20000 in
theorem sim_X12_suggests_c159 (l : Launch) (r153 : Option Nat → Int32 → ZM Unit) (r159 : Option Nat → Int32 → Int32 → ZM Unit) (hr153 : ∀ (v0 : Option Nat) (v2 : Int32), Sim (M_X12_suggests l) (zFin zcV) 153 [(0, .inr (.inr v0)), (2, .inl v2)] [] (r153 v0 v2)) (hr159 : ∀ (v0 : Option Nat) (v2 : Int32) (v3 : Int32), Sim (M_X12_suggests l) (zFin zcV) 159 [(0, .inr (.inr v0)), (2, .inl v2), (3, .inl v3)] [] (r159 v0 v2 v3)) (v0 : Option Nat) (v2 : Int32) (v3 : Int32) : Sim (M_X12_suggests l) (zFin zcV) 159 [(0, .inr (.inr v0)), (2, .inl v2), (3, .inl v3)] [] (p_X12_suggests_c159 r153 r159 v0 v2 v3) := by
  unfold p_X12_suggests_c159
  refine s_iloadn (j := 2) dX12_suggests_159 rfl ?_
  refine s_aloadn (j := 0) dX12_suggests_160 rfl ?_
  refine s_getI (k := 52) cls_13 (by decide) rfl dX12_suggests_161 w_1400 rfl (fun x13 => ?_)
  refine s_icmp_ge (tgt := 272) dX12_suggests_164 (by decide) ?_ ?_
  · exact Sim.sub [0, 1] rfl (sim_X12_suggests_b272 l r153 hr153 v0 v2)
  · refine s_aloadn (j := 0) dX12_suggests_167 rfl ?_
    refine s_getR (k := 53) cls_13 (by decide) rfl dX12_suggests_168 w_1401 rfl (fun x14 => ?_)
    refine s_iloadn (j := 2) dX12_suggests_171 rfl ?_
    refine s_lald dX12_suggests_172 (fun x15 => ?_)
    refine s_lstore (lv' := [(4, .inr (.inl x15)), (0, .inr (.inr v0)), (2, .inl v2), (3, .inl v3)]) dX12_suggests_173 (Nat.le_of_ble_eq_true rfl) rfl ?_
    refine s_aloadn (j := 1) dX12_suggests_175 rfl ?_
    refine s_getR (k := 54) cls_13 (by decide) rfl dX12_suggests_176 w_1402 rfl (fun x16 => ?_)
    refine s_iloadn (j := 3) dX12_suggests_179 rfl ?_
    refine s_iald dX12_suggests_180 (fun x17 => ?_)
    refine s_istore (lv' := [(6, .inl x17), (4, .inr (.inl x15)), (0, .inr (.inr v0)), (2, .inl v2), (3, .inl v3)]) dX12_suggests_181 (Nat.le_of_ble_eq_true rfl) rfl ?_
    refine s_iloadn (j := 4) dX12_suggests_183 rfl ?_
    refine s_istore (lv' := [(7, .inl v3), (6, .inl x17), (4, .inr (.inl x15)), (0, .inr (.inr v0)), (2, .inl v2), (3, .inl v3)]) dX12_suggests_184 (Nat.le_of_ble_eq_true rfl) rfl ?_
    exact Sim.sub [3, 4, 5, 2, 1, 0] rfl (sim_X12_suggests_l186 l r153 r159 hr153 hr159 zFuel v0 v2 v3 x15 x17 v3)
theorem sim_X12_suggests_l159 (l : Launch) (r153 : Option Nat → Int32 → ZM Unit) (hr153 : ∀ (v0 : Option Nat) (v2 : Int32), Sim (M_X12_suggests l) (zFin zcV) 153 [(0, .inr (.inr v0)), (2, .inl v2)] [] (r153 v0 v2)) : ∀ (n : Nat) (v0 : Option Nat) (v2 : Int32) (v3 : Int32), Sim (M_X12_suggests l) (zFin zcV) 159 [(0, .inr (.inr v0)), (2, .inl v2), (3, .inl v3)] [] (p_X12_suggests_l159 r153 n v0 v2 v3)
  | 0, _, _, _ => s_fl
  | n + 1, v0, v2, v3 => sim_X12_suggests_c159 l r153 (p_X12_suggests_l159 r153 n) hr153 (sim_X12_suggests_l159 l r153 hr153 n) v0 v2 v3
set_option maxRecDepth 20000 in
theorem sim_X12_suggests_c153 (l : Launch) (r153 : Option Nat → Int32 → ZM Unit) (hr153 : ∀ (v0 : Option Nat) (v2 : Int32), Sim (M_X12_suggests l) (zFin zcV) 153 [(0, .inr (.inr v0)), (2, .inl v2)] [] (r153 v0 v2)) (v0 : Option Nat) (v2 : Int32) : Sim (M_X12_suggests l) (zFin zcV) 153 [(0, .inr (.inr v0)), (2, .inl v2)] [] (p_X12_suggests_c153 r153 v0 v2) := by
  unfold p_X12_suggests_c153
  refine s_iloadn (j := 1) dX12_suggests_153 rfl ?_
  refine s_if_le (tgt := 279) dX12_suggests_154 (by decide) ?_ ?_
  · exact s_vret dX12_suggests_279 rfl
  · refine s_iloadn (j := 1) dX12_suggests_157 rfl ?_
    refine s_istoren (lv' := [(3, .inl v2), (0, .inr (.inr v0)), (2, .inl v2)]) dX12_suggests_158 (Nat.le_of_ble_eq_true rfl) rfl ?_
    exact Sim.sub [1, 2, 0] rfl (sim_X12_suggests_l159 l r153 hr153 zFuel v0 v2 v2)
theorem sim_X12_suggests_l153 (l : Launch) : ∀ (n : Nat) (v0 : Option Nat) (v2 : Int32), Sim (M_X12_suggests l) (zFin zcV) 153 [(0, .inr (.inr v0)), (2, .inl v2)] [] (p_X12_suggests_l153 n v0 v2)
  | 0, _, _ => s_fl
  | n + 1, v0, v2 => sim_X12_suggests_c153 l (p_X12_suggests_l153 n) (sim_X12_suggests_l153 l n) v0 v2
set_option maxRecDepth 20000 in
theorem sim_X12_suggests_b149 (l : Launch) (v0 : Option Nat) : Sim (M_X12_suggests l) (zFin zcV) 149 [(0, .inr (.inr v0))] [] (p_X12_suggests_b149 v0) := by
  unfold p_X12_suggests_b149
  refine s_sipush (v := 1093) dX12_suggests_149 (by decide) ?_
  refine s_istoren (lv' := [(2, .inl 1093), (0, .inr (.inr v0))]) dX12_suggests_152 (Nat.le_of_ble_eq_true rfl) rfl ?_
  exact Sim.sub [1, 0] rfl (sim_X12_suggests_l153 l zFuel v0 1093)
set_option maxRecDepth 20000 in
theorem sim_X12_suggests_c124 (l : Launch) (r124 : Option Nat → Int32 → Int32 → ZM Unit) (hr124 : ∀ (v0 : Option Nat) (v1 : Int32) (v2 : Int32), Sim (M_X12_suggests l) (zFin zcV) 124 [(0, .inr (.inr v0)), (1, .inl v1), (2, .inl v2)] [] (r124 v0 v1 v2)) (v0 : Option Nat) (v1 : Int32) (v2 : Int32) : Sim (M_X12_suggests l) (zFin zcV) 124 [(0, .inr (.inr v0)), (1, .inl v1), (2, .inl v2)] [] (p_X12_suggests_c124 r124 v0 v1 v2) := by
  unfold p_X12_suggests_c124
  refine s_iloadn (j := 2) dX12_suggests_124 rfl ?_
  refine s_aloadn (j := 0) dX12_suggests_125 rfl ?_
  refine s_getI (k := 17) cls_13 (by decide) rfl dX12_suggests_126 w_1365 rfl (fun x18 => ?_)
  refine s_icmp_ge (tgt := 149) dX12_suggests_129 (by decide) ?_ ?_
  · exact Sim.sub [0] rfl (sim_X12_suggests_b149 l v0)
  · refine s_aloadn (j := 0) dX12_suggests_132 rfl ?_
    refine s_iloadn (j := 1) dX12_suggests_133 rfl ?_
    refine s_aloadn (j := 0) dX12_suggests_134 rfl ?_
    refine s_getR (k := 18) cls_13 (by decide) rfl dX12_suggests_135 w_1366 rfl (fun x19 => ?_)
    refine s_iloadn (j := 2) dX12_suggests_138 rfl ?_
    refine s_lald dX12_suggests_139 (fun x20 => ?_)
    refine s_cVV (rest := []) (met_X12_offers l v0 v1 x20) cls_13 mth_X12_offers rfl dX12_suggests_140 w_1733 w_1735 wp_69 ⟨Nat.le_of_ble_eq_true rfl, Nat.le_of_ble_eq_true rfl⟩ (Nat.le_of_ble_eq_true rfl) rfl ?_
    refine s_n0 (fun y21 hy21 => ?_)
    refine s_iinc (j := 2) (v := y21) (d := 1) (lv' := [(2, .inl y21), (0, .inr (.inr v0)), (1, .inl v1)]) dX12_suggests_143 rfl (by decide) hy21 (Nat.le_of_ble_eq_true rfl) rfl ?_
    refine s_goto (tgt := 124) dX12_suggests_146 (by decide) ?_
    exact Sim.sub [1, 2, 0] rfl (hr124 v0 v1 y21)
theorem sim_X12_suggests_l124 (l : Launch) : ∀ (n : Nat) (v0 : Option Nat) (v1 : Int32) (v2 : Int32), Sim (M_X12_suggests l) (zFin zcV) 124 [(0, .inr (.inr v0)), (1, .inl v1), (2, .inl v2)] [] (p_X12_suggests_l124 n v0 v1 v2)
  | 0, _, _, _ => s_fl
  | n + 1, v0, v1, v2 => sim_X12_suggests_c124 l (p_X12_suggests_l124 n) (sim_X12_suggests_l124 l n) v0 v1 v2
set_option maxRecDepth 20000 in
theorem sim_X12_suggests_b122 (l : Launch) (v0 : Option Nat) (v1 : Int32) : Sim (M_X12_suggests l) (zFin zcV) 122 [(0, .inr (.inr v0)), (1, .inl v1)] [] (p_X12_suggests_b122 v0 v1) := by
  unfold p_X12_suggests_b122
  refine s_iconst (v := 0) dX12_suggests_122 (by decide) ?_
  refine s_istoren (lv' := [(2, .inl 0), (0, .inr (.inr v0)), (1, .inl v1)]) dX12_suggests_123 (Nat.le_of_ble_eq_true rfl) rfl ?_
  exact Sim.sub [1, 2, 0] rfl (sim_X12_suggests_l124 l zFuel v0 v1 0)
set_option maxRecDepth 20000 in
theorem sim_X12_suggests_b116 (l : Launch) (r63 : Option Nat → Int32 → Int32 → ZM Unit) (hr63 : ∀ (v0 : Option Nat) (v1 : Int32) (v2 : Int32), Sim (M_X12_suggests l) (zFin zcV) 63 [(0, .inr (.inr v0)), (1, .inl v1), (2, .inl v2)] [] (r63 v0 v1 v2)) (v0 : Option Nat) (v1 : Int32) (v2 : Int32) : Sim (M_X12_suggests l) (zFin zcV) 116 [(0, .inr (.inr v0)), (1, .inl v1), (2, .inl v2)] [] (p_X12_suggests_b116 r63 v0 v1 v2) := by
  unfold p_X12_suggests_b116
  refine s_n0 (fun y22 hy22 => ?_)
  refine s_iinc (j := 2) (v := y22) (d := 1) (lv' := [(2, .inl y22), (0, .inr (.inr v0)), (1, .inl v1)]) dX12_suggests_116 rfl (by decide) hy22 (Nat.le_of_ble_eq_true rfl) rfl ?_
  refine s_goto (tgt := 63) dX12_suggests_119 (by decide) ?_
  exact Sim.sub [1, 2, 0] rfl (hr63 v0 v1 y22)
set_option maxRecDepth 20000 in
theorem sim_X12_suggests_c63 (l : Launch) (r63 : Option Nat → Int32 → Int32 → ZM Unit) (hr63 : ∀ (v0 : Option Nat) (v1 : Int32) (v2 : Int32), Sim (M_X12_suggests l) (zFin zcV) 63 [(0, .inr (.inr v0)), (1, .inl v1), (2, .inl v2)] [] (r63 v0 v1 v2)) (v0 : Option Nat) (v1 : Int32) (v2 : Int32) : Sim (M_X12_suggests l) (zFin zcV) 63 [(0, .inr (.inr v0)), (1, .inl v1), (2, .inl v2)] [] (p_X12_suggests_c63 r63 v0 v1 v2) := by
  unfold p_X12_suggests_c63
  refine s_iloadn (j := 2) dX12_suggests_63 rfl ?_
  refine s_sipush (v := 16384) dX12_suggests_64 (by decide) ?_
  refine s_icmp_ge (tgt := 122) dX12_suggests_67 (by decide) ?_ ?_
  · exact Sim.sub [0, 1] rfl (sim_X12_suggests_b122 l v0 v1)
  · refine s_aloadn (j := 0) dX12_suggests_70 rfl ?_
    refine s_getR (k := 36) cls_13 (by decide) rfl dX12_suggests_71 w_1384 rfl (fun x23 => ?_)
    refine s_iloadn (j := 2) dX12_suggests_74 rfl ?_
    refine s_lald dX12_suggests_75 (fun x24 => ?_)
    refine s_lconst (v := 0) dX12_suggests_76 (by decide) ?_
    refine s_lcmp dX12_suggests_77 ?_
    refine s_if_eq (tgt := 116) dX12_suggests_78 (by decide) ?_ ?_
    · exact Sim.sub [0, 1, 2] rfl (sim_X12_suggests_b116 l r63 hr63 v0 v1 v2)
    · refine s_aloadn (j := 0) dX12_suggests_81 rfl ?_
      refine s_getR (k := 39) cls_13 (by decide) rfl dX12_suggests_82 w_1387 rfl (fun x25 => ?_)
      refine s_iloadn (j := 2) dX12_suggests_85 rfl ?_
      refine s_iald dX12_suggests_86 (fun x26 => ?_)
      refine s_iconst (v := 1) dX12_suggests_87 (by decide) ?_
      refine s_icmp_ne (tgt := 116) dX12_suggests_88 (by decide) ?_ ?_
      · exact Sim.sub [0, 1, 2] rfl (sim_X12_suggests_b116 l r63 hr63 v0 v1 v2)
      · refine s_aloadn (j := 0) dX12_suggests_91 rfl ?_
        refine s_aloadn (j := 0) dX12_suggests_92 rfl ?_
        refine s_getR (k := 36) cls_13 (by decide) rfl dX12_suggests_93 w_1384 rfl (fun x27 => ?_)
        refine s_iloadn (j := 2) dX12_suggests_96 rfl ?_
        refine s_lald dX12_suggests_97 (fun x28 => ?_)
        refine s_cVI (rest := []) (met_X12_ownOf l v0 x28) cls_13 mth_X12_ownOf rfl dX12_suggests_98 w_1565 w_1567 wp_41 ⟨Nat.le_of_ble_eq_true rfl, Nat.le_of_ble_eq_true rfl⟩ (Nat.le_of_ble_eq_true rfl) rfl (fun x29 => ?_)
        refine s_iconst (v := (-1)) dX12_suggests_101 (by decide) ?_
        refine s_icmp_ne (tgt := 116) dX12_suggests_102 (by decide) ?_ ?_
        · exact Sim.sub [0, 1, 2] rfl (sim_X12_suggests_b116 l r63 hr63 v0 v1 v2)
        · refine s_aloadn (j := 0) dX12_suggests_105 rfl ?_
          refine s_iloadn (j := 1) dX12_suggests_106 rfl ?_
          refine s_aloadn (j := 0) dX12_suggests_107 rfl ?_
          refine s_getR (k := 36) cls_13 (by decide) rfl dX12_suggests_108 w_1384 rfl (fun x30 => ?_)
          refine s_iloadn (j := 2) dX12_suggests_111 rfl ?_
          refine s_lald dX12_suggests_112 (fun x31 => ?_)
          refine s_cVV (rest := []) (met_X12_offers l v0 v1 x31) cls_13 mth_X12_offers rfl dX12_suggests_113 w_1733 w_1735 wp_69 ⟨Nat.le_of_ble_eq_true rfl, Nat.le_of_ble_eq_true rfl⟩ (Nat.le_of_ble_eq_true rfl) rfl ?_
          exact Sim.sub [0, 1, 2] rfl (sim_X12_suggests_b116 l r63 hr63 v0 v1 v2)
theorem sim_X12_suggests_l63 (l : Launch) : ∀ (n : Nat) (v0 : Option Nat) (v1 : Int32) (v2 : Int32), Sim (M_X12_suggests l) (zFin zcV) 63 [(0, .inr (.inr v0)), (1, .inl v1), (2, .inl v2)] [] (p_X12_suggests_l63 n v0 v1 v2)
  | 0, _, _, _ => s_fl
  | n + 1, v0, v1, v2 => sim_X12_suggests_c63 l (p_X12_suggests_l63 n) (sim_X12_suggests_l63 l n) v0 v1 v2
set_option maxRecDepth 20000 in
theorem sim_X12_suggests_b61 (l : Launch) (v0 : Option Nat) (v1 : Int32) : Sim (M_X12_suggests l) (zFin zcV) 61 [(0, .inr (.inr v0)), (1, .inl v1)] [] (p_X12_suggests_b61 v0 v1) := by
  unfold p_X12_suggests_b61
  refine s_iconst (v := 0) dX12_suggests_61 (by decide) ?_
  refine s_istoren (lv' := [(2, .inl 0), (0, .inr (.inr v0)), (1, .inl v1)]) dX12_suggests_62 (Nat.le_of_ble_eq_true rfl) rfl ?_
  exact Sim.sub [1, 2, 0] rfl (sim_X12_suggests_l63 l zFuel v0 v1 0)
set_option maxRecDepth 20000 in
theorem sim_X12_suggests_c19 (l : Launch) (r19 : Option Nat → Int32 → Int32 → ZM Unit) (hr19 : ∀ (v0 : Option Nat) (v1 : Int32) (v2 : Int32), Sim (M_X12_suggests l) (zFin zcV) 19 [(0, .inr (.inr v0)), (1, .inl v1), (2, .inl v2)] [] (r19 v0 v1 v2)) (v0 : Option Nat) (v1 : Int32) (v2 : Int32) : Sim (M_X12_suggests l) (zFin zcV) 19 [(0, .inr (.inr v0)), (1, .inl v1), (2, .inl v2)] [] (p_X12_suggests_c19 r19 v0 v1 v2) := by
  unfold p_X12_suggests_c19
  refine s_iloadn (j := 2) dX12_suggests_19 rfl ?_
  refine s_aloadn (j := 0) dX12_suggests_20 rfl ?_
  refine s_getR (k := 42) cls_13 (by decide) rfl dX12_suggests_21 w_1390 rfl (fun x32 => ?_)
  refine s_iloadn (j := 1) dX12_suggests_24 rfl ?_
  refine s_iald dX12_suggests_25 (fun x33 => ?_)
  refine s_icmp_ge (tgt := 61) dX12_suggests_26 (by decide) ?_ ?_
  · exact Sim.sub [0, 1] rfl (sim_X12_suggests_b61 l v0 v1)
  · refine s_aloadn (j := 0) dX12_suggests_29 rfl ?_
    refine s_getR (k := 51) cls_13 (by decide) rfl dX12_suggests_30 w_1399 rfl (fun x34 => ?_)
    refine s_iloadn (j := 2) dX12_suggests_33 rfl ?_
    refine s_iconst (v := 1) dX12_suggests_34 (by decide) ?_
    refine s_iadd dX12_suggests_35 ?_
    refine s_aloadn (j := 0) dX12_suggests_36 rfl ?_
    refine s_getR (k := 33) cls_13 (by decide) rfl dX12_suggests_37 w_1381 rfl (fun x35 => ?_)
    refine s_aloadn (j := 0) dX12_suggests_40 rfl ?_
    refine s_getR (k := 41) cls_13 (by decide) rfl dX12_suggests_41 w_1389 rfl (fun x36 => ?_)
    refine s_iloadn (j := 1) dX12_suggests_44 rfl ?_
    refine s_iald dX12_suggests_45 (fun x37 => ?_)
    refine s_iloadn (j := 2) dX12_suggests_46 rfl ?_
    refine s_iadd dX12_suggests_47 ?_
    refine s_iald dX12_suggests_48 (fun x38 => ?_)
    refine s_bipush (v := 97) dX12_suggests_49 (by decide) ?_
    refine s_isub dX12_suggests_51 ?_
    refine s_iconst (v := 1) dX12_suggests_52 (by decide) ?_
    refine s_iadd dX12_suggests_53 ?_
    refine s_iast dX12_suggests_54 ?_
    refine s_n0 (fun y39 hy39 => ?_)
    refine s_iinc (j := 2) (v := y39) (d := 1) (lv' := [(2, .inl y39), (0, .inr (.inr v0)), (1, .inl v1)]) dX12_suggests_55 rfl (by decide) hy39 (Nat.le_of_ble_eq_true rfl) rfl ?_
    refine s_goto (tgt := 19) dX12_suggests_58 (by decide) ?_
    exact Sim.sub [1, 2, 0] rfl (hr19 v0 v1 y39)
theorem sim_X12_suggests_l19 (l : Launch) : ∀ (n : Nat) (v0 : Option Nat) (v1 : Int32) (v2 : Int32), Sim (M_X12_suggests l) (zFin zcV) 19 [(0, .inr (.inr v0)), (1, .inl v1), (2, .inl v2)] [] (p_X12_suggests_l19 n v0 v1 v2)
  | 0, _, _, _ => s_fl
  | n + 1, v0, v1, v2 => sim_X12_suggests_c19 l (p_X12_suggests_l19 n) (sim_X12_suggests_l19 l n) v0 v1 v2
set_option maxRecDepth 20000 in
theorem sim_X12_suggests (l : Launch) (v0 : Option Nat) (v1 : Int32) : Sim (M_X12_suggests l) (zFin zcV) 0 [(0, .inr (.inr v0)), (1, .inl v1)] [] (p_X12_suggests v0 v1) := by
  unfold p_X12_suggests
  refine s_aloadn (j := 0) dX12_suggests_0 rfl ?_
  refine s_iconst (v := 0) dX12_suggests_1 (by decide) ?_
  refine s_putI (k := 52) cls_13 (by decide) rfl rfl rfl dX12_suggests_2 w_1400 rfl ?_
  refine s_aloadn (j := 0) dX12_suggests_5 rfl ?_
  refine s_getR (k := 42) cls_13 (by decide) rfl dX12_suggests_6 w_1390 rfl (fun x40 => ?_)
  refine s_iloadn (j := 1) dX12_suggests_9 rfl ?_
  refine s_iald dX12_suggests_10 (fun x41 => ?_)
  refine s_bipush (v := 12) dX12_suggests_11 (by decide) ?_
  refine s_icmp_le (tgt := 17) dX12_suggests_13 (by decide) ?_ ?_
  · refine s_iconst (v := 0) dX12_suggests_17 (by decide) ?_
    refine s_istoren (lv' := [(2, .inl 0), (0, .inr (.inr v0)), (1, .inl v1)]) dX12_suggests_18 (Nat.le_of_ble_eq_true rfl) rfl ?_
    exact Sim.sub [1, 2, 0] rfl (sim_X12_suggests_l19 l zFuel v0 v1 0)
  · exact s_vret dX12_suggests_16 rfl
theorem met_X12_suggests (l : Launch) (v0 : Option Nat) (v1 : Int32) : zMet l yX12_suggests cX12_suggests 8 none 3 80 [.inr (.inr v0), .inl v1] zcV (p_X12_suggests v0 v1) :=
  zMet.of (by decide +kernel) (Nat.le_of_ble_eq_true rfl) rfl (sim_X12_suggests l v0 v1)
def p_X12_changes_b135 (v0 : Option Nat) (v4 : Int32) : ZM Int32 :=
  z_b (z_gI 13 32 v0) fun x1 => z_b (z_pI 13 32 v0 (x1 + v4)) fun _ => z_rz 1
def p_X12_changes_c85 (r85 : Option Nat → Int32 → Int64 → Int32 → Int32 → ZM Int32) (v0 : Option Nat) (v1 : Int32) (v2 : Int64) (v4 : Int32) (v6 : Int32) : ZM Int32 :=
  z_b (p_X12_lengthOf v2) fun x2 => if x2 ≤ v6 then (p_X12_changes_b135 v0 v4)
  else (z_b (z_gR 13 33 v0) fun x3 => z_b (z_gR 13 41 v0) fun x4 => z_b (z_aI x4 v1) fun x5 => z_b (p_X12_lengthOf v2) fun x6 => z_b (z_sI x3 (x5 + v6) (96 + (Int64.toInt32 ((v2 >>> (Int32.toInt64 (4 * ((x6 - 1) - v6)) &&& 63)) &&& 15)))) fun _ => z_n (v6 + 1 : Int32) fun y7 => r85 v0 v1 v2 v4 y7)
def p_X12_changes_l85 : Nat → Option Nat → Int32 → Int64 → Int32 → Int32 → ZM Int32
  | 0, _, _, _, _, _ => z_fl
  | n + 1, v0, v1, v2, v4, v6 => p_X12_changes_c85 (p_X12_changes_l85 n) v0 v1 v2 v4 v6
def p_X12_changes_b82 (v0 : Option Nat) (v1 : Int32) (v2 : Int64) (v4 : Int32) : ZM Int32 :=
  p_X12_changes_l85 zFuel v0 v1 v2 v4 0
def p_X12_changes_c50 (r50 : Option Nat → Int32 → Int64 → Int32 → Int32 → ZM Int32) (v0 : Option Nat) (v1 : Int32) (v2 : Int64) (v4 : Int32) (v6 : Int32) : ZM Int32 :=
  z_b (z_gI 13 56 v0) fun x8 => if x8 ≤ v6 then (p_X12_changes_b82 v0 v1 v2 v4)
  else (z_b (z_gR 13 33 v0) fun x9 => z_b (z_gR 13 55 v0) fun x10 => z_b (z_aI x10 v6) fun x11 => z_b (z_sI x9 (v6 + v4) x11) fun _ => z_n (v6 + 1 : Int32) fun y12 => r50 v0 v1 v2 v4 y12)
def p_X12_changes_l50 : Nat → Option Nat → Int32 → Int64 → Int32 → Int32 → ZM Int32
  | 0, _, _, _, _, _ => z_fl
  | n + 1, v0, v1, v2, v4, v6 => p_X12_changes_c50 (p_X12_changes_l50 n) v0 v1 v2 v4 v6
def p_X12_changes (v0 : Option Nat) (v1 : Int32) (v2 : Int64) : ZM Int32 :=
  z_b (p_X12_lengthOf v2) fun x13 => z_b (z_gR 13 42 v0) fun x14 => z_b (z_aI x14 v1) fun x15 => z_n ((x13 - x15) : Int32) fun y16 => z_b (z_gI 13 32 v0) fun x17 => if (x17 + y16) ≤ 100 then (z_b (z_vr 13 v0 (p_X12_remembers v0)) fun _ => z_b (z_gR 13 41 v0) fun x18 => z_b (z_aI x18 v1) fun x19 => z_b (z_gR 13 42 v0) fun x20 => z_b (z_aI x20 v1) fun x21 => z_n ((x19 + x21) : Int32) fun y22 => p_X12_changes_l50 zFuel v0 v1 v2 y16 y22)
  else (z_rz 0)
abbrev M_X12_changes (l : Launch) : ZMe := (l, "SpellScribeModel", cX12_changes, 7, 1, 24, (some .boolean), "changes", [])
set_option maxRecDepth 20000 in
theorem sim_X12_changes_b135 (l : Launch) (v0 : Option Nat) (v4 : Int32) : Sim (M_X12_changes l) (zFin zcI) 135 [(0, .inr (.inr v0)), (4, .inl v4)] [] (p_X12_changes_b135 v0 v4) := by
  unfold p_X12_changes_b135
  refine s_aloadn (j := 0) dX12_changes_135 rfl ?_
  refine s_dupR dX12_changes_136 ?_
  refine s_getI (k := 32) cls_13 (by decide) rfl dX12_changes_137 w_1380 rfl (fun x1 => ?_)
  refine s_iload (j := 1) dX12_changes_140 rfl ?_
  refine s_iadd dX12_changes_142 ?_
  refine s_putI (k := 32) cls_13 (by decide) rfl rfl rfl dX12_changes_143 w_1380 rfl ?_
  refine s_iconst (v := 1) dX12_changes_146 (by decide) ?_
  exact s_zret dX12_changes_147 rfl
set_option maxRecDepth 20000 in
theorem sim_X12_changes_c85 (l : Launch) (r85 : Option Nat → Int32 → Int64 → Int32 → Int32 → ZM Int32) (hr85 : ∀ (v0 : Option Nat) (v1 : Int32) (v2 : Int64) (v4 : Int32) (v6 : Int32), Sim (M_X12_changes l) (zFin zcI) 85 [(0, .inr (.inr v0)), (1, .inl v1), (2, .inr (.inl v2)), (4, .inl v4), (6, .inl v6)] [] (r85 v0 v1 v2 v4 v6)) (v0 : Option Nat) (v1 : Int32) (v2 : Int64) (v4 : Int32) (v6 : Int32) : Sim (M_X12_changes l) (zFin zcI) 85 [(0, .inr (.inr v0)), (1, .inl v1), (2, .inr (.inl v2)), (4, .inl v4), (6, .inl v6)] [] (p_X12_changes_c85 r85 v0 v1 v2 v4 v6) := by
  unfold p_X12_changes_c85
  refine s_iload (j := 4) dX12_changes_85 rfl ?_
  refine s_lloadn (j := 2) dX12_changes_87 rfl ?_
  refine s_cSI (rest := [.inl v6]) (met_X12_lengthOf l v2) mth_X12_lengthOf rfl dX12_changes_88 w_1538 w_1539 ⟨Nat.le_of_ble_eq_true rfl, Nat.le_of_ble_eq_true rfl⟩ (Nat.le_of_ble_eq_true rfl) rfl (fun x2 => ?_)
  refine s_icmp_ge (tgt := 135) dX12_changes_91 (by decide) ?_ ?_
  · exact Sim.sub [0, 3] rfl (sim_X12_changes_b135 l v0 v4)
  · refine s_aloadn (j := 0) dX12_changes_94 rfl ?_
    refine s_getR (k := 33) cls_13 (by decide) rfl dX12_changes_95 w_1381 rfl (fun x3 => ?_)
    refine s_aloadn (j := 0) dX12_changes_98 rfl ?_
    refine s_getR (k := 41) cls_13 (by decide) rfl dX12_changes_99 w_1389 rfl (fun x4 => ?_)
    refine s_iloadn (j := 1) dX12_changes_102 rfl ?_
    refine s_iald dX12_changes_103 (fun x5 => ?_)
    refine s_iload (j := 4) dX12_changes_104 rfl ?_
    refine s_iadd dX12_changes_106 ?_
    refine s_bipush (v := 96) dX12_changes_107 (by decide) ?_
    refine s_lloadn (j := 2) dX12_changes_109 rfl ?_
    refine s_iconst (v := 4) dX12_changes_110 (by decide) ?_
    refine s_lloadn (j := 2) dX12_changes_111 rfl ?_
    refine s_cSI (rest := [.inl 4, .inr (.inl v2), .inl 96, .inl (x5 + v6), .inr (.inr x3)]) (met_X12_lengthOf l v2) mth_X12_lengthOf rfl dX12_changes_112 w_1538 w_1539 ⟨Nat.le_of_ble_eq_true rfl, Nat.le_of_ble_eq_true rfl⟩ (Nat.le_of_ble_eq_true rfl) rfl (fun x6 => ?_)
    refine s_iconst (v := 1) dX12_changes_115 (by decide) ?_
    refine s_isub dX12_changes_116 ?_
    refine s_iload (j := 4) dX12_changes_117 rfl ?_
    refine s_isub dX12_changes_119 ?_
    refine s_imul dX12_changes_120 ?_
    refine s_lshr dX12_changes_121 ?_
    refine s_ldc2 (v := 15) dX12_changes_122 w_1618 ?_
    refine s_land dX12_changes_125 ?_
    refine s_l2i dX12_changes_126 ?_
    refine s_iadd dX12_changes_127 ?_
    refine s_iast dX12_changes_128 ?_
    refine s_n0 (fun y7 hy7 => ?_)
    refine s_iinc (j := 4) (v := y7) (d := 1) (lv' := [(6, .inl y7), (0, .inr (.inr v0)), (1, .inl v1), (2, .inr (.inl v2)), (4, .inl v4)]) dX12_changes_129 rfl (by decide) hy7 (Nat.le_of_ble_eq_true rfl) rfl ?_
    refine s_goto (tgt := 85) dX12_changes_132 (by decide) ?_
    exact Sim.sub [1, 2, 3, 4, 0] rfl (hr85 v0 v1 v2 v4 y7)
theorem sim_X12_changes_l85 (l : Launch) : ∀ (n : Nat) (v0 : Option Nat) (v1 : Int32) (v2 : Int64) (v4 : Int32) (v6 : Int32), Sim (M_X12_changes l) (zFin zcI) 85 [(0, .inr (.inr v0)), (1, .inl v1), (2, .inr (.inl v2)), (4, .inl v4), (6, .inl v6)] [] (p_X12_changes_l85 n v0 v1 v2 v4 v6)
  | 0, _, _, _, _, _ => s_fl
  | n + 1, v0, v1, v2, v4, v6 => sim_X12_changes_c85 l (p_X12_changes_l85 n) (sim_X12_changes_l85 l n) v0 v1 v2 v4 v6
set_option maxRecDepth 20000 in
theorem sim_X12_changes_b82 (l : Launch) (v0 : Option Nat) (v1 : Int32) (v2 : Int64) (v4 : Int32) : Sim (M_X12_changes l) (zFin zcI) 82 [(0, .inr (.inr v0)), (1, .inl v1), (2, .inr (.inl v2)), (4, .inl v4)] [] (p_X12_changes_b82 v0 v1 v2 v4) := by
  unfold p_X12_changes_b82
  refine s_iconst (v := 0) dX12_changes_82 (by decide) ?_
  refine s_istore (lv' := [(6, .inl 0), (0, .inr (.inr v0)), (1, .inl v1), (2, .inr (.inl v2)), (4, .inl v4)]) dX12_changes_83 (Nat.le_of_ble_eq_true rfl) rfl ?_
  exact Sim.sub [1, 2, 3, 4, 0] rfl (sim_X12_changes_l85 l zFuel v0 v1 v2 v4 0)
set_option maxRecDepth 20000 in
theorem sim_X12_changes_c50 (l : Launch) (r50 : Option Nat → Int32 → Int64 → Int32 → Int32 → ZM Int32) (hr50 : ∀ (v0 : Option Nat) (v1 : Int32) (v2 : Int64) (v4 : Int32) (v6 : Int32), Sim (M_X12_changes l) (zFin zcI) 50 [(0, .inr (.inr v0)), (1, .inl v1), (2, .inr (.inl v2)), (4, .inl v4), (6, .inl v6)] [] (r50 v0 v1 v2 v4 v6)) (v0 : Option Nat) (v1 : Int32) (v2 : Int64) (v4 : Int32) (v6 : Int32) : Sim (M_X12_changes l) (zFin zcI) 50 [(0, .inr (.inr v0)), (1, .inl v1), (2, .inr (.inl v2)), (4, .inl v4), (6, .inl v6)] [] (p_X12_changes_c50 r50 v0 v1 v2 v4 v6) := by
  unfold p_X12_changes_c50
  refine s_iload (j := 4) dX12_changes_50 rfl ?_
  refine s_aloadn (j := 0) dX12_changes_52 rfl ?_
  refine s_getI (k := 56) cls_13 (by decide) rfl dX12_changes_53 w_1404 rfl (fun x8 => ?_)
  refine s_icmp_ge (tgt := 82) dX12_changes_56 (by decide) ?_ ?_
  · exact Sim.sub [0, 1, 2, 3] rfl (sim_X12_changes_b82 l v0 v1 v2 v4)
  · refine s_aloadn (j := 0) dX12_changes_59 rfl ?_
    refine s_getR (k := 33) cls_13 (by decide) rfl dX12_changes_60 w_1381 rfl (fun x9 => ?_)
    refine s_iload (j := 4) dX12_changes_63 rfl ?_
    refine s_iload (j := 3) dX12_changes_65 rfl ?_
    refine s_iadd dX12_changes_67 ?_
    refine s_aloadn (j := 0) dX12_changes_68 rfl ?_
    refine s_getR (k := 55) cls_13 (by decide) rfl dX12_changes_69 w_1403 rfl (fun x10 => ?_)
    refine s_iload (j := 4) dX12_changes_72 rfl ?_
    refine s_iald dX12_changes_74 (fun x11 => ?_)
    refine s_iast dX12_changes_75 ?_
    refine s_n0 (fun y12 hy12 => ?_)
    refine s_iinc (j := 4) (v := y12) (d := 1) (lv' := [(6, .inl y12), (0, .inr (.inr v0)), (1, .inl v1), (2, .inr (.inl v2)), (4, .inl v4)]) dX12_changes_76 rfl (by decide) hy12 (Nat.le_of_ble_eq_true rfl) rfl ?_
    refine s_goto (tgt := 50) dX12_changes_79 (by decide) ?_
    exact Sim.sub [1, 2, 3, 4, 0] rfl (hr50 v0 v1 v2 v4 y12)
theorem sim_X12_changes_l50 (l : Launch) : ∀ (n : Nat) (v0 : Option Nat) (v1 : Int32) (v2 : Int64) (v4 : Int32) (v6 : Int32), Sim (M_X12_changes l) (zFin zcI) 50 [(0, .inr (.inr v0)), (1, .inl v1), (2, .inr (.inl v2)), (4, .inl v4), (6, .inl v6)] [] (p_X12_changes_l50 n v0 v1 v2 v4 v6)
  | 0, _, _, _, _, _ => s_fl
  | n + 1, v0, v1, v2, v4, v6 => sim_X12_changes_c50 l (p_X12_changes_l50 n) (sim_X12_changes_l50 l n) v0 v1 v2 v4 v6
set_option maxRecDepth 20000 in
theorem sim_X12_changes (l : Launch) (v0 : Option Nat) (v1 : Int32) (v2 : Int64) : Sim (M_X12_changes l) (zFin zcI) 0 [(0, .inr (.inr v0)), (1, .inl v1), (2, .inr (.inl v2))] [] (p_X12_changes v0 v1 v2) := by
  unfold p_X12_changes
  refine s_lloadn (j := 2) dX12_changes_0 rfl ?_
  refine s_cSI (rest := []) (met_X12_lengthOf l v2) mth_X12_lengthOf rfl dX12_changes_1 w_1538 w_1539 ⟨Nat.le_of_ble_eq_true rfl, Nat.le_of_ble_eq_true rfl⟩ (Nat.le_of_ble_eq_true rfl) rfl (fun x13 => ?_)
  refine s_aloadn (j := 0) dX12_changes_4 rfl ?_
  refine s_getR (k := 42) cls_13 (by decide) rfl dX12_changes_5 w_1390 rfl (fun x14 => ?_)
  refine s_iloadn (j := 1) dX12_changes_8 rfl ?_
  refine s_iald dX12_changes_9 (fun x15 => ?_)
  refine s_isub dX12_changes_10 ?_
  refine s_nI (fun y16 => ?_)
  refine s_istore (lv' := [(4, .inl y16), (0, .inr (.inr v0)), (1, .inl v1), (2, .inr (.inl v2))]) dX12_changes_11 (Nat.le_of_ble_eq_true rfl) rfl ?_
  refine s_aloadn (j := 1) dX12_changes_13 rfl ?_
  refine s_getI (k := 32) cls_13 (by decide) rfl dX12_changes_14 w_1380 rfl (fun x17 => ?_)
  refine s_iload (j := 0) dX12_changes_17 rfl ?_
  refine s_iadd dX12_changes_19 ?_
  refine s_bipush (v := 100) dX12_changes_20 (by decide) ?_
  refine s_icmp_le (tgt := 27) dX12_changes_22 (by decide) ?_ ?_
  · refine s_aloadn (j := 1) dX12_changes_27 rfl ?_
    refine s_cVV (rest := []) (met_X12_remembers l v0) cls_13 mth_X12_remembers rfl dX12_changes_28 w_1698 w_1700 wp_63 ⟨Nat.le_of_ble_eq_true rfl, Nat.le_of_ble_eq_true rfl⟩ (Nat.le_of_ble_eq_true rfl) rfl ?_
    refine s_aloadn (j := 1) dX12_changes_31 rfl ?_
    refine s_getR (k := 41) cls_13 (by decide) rfl dX12_changes_32 w_1389 rfl (fun x18 => ?_)
    refine s_iloadn (j := 2) dX12_changes_35 rfl ?_
    refine s_iald dX12_changes_36 (fun x19 => ?_)
    refine s_aloadn (j := 1) dX12_changes_37 rfl ?_
    refine s_getR (k := 42) cls_13 (by decide) rfl dX12_changes_38 w_1390 rfl (fun x20 => ?_)
    refine s_iloadn (j := 2) dX12_changes_41 rfl ?_
    refine s_iald dX12_changes_42 (fun x21 => ?_)
    refine s_iadd dX12_changes_43 ?_
    refine s_nI (fun y22 => ?_)
    refine s_istore (lv' := [(5, .inl y22), (4, .inl y16), (0, .inr (.inr v0)), (1, .inl v1), (2, .inr (.inl v2))]) dX12_changes_44 (Nat.le_of_ble_eq_true rfl) rfl ?_
    refine s_iload (j := 0) dX12_changes_46 rfl ?_
    refine s_istore (lv' := [(6, .inl y22), (5, .inl y22), (4, .inl y16), (0, .inr (.inr v0)), (1, .inl v1), (2, .inr (.inl v2))]) dX12_changes_48 (Nat.le_of_ble_eq_true rfl) rfl ?_
    exact Sim.sub [3, 4, 5, 2, 0] rfl (sim_X12_changes_l50 l zFuel v0 v1 v2 y16 y22)
  · refine s_iconst (v := 0) dX12_changes_25 (by decide) ?_
    exact s_zret dX12_changes_26 rfl
theorem met_X12_changes (l : Launch) (v0 : Option Nat) (v1 : Int32) (v2 : Int64) : zMet l yX12_changes cX12_changes 7 (some .boolean) 1 24 [.inr (.inr v0), .inl v1, .inr (.inl v2)] zcI (p_X12_changes v0 v1 v2) :=
  zMet.of (by decide +kernel) (Nat.le_of_ble_eq_true rfl) rfl (sim_X12_changes l v0 v1 v2)
def p_X12_correctsOnce_b72 (v0 : Option Nat) (v1 : Int32) : ZM Int32 :=
  z_b (z_gR 13 30 v0) fun x1 => z_b (z_gR 13 48 v0) fun x2 => z_b (z_aI x2 v1) fun x3 => z_b (z_aI x1 (x3 - 1)) fun x4 => z_b (z_gR 13 31 v0) fun x5 => z_b (z_gR 13 48 v0) fun x6 => z_b (z_aI x6 v1) fun x7 => z_b (z_aL x5 (x7 - 1)) fun x8 => z_b (z_vr 13 v0 (p_X12_changes v0 (v1 + x4) x8)) fun x9 => z_rz x9
def p_X12_correctsOnce_c55 (r55 : Option Nat → Int32 → ZM Int32) (v0 : Option Nat) (v1 : Int32) : ZM Int32 :=
  z_b (z_gI 13 40 v0) fun x10 => if x10 ≤ v1 then (z_rz 0)
  else (z_b (z_gR 13 48 v0) fun x11 => z_b (z_aI x11 v1) fun x12 => if x12 ≤ 0 then (z_n (v1 + 1 : Int32) fun y13 => r55 v0 y13)
  else (p_X12_correctsOnce_b72 v0 v1))
def p_X12_correctsOnce_l55 : Nat → Option Nat → Int32 → ZM Int32
  | 0, _, _ => z_fl
  | n + 1, v0, v1 => p_X12_correctsOnce_c55 (p_X12_correctsOnce_l55 n) v0 v1
def p_X12_correctsOnce_b53 (v0 : Option Nat) : ZM Int32 :=
  p_X12_correctsOnce_l55 zFuel v0 0
def p_X12_correctsOnce_b47 (r6 : Option Nat → Int32 → ZM Int32) (v0 : Option Nat) (v1 : Int32) : ZM Int32 :=
  z_n (v1 + 1 : Int32) fun y14 => r6 v0 y14
def p_X12_correctsOnce_b35 (v0 : Option Nat) (v1 : Int32) : ZM Int32 :=
  z_b (z_gR 13 53 v0) fun x15 => z_b (z_aL x15 0) fun x16 => z_b (z_vr 13 v0 (p_X12_changes v0 v1 x16)) fun x17 => z_rz x17
def p_X12_correctsOnce_c6 (r6 : Option Nat → Int32 → ZM Int32) (v0 : Option Nat) (v1 : Int32) : ZM Int32 :=
  z_b (z_gI 13 40 v0) fun x18 => if x18 ≤ v1 then (p_X12_correctsOnce_b53 v0)
  else (z_b (z_gR 13 45 v0) fun x19 => z_b (z_aI x19 v1) fun x20 => if ¬ x20 = 0 then (p_X12_correctsOnce_b47 r6 v0 v1)
  else (z_b (z_vr 13 v0 (p_X12_suggests v0 v1)) fun _ => z_b (z_gI 13 52 v0) fun x21 => if x21 ≤ 0 then (p_X12_correctsOnce_b47 r6 v0 v1)
  else (p_X12_correctsOnce_b35 v0 v1)))
def p_X12_correctsOnce_l6 : Nat → Option Nat → Int32 → ZM Int32
  | 0, _, _ => z_fl
  | n + 1, v0, v1 => p_X12_correctsOnce_c6 (p_X12_correctsOnce_l6 n) v0 v1
def p_X12_correctsOnce (v0 : Option Nat) : ZM Int32 :=
  z_b (z_vr 13 v0 (p_X12_reads v0)) fun _ => p_X12_correctsOnce_l6 zFuel v0 0
abbrev M_X12_correctsOnce (l : Launch) : ZMe := (l, "SpellScribeModel", cX12_correctsOnce, 2, 7, 180, (some .boolean), "correctsOnce", [])
set_option maxRecDepth 20000 in
theorem sim_X12_correctsOnce_b72 (l : Launch) (v0 : Option Nat) (v1 : Int32) : Sim (M_X12_correctsOnce l) (zFin zcI) 72 [(0, .inr (.inr v0)), (1, .inl v1)] [] (p_X12_correctsOnce_b72 v0 v1) := by
  unfold p_X12_correctsOnce_b72
  refine s_aloadn (j := 0) dX12_correctsOnce_72 rfl ?_
  refine s_iloadn (j := 1) dX12_correctsOnce_73 rfl ?_
  refine s_aloadn (j := 0) dX12_correctsOnce_74 rfl ?_
  refine s_getR (k := 30) cls_13 (by decide) rfl dX12_correctsOnce_75 w_1378 rfl (fun x1 => ?_)
  refine s_aloadn (j := 0) dX12_correctsOnce_78 rfl ?_
  refine s_getR (k := 48) cls_13 (by decide) rfl dX12_correctsOnce_79 w_1396 rfl (fun x2 => ?_)
  refine s_iloadn (j := 1) dX12_correctsOnce_82 rfl ?_
  refine s_iald dX12_correctsOnce_83 (fun x3 => ?_)
  refine s_iconst (v := 1) dX12_correctsOnce_84 (by decide) ?_
  refine s_isub dX12_correctsOnce_85 ?_
  refine s_iald dX12_correctsOnce_86 (fun x4 => ?_)
  refine s_iadd dX12_correctsOnce_87 ?_
  refine s_aloadn (j := 0) dX12_correctsOnce_88 rfl ?_
  refine s_getR (k := 31) cls_13 (by decide) rfl dX12_correctsOnce_89 w_1379 rfl (fun x5 => ?_)
  refine s_aloadn (j := 0) dX12_correctsOnce_92 rfl ?_
  refine s_getR (k := 48) cls_13 (by decide) rfl dX12_correctsOnce_93 w_1396 rfl (fun x6 => ?_)
  refine s_iloadn (j := 1) dX12_correctsOnce_96 rfl ?_
  refine s_iald dX12_correctsOnce_97 (fun x7 => ?_)
  refine s_iconst (v := 1) dX12_correctsOnce_98 (by decide) ?_
  refine s_isub dX12_correctsOnce_99 ?_
  refine s_lald dX12_correctsOnce_100 (fun x8 => ?_)
  refine s_cVI (rest := []) (met_X12_changes l v0 (v1 + x4) x8) cls_13 mth_X12_changes rfl dX12_correctsOnce_101 w_1751 w_1753 wp_72 ⟨Nat.le_of_ble_eq_true rfl, Nat.le_of_ble_eq_true rfl⟩ (Nat.le_of_ble_eq_true rfl) rfl (fun x9 => ?_)
  exact s_zret dX12_correctsOnce_104 rfl
set_option maxRecDepth 20000 in
theorem sim_X12_correctsOnce_c55 (l : Launch) (r55 : Option Nat → Int32 → ZM Int32) (hr55 : ∀ (v0 : Option Nat) (v1 : Int32), Sim (M_X12_correctsOnce l) (zFin zcI) 55 [(0, .inr (.inr v0)), (1, .inl v1)] [] (r55 v0 v1)) (v0 : Option Nat) (v1 : Int32) : Sim (M_X12_correctsOnce l) (zFin zcI) 55 [(0, .inr (.inr v0)), (1, .inl v1)] [] (p_X12_correctsOnce_c55 r55 v0 v1) := by
  unfold p_X12_correctsOnce_c55
  refine s_iloadn (j := 1) dX12_correctsOnce_55 rfl ?_
  refine s_aloadn (j := 0) dX12_correctsOnce_56 rfl ?_
  refine s_getI (k := 40) cls_13 (by decide) rfl dX12_correctsOnce_57 w_1388 rfl (fun x10 => ?_)
  refine s_icmp_ge (tgt := 111) dX12_correctsOnce_60 (by decide) ?_ ?_
  · refine s_iconst (v := 0) dX12_correctsOnce_111 (by decide) ?_
    exact s_zret dX12_correctsOnce_112 rfl
  · refine s_aloadn (j := 0) dX12_correctsOnce_63 rfl ?_
    refine s_getR (k := 48) cls_13 (by decide) rfl dX12_correctsOnce_64 w_1396 rfl (fun x11 => ?_)
    refine s_iloadn (j := 1) dX12_correctsOnce_67 rfl ?_
    refine s_iald dX12_correctsOnce_68 (fun x12 => ?_)
    refine s_if_le (tgt := 105) dX12_correctsOnce_69 (by decide) ?_ ?_
    · refine s_n0 (fun y13 hy13 => ?_)
      refine s_iinc (j := 1) (v := y13) (d := 1) (lv' := [(1, .inl y13), (0, .inr (.inr v0))]) dX12_correctsOnce_105 rfl (by decide) hy13 (Nat.le_of_ble_eq_true rfl) rfl ?_
      refine s_goto (tgt := 55) dX12_correctsOnce_108 (by decide) ?_
      exact Sim.sub [1, 0] rfl (hr55 v0 y13)
    · exact Sim.sub [0, 1] rfl (sim_X12_correctsOnce_b72 l v0 v1)
theorem sim_X12_correctsOnce_l55 (l : Launch) : ∀ (n : Nat) (v0 : Option Nat) (v1 : Int32), Sim (M_X12_correctsOnce l) (zFin zcI) 55 [(0, .inr (.inr v0)), (1, .inl v1)] [] (p_X12_correctsOnce_l55 n v0 v1)
  | 0, _, _ => s_fl
  | n + 1, v0, v1 => sim_X12_correctsOnce_c55 l (p_X12_correctsOnce_l55 n) (sim_X12_correctsOnce_l55 l n) v0 v1
set_option maxRecDepth 20000 in
theorem sim_X12_correctsOnce_b53 (l : Launch) (v0 : Option Nat) : Sim (M_X12_correctsOnce l) (zFin zcI) 53 [(0, .inr (.inr v0))] [] (p_X12_correctsOnce_b53 v0) := by
  unfold p_X12_correctsOnce_b53
  refine s_iconst (v := 0) dX12_correctsOnce_53 (by decide) ?_
  refine s_istoren (lv' := [(1, .inl 0), (0, .inr (.inr v0))]) dX12_correctsOnce_54 (Nat.le_of_ble_eq_true rfl) rfl ?_
  exact Sim.sub [1, 0] rfl (sim_X12_correctsOnce_l55 l zFuel v0 0)
set_option maxRecDepth 20000 in
theorem sim_X12_correctsOnce_b47 (l : Launch) (r6 : Option Nat → Int32 → ZM Int32) (hr6 : ∀ (v0 : Option Nat) (v1 : Int32), Sim (M_X12_correctsOnce l) (zFin zcI) 6 [(0, .inr (.inr v0)), (1, .inl v1)] [] (r6 v0 v1)) (v0 : Option Nat) (v1 : Int32) : Sim (M_X12_correctsOnce l) (zFin zcI) 47 [(0, .inr (.inr v0)), (1, .inl v1)] [] (p_X12_correctsOnce_b47 r6 v0 v1) := by
  unfold p_X12_correctsOnce_b47
  refine s_n0 (fun y14 hy14 => ?_)
  refine s_iinc (j := 1) (v := y14) (d := 1) (lv' := [(1, .inl y14), (0, .inr (.inr v0))]) dX12_correctsOnce_47 rfl (by decide) hy14 (Nat.le_of_ble_eq_true rfl) rfl ?_
  refine s_goto (tgt := 6) dX12_correctsOnce_50 (by decide) ?_
  exact Sim.sub [1, 0] rfl (hr6 v0 y14)
set_option maxRecDepth 20000 in
theorem sim_X12_correctsOnce_b35 (l : Launch) (v0 : Option Nat) (v1 : Int32) : Sim (M_X12_correctsOnce l) (zFin zcI) 35 [(0, .inr (.inr v0)), (1, .inl v1)] [] (p_X12_correctsOnce_b35 v0 v1) := by
  unfold p_X12_correctsOnce_b35
  refine s_aloadn (j := 0) dX12_correctsOnce_35 rfl ?_
  refine s_iloadn (j := 1) dX12_correctsOnce_36 rfl ?_
  refine s_aloadn (j := 0) dX12_correctsOnce_37 rfl ?_
  refine s_getR (k := 53) cls_13 (by decide) rfl dX12_correctsOnce_38 w_1401 rfl (fun x15 => ?_)
  refine s_iconst (v := 0) dX12_correctsOnce_41 (by decide) ?_
  refine s_lald dX12_correctsOnce_42 (fun x16 => ?_)
  refine s_cVI (rest := []) (met_X12_changes l v0 v1 x16) cls_13 mth_X12_changes rfl dX12_correctsOnce_43 w_1751 w_1753 wp_72 ⟨Nat.le_of_ble_eq_true rfl, Nat.le_of_ble_eq_true rfl⟩ (Nat.le_of_ble_eq_true rfl) rfl (fun x17 => ?_)
  exact s_zret dX12_correctsOnce_46 rfl
set_option maxRecDepth 20000 in
theorem sim_X12_correctsOnce_c6 (l : Launch) (r6 : Option Nat → Int32 → ZM Int32) (hr6 : ∀ (v0 : Option Nat) (v1 : Int32), Sim (M_X12_correctsOnce l) (zFin zcI) 6 [(0, .inr (.inr v0)), (1, .inl v1)] [] (r6 v0 v1)) (v0 : Option Nat) (v1 : Int32) : Sim (M_X12_correctsOnce l) (zFin zcI) 6 [(0, .inr (.inr v0)), (1, .inl v1)] [] (p_X12_correctsOnce_c6 r6 v0 v1) := by
  unfold p_X12_correctsOnce_c6
  refine s_iloadn (j := 1) dX12_correctsOnce_6 rfl ?_
  refine s_aloadn (j := 0) dX12_correctsOnce_7 rfl ?_
  refine s_getI (k := 40) cls_13 (by decide) rfl dX12_correctsOnce_8 w_1388 rfl (fun x18 => ?_)
  refine s_icmp_ge (tgt := 53) dX12_correctsOnce_11 (by decide) ?_ ?_
  · exact Sim.sub [0] rfl (sim_X12_correctsOnce_b53 l v0)
  · refine s_aloadn (j := 0) dX12_correctsOnce_14 rfl ?_
    refine s_getR (k := 45) cls_13 (by decide) rfl dX12_correctsOnce_15 w_1393 rfl (fun x19 => ?_)
    refine s_iloadn (j := 1) dX12_correctsOnce_18 rfl ?_
    refine s_iald dX12_correctsOnce_19 (fun x20 => ?_)
    refine s_if_ne (tgt := 47) dX12_correctsOnce_20 (by decide) ?_ ?_
    · exact Sim.sub [0, 1] rfl (sim_X12_correctsOnce_b47 l r6 hr6 v0 v1)
    · refine s_aloadn (j := 0) dX12_correctsOnce_23 rfl ?_
      refine s_iloadn (j := 1) dX12_correctsOnce_24 rfl ?_
      refine s_cVV (rest := []) (met_X12_suggests l v0 v1) cls_13 mth_X12_suggests rfl dX12_correctsOnce_25 w_1729 w_1731 wp_68 ⟨Nat.le_of_ble_eq_true rfl, Nat.le_of_ble_eq_true rfl⟩ (Nat.le_of_ble_eq_true rfl) rfl ?_
      refine s_aloadn (j := 0) dX12_correctsOnce_28 rfl ?_
      refine s_getI (k := 52) cls_13 (by decide) rfl dX12_correctsOnce_29 w_1400 rfl (fun x21 => ?_)
      refine s_if_le (tgt := 47) dX12_correctsOnce_32 (by decide) ?_ ?_
      · exact Sim.sub [0, 1] rfl (sim_X12_correctsOnce_b47 l r6 hr6 v0 v1)
      · exact Sim.sub [0, 1] rfl (sim_X12_correctsOnce_b35 l v0 v1)
theorem sim_X12_correctsOnce_l6 (l : Launch) : ∀ (n : Nat) (v0 : Option Nat) (v1 : Int32), Sim (M_X12_correctsOnce l) (zFin zcI) 6 [(0, .inr (.inr v0)), (1, .inl v1)] [] (p_X12_correctsOnce_l6 n v0 v1)
  | 0, _, _ => s_fl
  | n + 1, v0, v1 => sim_X12_correctsOnce_c6 l (p_X12_correctsOnce_l6 n) (sim_X12_correctsOnce_l6 l n) v0 v1
set_option maxRecDepth 20000 in
theorem sim_X12_correctsOnce (l : Launch) (v0 : Option Nat) : Sim (M_X12_correctsOnce l) (zFin zcI) 0 [(0, .inr (.inr v0))] [] (p_X12_correctsOnce v0) := by
  unfold p_X12_correctsOnce
  refine s_aloadn (j := 0) dX12_correctsOnce_0 rfl ?_
  refine s_cVV (rest := []) (met_X12_reads l v0) cls_13 mth_X12_reads rfl dX12_correctsOnce_1 w_1589 w_1591 wp_45 ⟨Nat.le_of_ble_eq_true rfl, Nat.le_of_ble_eq_true rfl⟩ (Nat.le_of_ble_eq_true rfl) rfl ?_
  refine s_iconst (v := 0) dX12_correctsOnce_4 (by decide) ?_
  refine s_istoren (lv' := [(1, .inl 0), (0, .inr (.inr v0))]) dX12_correctsOnce_5 (Nat.le_of_ble_eq_true rfl) rfl ?_
  exact Sim.sub [1, 0] rfl (sim_X12_correctsOnce_l6 l zFuel v0 0)
theorem met_X12_correctsOnce (l : Launch) (v0 : Option Nat) : zMet l yX12_correctsOnce cX12_correctsOnce 2 (some .boolean) 7 180 [.inr (.inr v0)] zcI (p_X12_correctsOnce v0) :=
  zMet.of (by decide +kernel) (Nat.le_of_ble_eq_true rfl) rfl (sim_X12_correctsOnce l v0)
def p_X12_keepsState_c15 (r15 : Option Nat → Int32 → Int32 → ZM Unit) (v0 : Option Nat) (v1 : Int32) (v2 : Int32) : ZM Unit :=
  z_b (z_gI 13 32 v0) fun x1 => if x1 ≤ v2 then (z_rt ())
  else (z_b (z_gR 13 57 v0) fun x2 => z_b (z_gR 13 33 v0) fun x3 => z_b (z_aI x3 v2) fun x4 => z_b (z_sI x2 (((101 * v1) + 1) + v2) x4) fun _ => z_n (v2 + 1 : Int32) fun y5 => r15 v0 v1 y5)
def p_X12_keepsState_l15 : Nat → Option Nat → Int32 → Int32 → ZM Unit
  | 0, _, _, _ => z_fl
  | n + 1, v0, v1, v2 => p_X12_keepsState_c15 (p_X12_keepsState_l15 n) v0 v1 v2
def p_X12_keepsState (v0 : Option Nat) (v1 : Int32) : ZM Unit :=
  z_b (z_gR 13 57 v0) fun x6 => z_b (z_gI 13 32 v0) fun x7 => z_b (z_sI x6 (101 * v1) x7) fun _ => p_X12_keepsState_l15 zFuel v0 v1 0
abbrev M_X12_keepsState (l : Launch) : ZMe := (l, "SpellScribeModel", cX12_keepsState, 3, 0, 0, none, "keepsState", [])
set_option maxRecDepth 20000 in
theorem sim_X12_keepsState_c15 (l : Launch) (r15 : Option Nat → Int32 → Int32 → ZM Unit) (hr15 : ∀ (v0 : Option Nat) (v1 : Int32) (v2 : Int32), Sim (M_X12_keepsState l) (zFin zcV) 15 [(0, .inr (.inr v0)), (1, .inl v1), (2, .inl v2)] [] (r15 v0 v1 v2)) (v0 : Option Nat) (v1 : Int32) (v2 : Int32) : Sim (M_X12_keepsState l) (zFin zcV) 15 [(0, .inr (.inr v0)), (1, .inl v1), (2, .inl v2)] [] (p_X12_keepsState_c15 r15 v0 v1 v2) := by
  unfold p_X12_keepsState_c15
  refine s_iloadn (j := 2) dX12_keepsState_15 rfl ?_
  refine s_aloadn (j := 0) dX12_keepsState_16 rfl ?_
  refine s_getI (k := 32) cls_13 (by decide) rfl dX12_keepsState_17 w_1380 rfl (fun x1 => ?_)
  refine s_icmp_ge (tgt := 48) dX12_keepsState_20 (by decide) ?_ ?_
  · exact s_vret dX12_keepsState_48 rfl
  · refine s_aloadn (j := 0) dX12_keepsState_23 rfl ?_
    refine s_getR (k := 57) cls_13 (by decide) rfl dX12_keepsState_24 w_1405 rfl (fun x2 => ?_)
    refine s_bipush (v := 101) dX12_keepsState_27 (by decide) ?_
    refine s_iloadn (j := 1) dX12_keepsState_29 rfl ?_
    refine s_imul dX12_keepsState_30 ?_
    refine s_iconst (v := 1) dX12_keepsState_31 (by decide) ?_
    refine s_iadd dX12_keepsState_32 ?_
    refine s_iloadn (j := 2) dX12_keepsState_33 rfl ?_
    refine s_iadd dX12_keepsState_34 ?_
    refine s_aloadn (j := 0) dX12_keepsState_35 rfl ?_
    refine s_getR (k := 33) cls_13 (by decide) rfl dX12_keepsState_36 w_1381 rfl (fun x3 => ?_)
    refine s_iloadn (j := 2) dX12_keepsState_39 rfl ?_
    refine s_iald dX12_keepsState_40 (fun x4 => ?_)
    refine s_iast dX12_keepsState_41 ?_
    refine s_n0 (fun y5 hy5 => ?_)
    refine s_iinc (j := 2) (v := y5) (d := 1) (lv' := [(2, .inl y5), (0, .inr (.inr v0)), (1, .inl v1)]) dX12_keepsState_42 rfl (by decide) hy5 (Nat.le_of_ble_eq_true rfl) rfl ?_
    refine s_goto (tgt := 15) dX12_keepsState_45 (by decide) ?_
    exact Sim.sub [1, 2, 0] rfl (hr15 v0 v1 y5)
theorem sim_X12_keepsState_l15 (l : Launch) : ∀ (n : Nat) (v0 : Option Nat) (v1 : Int32) (v2 : Int32), Sim (M_X12_keepsState l) (zFin zcV) 15 [(0, .inr (.inr v0)), (1, .inl v1), (2, .inl v2)] [] (p_X12_keepsState_l15 n v0 v1 v2)
  | 0, _, _, _ => s_fl
  | n + 1, v0, v1, v2 => sim_X12_keepsState_c15 l (p_X12_keepsState_l15 n) (sim_X12_keepsState_l15 l n) v0 v1 v2
set_option maxRecDepth 20000 in
theorem sim_X12_keepsState (l : Launch) (v0 : Option Nat) (v1 : Int32) : Sim (M_X12_keepsState l) (zFin zcV) 0 [(0, .inr (.inr v0)), (1, .inl v1)] [] (p_X12_keepsState v0 v1) := by
  unfold p_X12_keepsState
  refine s_aloadn (j := 0) dX12_keepsState_0 rfl ?_
  refine s_getR (k := 57) cls_13 (by decide) rfl dX12_keepsState_1 w_1405 rfl (fun x6 => ?_)
  refine s_bipush (v := 101) dX12_keepsState_4 (by decide) ?_
  refine s_iloadn (j := 1) dX12_keepsState_6 rfl ?_
  refine s_imul dX12_keepsState_7 ?_
  refine s_aloadn (j := 0) dX12_keepsState_8 rfl ?_
  refine s_getI (k := 32) cls_13 (by decide) rfl dX12_keepsState_9 w_1380 rfl (fun x7 => ?_)
  refine s_iast dX12_keepsState_12 ?_
  refine s_iconst (v := 0) dX12_keepsState_13 (by decide) ?_
  refine s_istoren (lv' := [(2, .inl 0), (0, .inr (.inr v0)), (1, .inl v1)]) dX12_keepsState_14 (Nat.le_of_ble_eq_true rfl) rfl ?_
  exact Sim.sub [1, 2, 0] rfl (sim_X12_keepsState_l15 l zFuel v0 v1 0)
theorem met_X12_keepsState (l : Launch) (v0 : Option Nat) (v1 : Int32) : zMet l yX12_keepsState cX12_keepsState 3 none 0 0 [.inr (.inr v0), .inl v1] zcV (p_X12_keepsState v0 v1) :=
  zMet.of (by decide +kernel) (Nat.le_of_ble_eq_true rfl) rfl (sim_X12_keepsState l v0 v1)
def p_X12_isState_b63 (r24 : Option Nat → Int32 → Int32 → Int32 → ZM Int32) (v0 : Option Nat) (v1 : Int32) (v3 : Int32) (s0 : Int32) : ZM Int32 :=
  z_n (v3 + 1 : Int32) fun y1 => r24 v0 v1 s0 y1
def p_X12_isState_c24 (r24 : Option Nat → Int32 → Int32 → Int32 → ZM Int32) (v0 : Option Nat) (v1 : Int32) (v2 : Int32) (v3 : Int32) : ZM Int32 :=
  z_b (z_gI 13 32 v0) fun x2 => if x2 ≤ v3 then (z_rz v2)
  else (if v2 = 0 then (z_rz v2)
  else (z_b (z_gR 13 57 v0) fun x3 => z_b (z_aI x3 (((101 * v1) + 1) + v3)) fun x4 => z_b (z_gR 13 33 v0) fun x5 => z_b (z_aI x5 v3) fun x6 => if ¬ x4 = x6 then (p_X12_isState_b63 r24 v0 v1 v3 0)
  else (p_X12_isState_b63 r24 v0 v1 v3 1)))
def p_X12_isState_l24 : Nat → Option Nat → Int32 → Int32 → Int32 → ZM Int32
  | 0, _, _, _, _ => z_fl
  | n + 1, v0, v1, v2, v3 => p_X12_isState_c24 (p_X12_isState_l24 n) v0 v1 v2 v3
def p_X12_isState_b21 (v0 : Option Nat) (v1 : Int32) (s0 : Int32) : ZM Int32 :=
  p_X12_isState_l24 zFuel v0 v1 s0 0
def p_X12_isState (v0 : Option Nat) (v1 : Int32) : ZM Int32 :=
  z_b (z_gR 13 57 v0) fun x7 => z_b (z_aI x7 (101 * v1)) fun x8 => z_b (z_gI 13 32 v0) fun x9 => if ¬ x8 = x9 then (p_X12_isState_b21 v0 v1 0)
  else (p_X12_isState_b21 v0 v1 1)
abbrev M_X12_isState (l : Launch) : ZMe := (l, "SpellScribeModel", cX12_isState, 4, 0, 0, (some .boolean), "isState", [])
set_option maxRecDepth 20000 in
theorem sim_X12_isState_b63 (l : Launch) (r24 : Option Nat → Int32 → Int32 → Int32 → ZM Int32) (hr24 : ∀ (v0 : Option Nat) (v1 : Int32) (v2 : Int32) (v3 : Int32), Sim (M_X12_isState l) (zFin zcI) 24 [(0, .inr (.inr v0)), (1, .inl v1), (2, .inl v2), (3, .inl v3)] [] (r24 v0 v1 v2 v3)) (v0 : Option Nat) (v1 : Int32) (v3 : Int32) (s0 : Int32) : Sim (M_X12_isState l) (zFin zcI) 63 [(0, .inr (.inr v0)), (1, .inl v1), (3, .inl v3)] [.inl s0] (p_X12_isState_b63 r24 v0 v1 v3 s0) := by
  unfold p_X12_isState_b63
  refine s_istoren (lv' := [(2, .inl s0), (0, .inr (.inr v0)), (1, .inl v1), (3, .inl v3)]) dX12_isState_63 (Nat.le_of_ble_eq_true rfl) rfl ?_
  refine s_n0 (fun y1 hy1 => ?_)
  refine s_iinc (j := 3) (v := y1) (d := 1) (lv' := [(3, .inl y1), (2, .inl s0), (0, .inr (.inr v0)), (1, .inl v1)]) dX12_isState_64 rfl (by decide) hy1 (Nat.le_of_ble_eq_true rfl) rfl ?_
  refine s_goto (tgt := 24) dX12_isState_67 (by decide) ?_
  exact Sim.sub [2, 3, 1, 0] rfl (hr24 v0 v1 s0 y1)
set_option maxRecDepth 20000 in
theorem sim_X12_isState_c24 (l : Launch) (r24 : Option Nat → Int32 → Int32 → Int32 → ZM Int32) (hr24 : ∀ (v0 : Option Nat) (v1 : Int32) (v2 : Int32) (v3 : Int32), Sim (M_X12_isState l) (zFin zcI) 24 [(0, .inr (.inr v0)), (1, .inl v1), (2, .inl v2), (3, .inl v3)] [] (r24 v0 v1 v2 v3)) (v0 : Option Nat) (v1 : Int32) (v2 : Int32) (v3 : Int32) : Sim (M_X12_isState l) (zFin zcI) 24 [(0, .inr (.inr v0)), (1, .inl v1), (2, .inl v2), (3, .inl v3)] [] (p_X12_isState_c24 r24 v0 v1 v2 v3) := by
  unfold p_X12_isState_c24
  refine s_iloadn (j := 3) dX12_isState_24 rfl ?_
  refine s_aloadn (j := 0) dX12_isState_25 rfl ?_
  refine s_getI (k := 32) cls_13 (by decide) rfl dX12_isState_26 w_1380 rfl (fun x2 => ?_)
  refine s_icmp_ge (tgt := 70) dX12_isState_29 (by decide) ?_ ?_
  · refine s_iloadn (j := 2) dX12_isState_70 rfl ?_
    exact s_zret dX12_isState_71 rfl
  · refine s_iloadn (j := 2) dX12_isState_32 rfl ?_
    refine s_if_eq (tgt := 70) dX12_isState_33 (by decide) ?_ ?_
    · refine s_iloadn (j := 2) dX12_isState_70 rfl ?_
      exact s_zret dX12_isState_71 rfl
    · refine s_aloadn (j := 0) dX12_isState_36 rfl ?_
      refine s_getR (k := 57) cls_13 (by decide) rfl dX12_isState_37 w_1405 rfl (fun x3 => ?_)
      refine s_bipush (v := 101) dX12_isState_40 (by decide) ?_
      refine s_iloadn (j := 1) dX12_isState_42 rfl ?_
      refine s_imul dX12_isState_43 ?_
      refine s_iconst (v := 1) dX12_isState_44 (by decide) ?_
      refine s_iadd dX12_isState_45 ?_
      refine s_iloadn (j := 3) dX12_isState_46 rfl ?_
      refine s_iadd dX12_isState_47 ?_
      refine s_iald dX12_isState_48 (fun x4 => ?_)
      refine s_aloadn (j := 0) dX12_isState_49 rfl ?_
      refine s_getR (k := 33) cls_13 (by decide) rfl dX12_isState_50 w_1381 rfl (fun x5 => ?_)
      refine s_iloadn (j := 3) dX12_isState_53 rfl ?_
      refine s_iald dX12_isState_54 (fun x6 => ?_)
      refine s_icmp_ne (tgt := 62) dX12_isState_55 (by decide) ?_ ?_
      · refine s_iconst (v := 0) dX12_isState_62 (by decide) ?_
        exact Sim.sub [0, 1, 3] rfl (sim_X12_isState_b63 l r24 hr24 v0 v1 v3 0)
      · refine s_iconst (v := 1) dX12_isState_58 (by decide) ?_
        refine s_goto (tgt := 63) dX12_isState_59 (by decide) ?_
        exact Sim.sub [0, 1, 3] rfl (sim_X12_isState_b63 l r24 hr24 v0 v1 v3 1)
theorem sim_X12_isState_l24 (l : Launch) : ∀ (n : Nat) (v0 : Option Nat) (v1 : Int32) (v2 : Int32) (v3 : Int32), Sim (M_X12_isState l) (zFin zcI) 24 [(0, .inr (.inr v0)), (1, .inl v1), (2, .inl v2), (3, .inl v3)] [] (p_X12_isState_l24 n v0 v1 v2 v3)
  | 0, _, _, _, _ => s_fl
  | n + 1, v0, v1, v2, v3 => sim_X12_isState_c24 l (p_X12_isState_l24 n) (sim_X12_isState_l24 l n) v0 v1 v2 v3
set_option maxRecDepth 20000 in
theorem sim_X12_isState_b21 (l : Launch) (v0 : Option Nat) (v1 : Int32) (s0 : Int32) : Sim (M_X12_isState l) (zFin zcI) 21 [(0, .inr (.inr v0)), (1, .inl v1)] [.inl s0] (p_X12_isState_b21 v0 v1 s0) := by
  unfold p_X12_isState_b21
  refine s_istoren (lv' := [(2, .inl s0), (0, .inr (.inr v0)), (1, .inl v1)]) dX12_isState_21 (Nat.le_of_ble_eq_true rfl) rfl ?_
  refine s_iconst (v := 0) dX12_isState_22 (by decide) ?_
  refine s_istoren (lv' := [(3, .inl 0), (2, .inl s0), (0, .inr (.inr v0)), (1, .inl v1)]) dX12_isState_23 (Nat.le_of_ble_eq_true rfl) rfl ?_
  exact Sim.sub [2, 3, 1, 0] rfl (sim_X12_isState_l24 l zFuel v0 v1 s0 0)
set_option maxRecDepth 20000 in
theorem sim_X12_isState (l : Launch) (v0 : Option Nat) (v1 : Int32) : Sim (M_X12_isState l) (zFin zcI) 0 [(0, .inr (.inr v0)), (1, .inl v1)] [] (p_X12_isState v0 v1) := by
  unfold p_X12_isState
  refine s_aloadn (j := 0) dX12_isState_0 rfl ?_
  refine s_getR (k := 57) cls_13 (by decide) rfl dX12_isState_1 w_1405 rfl (fun x7 => ?_)
  refine s_bipush (v := 101) dX12_isState_4 (by decide) ?_
  refine s_iloadn (j := 1) dX12_isState_6 rfl ?_
  refine s_imul dX12_isState_7 ?_
  refine s_iald dX12_isState_8 (fun x8 => ?_)
  refine s_aloadn (j := 0) dX12_isState_9 rfl ?_
  refine s_getI (k := 32) cls_13 (by decide) rfl dX12_isState_10 w_1380 rfl (fun x9 => ?_)
  refine s_icmp_ne (tgt := 20) dX12_isState_13 (by decide) ?_ ?_
  · refine s_iconst (v := 0) dX12_isState_20 (by decide) ?_
    exact Sim.sub [0, 1] rfl (sim_X12_isState_b21 l v0 v1 0)
  · refine s_iconst (v := 1) dX12_isState_16 (by decide) ?_
    refine s_goto (tgt := 21) dX12_isState_17 (by decide) ?_
    exact Sim.sub [0, 1] rfl (sim_X12_isState_b21 l v0 v1 1)
theorem met_X12_isState (l : Launch) (v0 : Option Nat) (v1 : Int32) : zMet l yX12_isState cX12_isState 4 (some .boolean) 0 0 [.inr (.inr v0), .inl v1] zcI (p_X12_isState v0 v1) :=
  zMet.of (by decide +kernel) (Nat.le_of_ble_eq_true rfl) rfl (sim_X12_isState l v0 v1)
def p_X12_correct_b52 (r12 : Option Nat → Int32 → ZM Int32) (v0 : Option Nat) (v1 : Int32) : ZM Int32 :=
  z_b (z_vr 13 v0 (p_X12_keepsState v0 v1)) fun _ => z_n (v1 + 1 : Int32) fun y1 => r12 v0 y1
def p_X12_correct_c31 (r12 : Option Nat → Int32 → ZM Int32) (r31 : Option Nat → Int32 → Int32 → ZM Int32) (v0 : Option Nat) (v1 : Int32) (v2 : Int32) : ZM Int32 :=
  if v1 ≤ v2 then (p_X12_correct_b52 r12 v0 v1)
  else (z_b (z_vr 13 v0 (p_X12_isState v0 v2)) fun x2 => if x2 = 0 then (z_n (v2 + 1 : Int32) fun y3 => r31 v0 v1 y3)
  else (z_rt (-1)))
def p_X12_correct_l31 (r12 : Option Nat → Int32 → ZM Int32) : Nat → Option Nat → Int32 → Int32 → ZM Int32
  | 0, _, _, _ => z_fl
  | n + 1, v0, v1, v2 => p_X12_correct_c31 r12 (p_X12_correct_l31 r12 n) v0 v1 v2
def p_X12_correct_b25 (v1 : Int32) : ZM Int32 :=
  z_rt (v1 - 1)
def p_X12_correct_c12 (r12 : Option Nat → Int32 → ZM Int32) (v0 : Option Nat) (v1 : Int32) : ZM Int32 :=
  if 20 < v1 then (z_rt 20)
  else (z_b (z_vr 13 v0 (p_X12_correctsOnce v0)) fun x4 => if ¬ x4 = 0 then (p_X12_correct_l31 r12 zFuel v0 v1 0)
  else (p_X12_correct_b25 v1))
def p_X12_correct_l12 : Nat → Option Nat → Int32 → ZM Int32
  | 0, _, _ => z_fl
  | n + 1, v0, v1 => p_X12_correct_c12 (p_X12_correct_l12 n) v0 v1
def p_X12_correct (v0 : Option Nat) : ZM Int32 :=
  z_b (z_pI 13 58 v0 0) fun _ => z_b (z_vr 13 v0 (p_X12_keepsState v0 0)) fun _ => p_X12_correct_l12 zFuel v0 1
abbrev M_X12_correct (l : Launch) : ZMe := (l, "SpellScribeModel", cX12_correct, 3, 8, 201, (some .int), "correct", [])
set_option maxRecDepth 20000 in
theorem sim_X12_correct_b52 (l : Launch) (r12 : Option Nat → Int32 → ZM Int32) (hr12 : ∀ (v0 : Option Nat) (v1 : Int32), Sim (M_X12_correct l) (zFin zcI) 12 [(0, .inr (.inr v0)), (1, .inl v1)] [] (r12 v0 v1)) (v0 : Option Nat) (v1 : Int32) : Sim (M_X12_correct l) (zFin zcI) 52 [(0, .inr (.inr v0)), (1, .inl v1)] [] (p_X12_correct_b52 r12 v0 v1) := by
  unfold p_X12_correct_b52
  refine s_aloadn (j := 0) dX12_correct_52 rfl ?_
  refine s_iloadn (j := 1) dX12_correct_53 rfl ?_
  refine s_cVV (rest := []) (met_X12_keepsState l v0 v1) cls_13 mth_X12_keepsState rfl dX12_correct_54 w_1721 w_1723 wp_66 ⟨Nat.le_of_ble_eq_true rfl, Nat.le_of_ble_eq_true rfl⟩ (Nat.le_of_ble_eq_true rfl) rfl ?_
  refine s_n0 (fun y1 hy1 => ?_)
  refine s_iinc (j := 1) (v := y1) (d := 1) (lv' := [(1, .inl y1), (0, .inr (.inr v0))]) dX12_correct_57 rfl (by decide) hy1 (Nat.le_of_ble_eq_true rfl) rfl ?_
  refine s_goto (tgt := 12) dX12_correct_60 (by decide) ?_
  exact Sim.sub [1, 0] rfl (hr12 v0 y1)
set_option maxRecDepth 20000 in
theorem sim_X12_correct_c31 (l : Launch) (r12 : Option Nat → Int32 → ZM Int32) (r31 : Option Nat → Int32 → Int32 → ZM Int32) (hr12 : ∀ (v0 : Option Nat) (v1 : Int32), Sim (M_X12_correct l) (zFin zcI) 12 [(0, .inr (.inr v0)), (1, .inl v1)] [] (r12 v0 v1)) (hr31 : ∀ (v0 : Option Nat) (v1 : Int32) (v2 : Int32), Sim (M_X12_correct l) (zFin zcI) 31 [(0, .inr (.inr v0)), (1, .inl v1), (2, .inl v2)] [] (r31 v0 v1 v2)) (v0 : Option Nat) (v1 : Int32) (v2 : Int32) : Sim (M_X12_correct l) (zFin zcI) 31 [(0, .inr (.inr v0)), (1, .inl v1), (2, .inl v2)] [] (p_X12_correct_c31 r12 r31 v0 v1 v2) := by
  unfold p_X12_correct_c31
  refine s_iloadn (j := 2) dX12_correct_31 rfl ?_
  refine s_iloadn (j := 1) dX12_correct_32 rfl ?_
  refine s_icmp_ge (tgt := 52) dX12_correct_33 (by decide) ?_ ?_
  · exact Sim.sub [0, 1] rfl (sim_X12_correct_b52 l r12 hr12 v0 v1)
  · refine s_aloadn (j := 0) dX12_correct_36 rfl ?_
    refine s_iloadn (j := 2) dX12_correct_37 rfl ?_
    refine s_cVI (rest := []) (met_X12_isState l v0 v2) cls_13 mth_X12_isState rfl dX12_correct_38 w_1755 w_1757 wp_73 ⟨Nat.le_of_ble_eq_true rfl, Nat.le_of_ble_eq_true rfl⟩ (Nat.le_of_ble_eq_true rfl) rfl (fun x2 => ?_)
    refine s_if_eq (tgt := 46) dX12_correct_41 (by decide) ?_ ?_
    · refine s_n0 (fun y3 hy3 => ?_)
      refine s_iinc (j := 2) (v := y3) (d := 1) (lv' := [(2, .inl y3), (0, .inr (.inr v0)), (1, .inl v1)]) dX12_correct_46 rfl (by decide) hy3 (Nat.le_of_ble_eq_true rfl) rfl ?_
      refine s_goto (tgt := 31) dX12_correct_49 (by decide) ?_
      exact Sim.sub [1, 2, 0] rfl (hr31 v0 v1 y3)
    · refine s_iconst (v := (-1)) dX12_correct_44 (by decide) ?_
      exact s_iret dX12_correct_45 rfl
theorem sim_X12_correct_l31 (l : Launch) (r12 : Option Nat → Int32 → ZM Int32) (hr12 : ∀ (v0 : Option Nat) (v1 : Int32), Sim (M_X12_correct l) (zFin zcI) 12 [(0, .inr (.inr v0)), (1, .inl v1)] [] (r12 v0 v1)) : ∀ (n : Nat) (v0 : Option Nat) (v1 : Int32) (v2 : Int32), Sim (M_X12_correct l) (zFin zcI) 31 [(0, .inr (.inr v0)), (1, .inl v1), (2, .inl v2)] [] (p_X12_correct_l31 r12 n v0 v1 v2)
  | 0, _, _, _ => s_fl
  | n + 1, v0, v1, v2 => sim_X12_correct_c31 l r12 (p_X12_correct_l31 r12 n) hr12 (sim_X12_correct_l31 l r12 hr12 n) v0 v1 v2
set_option maxRecDepth 20000 in
theorem sim_X12_correct_b25 (l : Launch) (v1 : Int32) : Sim (M_X12_correct l) (zFin zcI) 25 [(1, .inl v1)] [] (p_X12_correct_b25 v1) := by
  unfold p_X12_correct_b25
  refine s_iloadn (j := 0) dX12_correct_25 rfl ?_
  refine s_iconst (v := 1) dX12_correct_26 (by decide) ?_
  refine s_isub dX12_correct_27 ?_
  exact s_iret dX12_correct_28 rfl
set_option maxRecDepth 20000 in
theorem sim_X12_correct_c12 (l : Launch) (r12 : Option Nat → Int32 → ZM Int32) (hr12 : ∀ (v0 : Option Nat) (v1 : Int32), Sim (M_X12_correct l) (zFin zcI) 12 [(0, .inr (.inr v0)), (1, .inl v1)] [] (r12 v0 v1)) (v0 : Option Nat) (v1 : Int32) : Sim (M_X12_correct l) (zFin zcI) 12 [(0, .inr (.inr v0)), (1, .inl v1)] [] (p_X12_correct_c12 r12 v0 v1) := by
  unfold p_X12_correct_c12
  refine s_iloadn (j := 1) dX12_correct_12 rfl ?_
  refine s_bipush (v := 20) dX12_correct_13 (by decide) ?_
  refine s_icmp_gt (tgt := 63) dX12_correct_15 (by decide) ?_ ?_
  · refine s_bipush (v := 20) dX12_correct_63 (by decide) ?_
    exact s_iret dX12_correct_65 rfl
  · refine s_aloadn (j := 0) dX12_correct_18 rfl ?_
    refine s_cVI (rest := []) (met_X12_correctsOnce l v0) cls_13 mth_X12_correctsOnce rfl dX12_correct_19 w_1725 w_1727 wp_67 ⟨Nat.le_of_ble_eq_true rfl, Nat.le_of_ble_eq_true rfl⟩ (Nat.le_of_ble_eq_true rfl) rfl (fun x4 => ?_)
    refine s_if_ne (tgt := 29) dX12_correct_22 (by decide) ?_ ?_
    · refine s_iconst (v := 0) dX12_correct_29 (by decide) ?_
      refine s_istoren (lv' := [(2, .inl 0), (0, .inr (.inr v0)), (1, .inl v1)]) dX12_correct_30 (Nat.le_of_ble_eq_true rfl) rfl ?_
      exact Sim.sub [1, 2, 0] rfl (sim_X12_correct_l31 l r12 hr12 zFuel v0 v1 0)
    · exact Sim.sub [1] rfl (sim_X12_correct_b25 l v1)
theorem sim_X12_correct_l12 (l : Launch) : ∀ (n : Nat) (v0 : Option Nat) (v1 : Int32), Sim (M_X12_correct l) (zFin zcI) 12 [(0, .inr (.inr v0)), (1, .inl v1)] [] (p_X12_correct_l12 n v0 v1)
  | 0, _, _ => s_fl
  | n + 1, v0, v1 => sim_X12_correct_c12 l (p_X12_correct_l12 n) (sim_X12_correct_l12 l n) v0 v1
set_option maxRecDepth 20000 in
theorem sim_X12_correct (l : Launch) (v0 : Option Nat) : Sim (M_X12_correct l) (zFin zcI) 0 [(0, .inr (.inr v0))] [] (p_X12_correct v0) := by
  unfold p_X12_correct
  refine s_aloadn (j := 0) dX12_correct_0 rfl ?_
  refine s_iconst (v := 0) dX12_correct_1 (by decide) ?_
  refine s_putI (k := 58) cls_13 (by decide) rfl rfl rfl dX12_correct_2 w_1406 rfl ?_
  refine s_aloadn (j := 0) dX12_correct_5 rfl ?_
  refine s_iconst (v := 0) dX12_correct_6 (by decide) ?_
  refine s_cVV (rest := []) (met_X12_keepsState l v0 0) cls_13 mth_X12_keepsState rfl dX12_correct_7 w_1721 w_1723 wp_66 ⟨Nat.le_of_ble_eq_true rfl, Nat.le_of_ble_eq_true rfl⟩ (Nat.le_of_ble_eq_true rfl) rfl ?_
  refine s_iconst (v := 1) dX12_correct_10 (by decide) ?_
  refine s_istoren (lv' := [(1, .inl 1), (0, .inr (.inr v0))]) dX12_correct_11 (Nat.le_of_ble_eq_true rfl) rfl ?_
  exact Sim.sub [1, 0] rfl (sim_X12_correct_l12 l zFuel v0 1)
theorem met_X12_correct (l : Launch) (v0 : Option Nat) : zMet l yX12_correct cX12_correct 3 (some .int) 8 201 [.inr (.inr v0)] zcI (p_X12_correct v0) :=
  zMet.of (by decide +kernel) (Nat.le_of_ble_eq_true rfl) rfl (sim_X12_correct l v0)
def p_X12_length (v0 : Option Nat) : ZM Int32 :=
  z_b (z_pI 13 58 v0 0) fun _ => z_b (z_gI 13 32 v0) fun x1 => z_rt x1
abbrev M_X12_length (l : Launch) : ZMe := (l, "SpellScribeModel", cX12_length, 1, 0, 0, (some .int), "length", [])
set_option maxRecDepth 20000 in
theorem sim_X12_length (l : Launch) (v0 : Option Nat) : Sim (M_X12_length l) (zFin zcI) 0 [(0, .inr (.inr v0))] [] (p_X12_length v0) := by
  unfold p_X12_length
  refine s_aloadn (j := 0) dX12_length_0 rfl ?_
  refine s_iconst (v := 0) dX12_length_1 (by decide) ?_
  refine s_putI (k := 58) cls_13 (by decide) rfl rfl rfl dX12_length_2 w_1406 rfl ?_
  refine s_aloadn (j := 0) dX12_length_5 rfl ?_
  refine s_getI (k := 32) cls_13 (by decide) rfl dX12_length_6 w_1380 rfl (fun x1 => ?_)
  exact s_iret dX12_length_9 rfl
theorem met_X12_length (l : Launch) (v0 : Option Nat) : zMet l yX12_length cX12_length 1 (some .int) 0 0 [.inr (.inr v0)] zcI (p_X12_length v0) :=
  zMet.of (by decide +kernel) (Nat.le_of_ble_eq_true rfl) rfl (sim_X12_length l v0)
def p_X12_signAt_b20 (v0 : Option Nat) (v1 : Int32) (s0 : Option Nat) (s1 : Int32) : ZM Int32 :=
  z_b (z_pI 13 58 s0 s1) fun _ => z_b (z_gI 13 58 v0) fun x1 => if ¬ x1 = 0 then (z_rc 32)
  else (z_b (z_gR 13 33 v0) fun x2 => z_b (z_aI x2 v1) fun x3 => z_rc ((Int32.toUInt32 x3 % 65536).toInt32))
def p_X12_signAt (v0 : Option Nat) (v1 : Int32) : ZM Int32 :=
  z_b (z_gI 13 32 v0) fun x4 => z_b (p_X12_in v1 0 (x4 - 1)) fun x5 => if x5 = 0 then (p_X12_signAt_b20 v0 v1 v0 1)
  else (p_X12_signAt_b20 v0 v1 v0 0)
abbrev M_X12_signAt (l : Launch) : ZMe := (l, "SpellScribeModel", cX12_signAt, 2, 1, 22, (some .char), "signAt", [])
set_option maxRecDepth 20000 in
theorem sim_X12_signAt_b20 (l : Launch) (v0 : Option Nat) (v1 : Int32) (s0 : Option Nat) (s1 : Int32) : Sim (M_X12_signAt l) (zFin zcI) 20 [(0, .inr (.inr v0)), (1, .inl v1)] [.inl s1, .inr (.inr s0)] (p_X12_signAt_b20 v0 v1 s0 s1) := by
  unfold p_X12_signAt_b20
  refine s_putI (k := 58) cls_13 (by decide) rfl rfl rfl dX12_signAt_20 w_1406 rfl ?_
  refine s_aloadn (j := 0) dX12_signAt_23 rfl ?_
  refine s_getI (k := 58) cls_13 (by decide) rfl dX12_signAt_24 w_1406 rfl (fun x1 => ?_)
  refine s_if_ne (tgt := 40) dX12_signAt_27 (by decide) ?_ ?_
  · refine s_bipush (v := 32) dX12_signAt_40 (by decide) ?_
    exact s_cret dX12_signAt_42 rfl
  · refine s_aloadn (j := 0) dX12_signAt_30 rfl ?_
    refine s_getR (k := 33) cls_13 (by decide) rfl dX12_signAt_31 w_1381 rfl (fun x2 => ?_)
    refine s_iloadn (j := 1) dX12_signAt_34 rfl ?_
    refine s_iald dX12_signAt_35 (fun x3 => ?_)
    refine s_i2c dX12_signAt_36 ?_
    refine s_goto (tgt := 42) dX12_signAt_37 (by decide) ?_
    exact s_cret dX12_signAt_42 rfl
set_option maxRecDepth 20000 in
theorem sim_X12_signAt (l : Launch) (v0 : Option Nat) (v1 : Int32) : Sim (M_X12_signAt l) (zFin zcI) 0 [(0, .inr (.inr v0)), (1, .inl v1)] [] (p_X12_signAt v0 v1) := by
  unfold p_X12_signAt
  refine s_aloadn (j := 0) dX12_signAt_0 rfl ?_
  refine s_iloadn (j := 1) dX12_signAt_1 rfl ?_
  refine s_iconst (v := 0) dX12_signAt_2 (by decide) ?_
  refine s_aloadn (j := 0) dX12_signAt_3 rfl ?_
  refine s_getI (k := 32) cls_13 (by decide) rfl dX12_signAt_4 w_1380 rfl (fun x4 => ?_)
  refine s_iconst (v := 1) dX12_signAt_7 (by decide) ?_
  refine s_isub dX12_signAt_8 ?_
  refine s_cSI (rest := [.inr (.inr v0)]) (met_X12_in l v1 0 (x4 - 1)) mth_X12_in rfl dX12_signAt_9 w_1535 w_1536 ⟨Nat.le_of_ble_eq_true rfl, Nat.le_of_ble_eq_true rfl⟩ (Nat.le_of_ble_eq_true rfl) rfl (fun x5 => ?_)
  refine s_if_eq (tgt := 19) dX12_signAt_12 (by decide) ?_ ?_
  · refine s_iconst (v := 1) dX12_signAt_19 (by decide) ?_
    exact Sim.sub [0, 1] rfl (sim_X12_signAt_b20 l v0 v1 v0 1)
  · refine s_iconst (v := 0) dX12_signAt_15 (by decide) ?_
    refine s_goto (tgt := 20) dX12_signAt_16 (by decide) ?_
    exact Sim.sub [0, 1] rfl (sim_X12_signAt_b20 l v0 v1 v0 0)
theorem met_X12_signAt (l : Launch) (v0 : Option Nat) (v1 : Int32) : zMet l yX12_signAt cX12_signAt 2 (some .char) 1 22 [.inr (.inr v0), .inl v1] zcI (p_X12_signAt v0 v1) :=
  zMet.of (by decide +kernel) (Nat.le_of_ble_eq_true rfl) rfl (sim_X12_signAt l v0 v1)
def p_X12_words (v0 : Option Nat) : ZM Int32 :=
  z_b (z_pI 13 58 v0 0) fun _ => z_b (z_vr 13 v0 (p_X12_finds v0)) fun _ => z_b (z_gI 13 40 v0) fun x1 => z_rt x1
abbrev M_X12_words (l : Launch) : ZMe := (l, "SpellScribeModel", cX12_words, 1, 3, 69, (some .int), "words", [])
set_option maxRecDepth 20000 in
theorem sim_X12_words (l : Launch) (v0 : Option Nat) : Sim (M_X12_words l) (zFin zcI) 0 [(0, .inr (.inr v0))] [] (p_X12_words v0) := by
  unfold p_X12_words
  refine s_aloadn (j := 0) dX12_words_0 rfl ?_
  refine s_iconst (v := 0) dX12_words_1 (by decide) ?_
  refine s_putI (k := 58) cls_13 (by decide) rfl rfl rfl dX12_words_2 w_1406 rfl ?_
  refine s_aloadn (j := 0) dX12_words_5 rfl ?_
  refine s_cVV (rest := []) (met_X12_finds l v0) cls_13 mth_X12_finds rfl dX12_words_6 w_1632 w_1634 wp_52 ⟨Nat.le_of_ble_eq_true rfl, Nat.le_of_ble_eq_true rfl⟩ (Nat.le_of_ble_eq_true rfl) rfl ?_
  refine s_aloadn (j := 0) dX12_words_9 rfl ?_
  refine s_getI (k := 40) cls_13 (by decide) rfl dX12_words_10 w_1388 rfl (fun x1 => ?_)
  exact s_iret dX12_words_13 rfl
theorem met_X12_words (l : Launch) (v0 : Option Nat) : zMet l yX12_words cX12_words 1 (some .int) 3 69 [.inr (.inr v0)] zcI (p_X12_words v0) :=
  zMet.of (by decide +kernel) (Nat.le_of_ble_eq_true rfl) rfl (sim_X12_words l v0)
def p_X12_wordAt (v0 : Option Nat) (v1 : Int32) : ZM Int32 :=
  z_b (z_vr 13 v0 (p_X12_hasWord v0 v1)) fun x1 => if x1 = 0 then (z_rt 0)
  else (z_b (z_gR 13 41 v0) fun x2 => z_b (z_aI x2 v1) fun x3 => z_rt x3)
abbrev M_X12_wordAt (l : Launch) : ZMe := (l, "SpellScribeModel", cX12_wordAt, 2, 8, 201, (some .int), "wordAt", [])
set_option maxRecDepth 20000 in
theorem sim_X12_wordAt (l : Launch) (v0 : Option Nat) (v1 : Int32) : Sim (M_X12_wordAt l) (zFin zcI) 0 [(0, .inr (.inr v0)), (1, .inl v1)] [] (p_X12_wordAt v0 v1) := by
  unfold p_X12_wordAt
  refine s_aloadn (j := 0) dX12_wordAt_0 rfl ?_
  refine s_iloadn (j := 1) dX12_wordAt_1 rfl ?_
  refine s_cVI (rest := []) (met_X12_hasWord l v0 v1) cls_13 mth_X12_hasWord rfl dX12_wordAt_2 w_1585 w_1587 wp_44 ⟨Nat.le_of_ble_eq_true rfl, Nat.le_of_ble_eq_true rfl⟩ (Nat.le_of_ble_eq_true rfl) rfl (fun x1 => ?_)
  refine s_if_eq (tgt := 17) dX12_wordAt_5 (by decide) ?_ ?_
  · refine s_iconst (v := 0) dX12_wordAt_17 (by decide) ?_
    exact s_iret dX12_wordAt_18 rfl
  · refine s_aloadn (j := 0) dX12_wordAt_8 rfl ?_
    refine s_getR (k := 41) cls_13 (by decide) rfl dX12_wordAt_9 w_1389 rfl (fun x2 => ?_)
    refine s_iloadn (j := 1) dX12_wordAt_12 rfl ?_
    refine s_iald dX12_wordAt_13 (fun x3 => ?_)
    refine s_goto (tgt := 18) dX12_wordAt_14 (by decide) ?_
    exact s_iret dX12_wordAt_18 rfl
theorem met_X12_wordAt (l : Launch) (v0 : Option Nat) (v1 : Int32) : zMet l yX12_wordAt cX12_wordAt 2 (some .int) 8 201 [.inr (.inr v0), .inl v1] zcI (p_X12_wordAt v0 v1) :=
  zMet.of (by decide +kernel) (Nat.le_of_ble_eq_true rfl) rfl (sim_X12_wordAt l v0 v1)
def p_X12_isRight (v0 : Option Nat) (v1 : Int32) : ZM Int32 :=
  z_b (z_vr 13 v0 (p_X12_hasWord v0 v1)) fun x1 => if x1 = 0 then (z_rz 0)
  else (z_b (z_gR 13 45 v0) fun x2 => z_b (z_aI x2 v1) fun x3 => if x3 = 0 then (z_rz 0)
  else (z_rz 1))
abbrev M_X12_isRight (l : Launch) : ZMe := (l, "SpellScribeModel", cX12_isRight, 2, 8, 201, (some .boolean), "isRight", [])
set_option maxRecDepth 20000 in
theorem sim_X12_isRight (l : Launch) (v0 : Option Nat) (v1 : Int32) : Sim (M_X12_isRight l) (zFin zcI) 0 [(0, .inr (.inr v0)), (1, .inl v1)] [] (p_X12_isRight v0 v1) := by
  unfold p_X12_isRight
  refine s_aloadn (j := 0) dX12_isRight_0 rfl ?_
  refine s_iloadn (j := 1) dX12_isRight_1 rfl ?_
  refine s_cVI (rest := []) (met_X12_hasWord l v0 v1) cls_13 mth_X12_hasWord rfl dX12_isRight_2 w_1585 w_1587 wp_44 ⟨Nat.le_of_ble_eq_true rfl, Nat.le_of_ble_eq_true rfl⟩ (Nat.le_of_ble_eq_true rfl) rfl (fun x1 => ?_)
  refine s_if_eq (tgt := 21) dX12_isRight_5 (by decide) ?_ ?_
  · refine s_iconst (v := 0) dX12_isRight_21 (by decide) ?_
    exact s_zret dX12_isRight_22 rfl
  · refine s_aloadn (j := 0) dX12_isRight_8 rfl ?_
    refine s_getR (k := 45) cls_13 (by decide) rfl dX12_isRight_9 w_1393 rfl (fun x2 => ?_)
    refine s_iloadn (j := 1) dX12_isRight_12 rfl ?_
    refine s_iald dX12_isRight_13 (fun x3 => ?_)
    refine s_if_eq (tgt := 21) dX12_isRight_14 (by decide) ?_ ?_
    · refine s_iconst (v := 0) dX12_isRight_21 (by decide) ?_
      exact s_zret dX12_isRight_22 rfl
    · refine s_iconst (v := 1) dX12_isRight_17 (by decide) ?_
      refine s_goto (tgt := 22) dX12_isRight_18 (by decide) ?_
      exact s_zret dX12_isRight_22 rfl
theorem met_X12_isRight (l : Launch) (v0 : Option Nat) (v1 : Int32) : zMet l yX12_isRight cX12_isRight 2 (some .boolean) 8 201 [.inr (.inr v0), .inl v1] zcI (p_X12_isRight v0 v1) :=
  zMet.of (by decide +kernel) (Nat.le_of_ble_eq_true rfl) rfl (sim_X12_isRight l v0 v1)
def p_X12_readings (v0 : Option Nat) (v1 : Int32) : ZM Int32 :=
  z_b (z_vr 13 v0 (p_X12_hasWord v0 v1)) fun x1 => if x1 = 0 then (z_rt 0)
  else (z_b (z_gR 13 45 v0) fun x2 => z_b (z_aI x2 v1) fun x3 => z_rt x3)
abbrev M_X12_readings (l : Launch) : ZMe := (l, "SpellScribeModel", cX12_readings, 2, 8, 201, (some .int), "readings", [])
set_option maxRecDepth 20000 in
theorem sim_X12_readings (l : Launch) (v0 : Option Nat) (v1 : Int32) : Sim (M_X12_readings l) (zFin zcI) 0 [(0, .inr (.inr v0)), (1, .inl v1)] [] (p_X12_readings v0 v1) := by
  unfold p_X12_readings
  refine s_aloadn (j := 0) dX12_readings_0 rfl ?_
  refine s_iloadn (j := 1) dX12_readings_1 rfl ?_
  refine s_cVI (rest := []) (met_X12_hasWord l v0 v1) cls_13 mth_X12_hasWord rfl dX12_readings_2 w_1585 w_1587 wp_44 ⟨Nat.le_of_ble_eq_true rfl, Nat.le_of_ble_eq_true rfl⟩ (Nat.le_of_ble_eq_true rfl) rfl (fun x1 => ?_)
  refine s_if_eq (tgt := 17) dX12_readings_5 (by decide) ?_ ?_
  · refine s_iconst (v := 0) dX12_readings_17 (by decide) ?_
    exact s_iret dX12_readings_18 rfl
  · refine s_aloadn (j := 0) dX12_readings_8 rfl ?_
    refine s_getR (k := 45) cls_13 (by decide) rfl dX12_readings_9 w_1393 rfl (fun x2 => ?_)
    refine s_iloadn (j := 1) dX12_readings_12 rfl ?_
    refine s_iald dX12_readings_13 (fun x3 => ?_)
    refine s_goto (tgt := 18) dX12_readings_14 (by decide) ?_
    exact s_iret dX12_readings_18 rfl
theorem met_X12_readings (l : Launch) (v0 : Option Nat) (v1 : Int32) : zMet l yX12_readings cX12_readings 2 (some .int) 8 201 [.inr (.inr v0), .inl v1] zcI (p_X12_readings v0 v1) :=
  zMet.of (by decide +kernel) (Nat.le_of_ble_eq_true rfl) rfl (sim_X12_readings l v0 v1)
def p_X12_reading (v0 : Option Nat) (v1 : Int32) : ZM Int32 :=
  z_b (z_vr 13 v0 (p_X12_hasWord v0 v1)) fun x1 => if x1 = 0 then (z_rt 0)
  else (z_b (z_gR 13 46 v0) fun x2 => z_b (z_aI x2 v1) fun x3 => z_rt x3)
abbrev M_X12_reading (l : Launch) : ZMe := (l, "SpellScribeModel", cX12_reading, 2, 8, 201, (some .int), "reading", [])
set_option maxRecDepth 20000 in
theorem sim_X12_reading (l : Launch) (v0 : Option Nat) (v1 : Int32) : Sim (M_X12_reading l) (zFin zcI) 0 [(0, .inr (.inr v0)), (1, .inl v1)] [] (p_X12_reading v0 v1) := by
  unfold p_X12_reading
  refine s_aloadn (j := 0) dX12_reading_0 rfl ?_
  refine s_iloadn (j := 1) dX12_reading_1 rfl ?_
  refine s_cVI (rest := []) (met_X12_hasWord l v0 v1) cls_13 mth_X12_hasWord rfl dX12_reading_2 w_1585 w_1587 wp_44 ⟨Nat.le_of_ble_eq_true rfl, Nat.le_of_ble_eq_true rfl⟩ (Nat.le_of_ble_eq_true rfl) rfl (fun x1 => ?_)
  refine s_if_eq (tgt := 17) dX12_reading_5 (by decide) ?_ ?_
  · refine s_iconst (v := 0) dX12_reading_17 (by decide) ?_
    exact s_iret dX12_reading_18 rfl
  · refine s_aloadn (j := 0) dX12_reading_8 rfl ?_
    refine s_getR (k := 46) cls_13 (by decide) rfl dX12_reading_9 w_1394 rfl (fun x2 => ?_)
    refine s_iloadn (j := 1) dX12_reading_12 rfl ?_
    refine s_iald dX12_reading_13 (fun x3 => ?_)
    refine s_goto (tgt := 18) dX12_reading_14 (by decide) ?_
    exact s_iret dX12_reading_18 rfl
theorem met_X12_reading (l : Launch) (v0 : Option Nat) (v1 : Int32) : zMet l yX12_reading cX12_reading 2 (some .int) 8 201 [.inr (.inr v0), .inl v1] zcI (p_X12_reading v0 v1) :=
  zMet.of (by decide +kernel) (Nat.le_of_ble_eq_true rfl) rfl (sim_X12_reading l v0 v1)
def p_X12_numberOf_c5 (r5 : Option Nat → Int32 → Int32 → Int64 → Int32 → ZM Int64) (v0 : Option Nat) (v1 : Int32) (v2 : Int32) (v3 : Int64) (v5 : Int32) : ZM Int64 :=
  if v2 ≤ v5 then (z_rt v3)
  else (if 10 < (v2 - v1) then (z_rt v3)
  else (z_b (z_gR 13 33 v0) fun x1 => z_b (z_aI x1 v5) fun x2 => z_n (((v3 <<< (Int32.toInt64 4 &&& 63)) ||| (Int32.toInt64 ((x2 - 97) + 1))) : Int64) fun y3 => z_n (v5 + 1 : Int32) fun y4 => r5 v0 v1 v2 y3 y4))
def p_X12_numberOf_l5 : Nat → Option Nat → Int32 → Int32 → Int64 → Int32 → ZM Int64
  | 0, _, _, _, _, _ => z_fl
  | n + 1, v0, v1, v2, v3, v5 => p_X12_numberOf_c5 (p_X12_numberOf_l5 n) v0 v1 v2 v3 v5
def p_X12_numberOf (v0 : Option Nat) (v1 : Int32) (v2 : Int32) : ZM Int64 :=
  p_X12_numberOf_l5 zFuel v0 v1 v2 0 v1
abbrev M_X12_numberOf (l : Launch) : ZMe := (l, "SpellScribeModel", cX12_numberOf, 6, 0, 0, (some .long), "numberOf", [])
set_option maxRecDepth 20000 in
theorem sim_X12_numberOf_c5 (l : Launch) (r5 : Option Nat → Int32 → Int32 → Int64 → Int32 → ZM Int64) (hr5 : ∀ (v0 : Option Nat) (v1 : Int32) (v2 : Int32) (v3 : Int64) (v5 : Int32), Sim (M_X12_numberOf l) (zFin zcL) 5 [(0, .inr (.inr v0)), (1, .inl v1), (2, .inl v2), (3, .inr (.inl v3)), (5, .inl v5)] [] (r5 v0 v1 v2 v3 v5)) (v0 : Option Nat) (v1 : Int32) (v2 : Int32) (v3 : Int64) (v5 : Int32) : Sim (M_X12_numberOf l) (zFin zcL) 5 [(0, .inr (.inr v0)), (1, .inl v1), (2, .inl v2), (3, .inr (.inl v3)), (5, .inl v5)] [] (p_X12_numberOf_c5 r5 v0 v1 v2 v3 v5) := by
  unfold p_X12_numberOf_c5
  refine s_iload (j := 4) dX12_numberOf_5 rfl ?_
  refine s_iloadn (j := 2) dX12_numberOf_7 rfl ?_
  refine s_icmp_ge (tgt := 43) dX12_numberOf_8 (by decide) ?_ ?_
  · refine s_lloadn (j := 3) dX12_numberOf_43 rfl ?_
    exact s_lret dX12_numberOf_44 rfl
  · refine s_iloadn (j := 2) dX12_numberOf_11 rfl ?_
    refine s_iloadn (j := 1) dX12_numberOf_12 rfl ?_
    refine s_isub dX12_numberOf_13 ?_
    refine s_bipush (v := 10) dX12_numberOf_14 (by decide) ?_
    refine s_icmp_gt (tgt := 43) dX12_numberOf_16 (by decide) ?_ ?_
    · refine s_lloadn (j := 3) dX12_numberOf_43 rfl ?_
      exact s_lret dX12_numberOf_44 rfl
    · refine s_lloadn (j := 3) dX12_numberOf_19 rfl ?_
      refine s_iconst (v := 4) dX12_numberOf_20 (by decide) ?_
      refine s_lshl dX12_numberOf_21 ?_
      refine s_aloadn (j := 0) dX12_numberOf_22 rfl ?_
      refine s_getR (k := 33) cls_13 (by decide) rfl dX12_numberOf_23 w_1381 rfl (fun x1 => ?_)
      refine s_iload (j := 4) dX12_numberOf_26 rfl ?_
      refine s_iald dX12_numberOf_28 (fun x2 => ?_)
      refine s_bipush (v := 97) dX12_numberOf_29 (by decide) ?_
      refine s_isub dX12_numberOf_31 ?_
      refine s_iconst (v := 1) dX12_numberOf_32 (by decide) ?_
      refine s_iadd dX12_numberOf_33 ?_
      refine s_i2l dX12_numberOf_34 ?_
      refine s_lor dX12_numberOf_35 ?_
      refine s_nJ (fun y3 => ?_)
      refine s_lstoren (lv' := [(3, .inr (.inl y3)), (0, .inr (.inr v0)), (1, .inl v1), (2, .inl v2), (5, .inl v5)]) dX12_numberOf_36 (Nat.le_of_ble_eq_true rfl) rfl ?_
      refine s_n0 (fun y4 hy4 => ?_)
      refine s_iinc (j := 4) (v := y4) (d := 1) (lv' := [(5, .inl y4), (3, .inr (.inl y3)), (0, .inr (.inr v0)), (1, .inl v1), (2, .inl v2)]) dX12_numberOf_37 rfl (by decide) hy4 (Nat.le_of_ble_eq_true rfl) rfl ?_
      refine s_goto (tgt := 5) dX12_numberOf_40 (by decide) ?_
      exact Sim.sub [2, 3, 4, 1, 0] rfl (hr5 v0 v1 v2 y3 y4)
theorem sim_X12_numberOf_l5 (l : Launch) : ∀ (n : Nat) (v0 : Option Nat) (v1 : Int32) (v2 : Int32) (v3 : Int64) (v5 : Int32), Sim (M_X12_numberOf l) (zFin zcL) 5 [(0, .inr (.inr v0)), (1, .inl v1), (2, .inl v2), (3, .inr (.inl v3)), (5, .inl v5)] [] (p_X12_numberOf_l5 n v0 v1 v2 v3 v5)
  | 0, _, _, _, _, _ => s_fl
  | n + 1, v0, v1, v2, v3, v5 => sim_X12_numberOf_c5 l (p_X12_numberOf_l5 n) (sim_X12_numberOf_l5 l n) v0 v1 v2 v3 v5
set_option maxRecDepth 20000 in
theorem sim_X12_numberOf (l : Launch) (v0 : Option Nat) (v1 : Int32) (v2 : Int32) : Sim (M_X12_numberOf l) (zFin zcL) 0 [(0, .inr (.inr v0)), (1, .inl v1), (2, .inl v2)] [] (p_X12_numberOf v0 v1 v2) := by
  unfold p_X12_numberOf
  refine s_lconst (v := 0) dX12_numberOf_0 (by decide) ?_
  refine s_lstoren (lv' := [(3, .inr (.inl 0)), (0, .inr (.inr v0)), (1, .inl v1), (2, .inl v2)]) dX12_numberOf_1 (Nat.le_of_ble_eq_true rfl) rfl ?_
  refine s_iloadn (j := 2) dX12_numberOf_2 rfl ?_
  refine s_istore (lv' := [(5, .inl v1), (3, .inr (.inl 0)), (0, .inr (.inr v0)), (1, .inl v1), (2, .inl v2)]) dX12_numberOf_3 (Nat.le_of_ble_eq_true rfl) rfl ?_
  exact Sim.sub [2, 3, 4, 1, 0] rfl (sim_X12_numberOf_l5 l zFuel v0 v1 v2 0 v1)
theorem met_X12_numberOf (l : Launch) (v0 : Option Nat) (v1 : Int32) (v2 : Int32) : zMet l yX12_numberOf cX12_numberOf 6 (some .long) 0 0 [.inr (.inr v0), .inl v1, .inl v2] zcL (p_X12_numberOf v0 v1 v2) :=
  zMet.of (by decide +kernel) (Nat.le_of_ble_eq_true rfl) rfl (sim_X12_numberOf l v0 v1 v2)
def p_X12_split_b68 (r19 : Option Nat → Int32 → Int32 → Int32 → ZM Int32) (v0 : Option Nat) (v1 : Int32) (v2 : Int32) (v3 : Int32) : ZM Int32 :=
  z_n (v3 + 1 : Int32) fun y1 => r19 v0 v1 v2 y1
def p_X12_split_c19 (r19 : Option Nat → Int32 → Int32 → Int32 → ZM Int32) (v0 : Option Nat) (v1 : Int32) (v2 : Int32) (v3 : Int32) : ZM Int32 :=
  z_b (z_gR 13 42 v0) fun x2 => z_b (z_aI x2 v1) fun x3 => if x3 ≤ v3 then (z_rt (-1))
  else (z_b (z_vr 13 v0 (p_X12_numberOf v0 v2 (v2 + v3))) fun x4 => z_b (z_vr 13 v0 (p_X12_readingsOf v0 x4)) fun x5 => if x5 = 0 then (p_X12_split_b68 r19 v0 v1 v2 v3)
  else (z_b (z_gR 13 42 v0) fun x6 => z_b (z_aI x6 v1) fun x7 => z_b (z_vr 13 v0 (p_X12_numberOf v0 (v2 + v3) (v2 + x7))) fun x8 => z_b (z_vr 13 v0 (p_X12_readingsOf v0 x8)) fun x9 => if x9 = 0 then (p_X12_split_b68 r19 v0 v1 v2 v3)
  else (z_rt v3)))
def p_X12_split_l19 : Nat → Option Nat → Int32 → Int32 → Int32 → ZM Int32
  | 0, _, _, _, _ => z_fl
  | n + 1, v0, v1, v2, v3 => p_X12_split_c19 (p_X12_split_l19 n) v0 v1 v2 v3
def p_X12_split (v0 : Option Nat) (v1 : Int32) : ZM Int32 :=
  z_b (z_vr 13 v0 (p_X12_hasWord v0 v1)) fun x10 => if ¬ x10 = 0 then (z_b (z_gR 13 41 v0) fun x11 => z_b (z_aI x11 v1) fun x12 => p_X12_split_l19 zFuel v0 v1 x12 1)
  else (z_rt 0)
abbrev M_X12_split (l : Launch) : ZMe := (l, "SpellScribeModel", cX12_split, 4, 8, 201, (some .int), "split", [])
set_option maxRecDepth 20000 in
theorem sim_X12_split_b68 (l : Launch) (r19 : Option Nat → Int32 → Int32 → Int32 → ZM Int32) (hr19 : ∀ (v0 : Option Nat) (v1 : Int32) (v2 : Int32) (v3 : Int32), Sim (M_X12_split l) (zFin zcI) 19 [(0, .inr (.inr v0)), (1, .inl v1), (2, .inl v2), (3, .inl v3)] [] (r19 v0 v1 v2 v3)) (v0 : Option Nat) (v1 : Int32) (v2 : Int32) (v3 : Int32) : Sim (M_X12_split l) (zFin zcI) 68 [(0, .inr (.inr v0)), (1, .inl v1), (2, .inl v2), (3, .inl v3)] [] (p_X12_split_b68 r19 v0 v1 v2 v3) := by
  unfold p_X12_split_b68
  refine s_n0 (fun y1 hy1 => ?_)
  refine s_iinc (j := 3) (v := y1) (d := 1) (lv' := [(3, .inl y1), (0, .inr (.inr v0)), (1, .inl v1), (2, .inl v2)]) dX12_split_68 rfl (by decide) hy1 (Nat.le_of_ble_eq_true rfl) rfl ?_
  refine s_goto (tgt := 19) dX12_split_71 (by decide) ?_
  exact Sim.sub [1, 2, 3, 0] rfl (hr19 v0 v1 v2 y1)
set_option maxRecDepth 20000 in
theorem sim_X12_split_c19 (l : Launch) (r19 : Option Nat → Int32 → Int32 → Int32 → ZM Int32) (hr19 : ∀ (v0 : Option Nat) (v1 : Int32) (v2 : Int32) (v3 : Int32), Sim (M_X12_split l) (zFin zcI) 19 [(0, .inr (.inr v0)), (1, .inl v1), (2, .inl v2), (3, .inl v3)] [] (r19 v0 v1 v2 v3)) (v0 : Option Nat) (v1 : Int32) (v2 : Int32) (v3 : Int32) : Sim (M_X12_split l) (zFin zcI) 19 [(0, .inr (.inr v0)), (1, .inl v1), (2, .inl v2), (3, .inl v3)] [] (p_X12_split_c19 r19 v0 v1 v2 v3) := by
  unfold p_X12_split_c19
  refine s_iloadn (j := 3) dX12_split_19 rfl ?_
  refine s_aloadn (j := 0) dX12_split_20 rfl ?_
  refine s_getR (k := 42) cls_13 (by decide) rfl dX12_split_21 w_1390 rfl (fun x2 => ?_)
  refine s_iloadn (j := 1) dX12_split_24 rfl ?_
  refine s_iald dX12_split_25 (fun x3 => ?_)
  refine s_icmp_ge (tgt := 74) dX12_split_26 (by decide) ?_ ?_
  · refine s_iconst (v := (-1)) dX12_split_74 (by decide) ?_
    exact s_iret dX12_split_75 rfl
  · refine s_aloadn (j := 0) dX12_split_29 rfl ?_
    refine s_aloadn (j := 0) dX12_split_30 rfl ?_
    refine s_iloadn (j := 2) dX12_split_31 rfl ?_
    refine s_iloadn (j := 2) dX12_split_32 rfl ?_
    refine s_iloadn (j := 3) dX12_split_33 rfl ?_
    refine s_iadd dX12_split_34 ?_
    refine s_cVL (rest := [.inr (.inr v0)]) (met_X12_numberOf l v0 v2 (v2 + v3)) cls_13 mth_X12_numberOf rfl dX12_split_35 w_1791 w_1793 wp_74 ⟨Nat.le_of_ble_eq_true rfl, Nat.le_of_ble_eq_true rfl⟩ (Nat.le_of_ble_eq_true rfl) rfl (fun x4 => ?_)
    refine s_cVI (rest := []) (met_X12_readingsOf l v0 x4) cls_13 mth_X12_readingsOf rfl dX12_split_38 w_1639 w_1641 wp_53 ⟨Nat.le_of_ble_eq_true rfl, Nat.le_of_ble_eq_true rfl⟩ (Nat.le_of_ble_eq_true rfl) rfl (fun x5 => ?_)
    refine s_if_eq (tgt := 68) dX12_split_41 (by decide) ?_ ?_
    · exact Sim.sub [0, 1, 2, 3] rfl (sim_X12_split_b68 l r19 hr19 v0 v1 v2 v3)
    · refine s_aloadn (j := 0) dX12_split_44 rfl ?_
      refine s_aloadn (j := 0) dX12_split_45 rfl ?_
      refine s_iloadn (j := 2) dX12_split_46 rfl ?_
      refine s_iloadn (j := 3) dX12_split_47 rfl ?_
      refine s_iadd dX12_split_48 ?_
      refine s_iloadn (j := 2) dX12_split_49 rfl ?_
      refine s_aloadn (j := 0) dX12_split_50 rfl ?_
      refine s_getR (k := 42) cls_13 (by decide) rfl dX12_split_51 w_1390 rfl (fun x6 => ?_)
      refine s_iloadn (j := 1) dX12_split_54 rfl ?_
      refine s_iald dX12_split_55 (fun x7 => ?_)
      refine s_iadd dX12_split_56 ?_
      refine s_cVL (rest := [.inr (.inr v0)]) (met_X12_numberOf l v0 (v2 + v3) (v2 + x7)) cls_13 mth_X12_numberOf rfl dX12_split_57 w_1791 w_1793 wp_74 ⟨Nat.le_of_ble_eq_true rfl, Nat.le_of_ble_eq_true rfl⟩ (Nat.le_of_ble_eq_true rfl) rfl (fun x8 => ?_)
      refine s_cVI (rest := []) (met_X12_readingsOf l v0 x8) cls_13 mth_X12_readingsOf rfl dX12_split_60 w_1639 w_1641 wp_53 ⟨Nat.le_of_ble_eq_true rfl, Nat.le_of_ble_eq_true rfl⟩ (Nat.le_of_ble_eq_true rfl) rfl (fun x9 => ?_)
      refine s_if_eq (tgt := 68) dX12_split_63 (by decide) ?_ ?_
      · exact Sim.sub [0, 1, 2, 3] rfl (sim_X12_split_b68 l r19 hr19 v0 v1 v2 v3)
      · refine s_iloadn (j := 3) dX12_split_66 rfl ?_
        exact s_iret dX12_split_67 rfl
theorem sim_X12_split_l19 (l : Launch) : ∀ (n : Nat) (v0 : Option Nat) (v1 : Int32) (v2 : Int32) (v3 : Int32), Sim (M_X12_split l) (zFin zcI) 19 [(0, .inr (.inr v0)), (1, .inl v1), (2, .inl v2), (3, .inl v3)] [] (p_X12_split_l19 n v0 v1 v2 v3)
  | 0, _, _, _, _ => s_fl
  | n + 1, v0, v1, v2, v3 => sim_X12_split_c19 l (p_X12_split_l19 n) (sim_X12_split_l19 l n) v0 v1 v2 v3
set_option maxRecDepth 20000 in
theorem sim_X12_split (l : Launch) (v0 : Option Nat) (v1 : Int32) : Sim (M_X12_split l) (zFin zcI) 0 [(0, .inr (.inr v0)), (1, .inl v1)] [] (p_X12_split v0 v1) := by
  unfold p_X12_split
  refine s_aloadn (j := 0) dX12_split_0 rfl ?_
  refine s_iloadn (j := 1) dX12_split_1 rfl ?_
  refine s_cVI (rest := []) (met_X12_hasWord l v0 v1) cls_13 mth_X12_hasWord rfl dX12_split_2 w_1585 w_1587 wp_44 ⟨Nat.le_of_ble_eq_true rfl, Nat.le_of_ble_eq_true rfl⟩ (Nat.le_of_ble_eq_true rfl) rfl (fun x10 => ?_)
  refine s_if_ne (tgt := 10) dX12_split_5 (by decide) ?_ ?_
  · refine s_aloadn (j := 0) dX12_split_10 rfl ?_
    refine s_getR (k := 41) cls_13 (by decide) rfl dX12_split_11 w_1389 rfl (fun x11 => ?_)
    refine s_iloadn (j := 1) dX12_split_14 rfl ?_
    refine s_iald dX12_split_15 (fun x12 => ?_)
    refine s_istoren (lv' := [(2, .inl x12), (0, .inr (.inr v0)), (1, .inl v1)]) dX12_split_16 (Nat.le_of_ble_eq_true rfl) rfl ?_
    refine s_iconst (v := 1) dX12_split_17 (by decide) ?_
    refine s_istoren (lv' := [(3, .inl 1), (2, .inl x12), (0, .inr (.inr v0)), (1, .inl v1)]) dX12_split_18 (Nat.le_of_ble_eq_true rfl) rfl ?_
    exact Sim.sub [2, 3, 1, 0] rfl (sim_X12_split_l19 l zFuel v0 v1 x12 1)
  · refine s_iconst (v := 0) dX12_split_8 (by decide) ?_
    exact s_iret dX12_split_9 rfl
theorem met_X12_split (l : Launch) (v0 : Option Nat) (v1 : Int32) : zMet l yX12_split cX12_split 4 (some .int) 8 201 [.inr (.inr v0), .inl v1] zcI (p_X12_split v0 v1) :=
  zMet.of (by decide +kernel) (Nat.le_of_ble_eq_true rfl) rfl (sim_X12_split l v0 v1)
def p_X12_mistakesOf_b35 (s0 : Int32) (s1 : Int32) : ZM Int32 :=
  z_rt (s0 + s1)
def p_X12_mistakesOf_b14 (v0 : Option Nat) (v1 : Int32) (s0 : Int32) : ZM Int32 :=
  z_b (z_gR 13 47 v0) fun x1 => z_b (z_aI x1 v1) fun x2 => z_b (z_gR 13 48 v0) fun x3 => z_b (z_aI x3 v1) fun x4 => if x4 ≤ 0 then (p_X12_mistakesOf_b35 (s0 + x2) 0)
  else (p_X12_mistakesOf_b35 (s0 + x2) 1)
def p_X12_mistakesOf (v0 : Option Nat) (v1 : Int32) : ZM Int32 :=
  z_b (z_gR 13 45 v0) fun x5 => z_b (z_aI x5 v1) fun x6 => if ¬ x6 = 0 then (p_X12_mistakesOf_b14 v0 v1 0)
  else (p_X12_mistakesOf_b14 v0 v1 1)
abbrev M_X12_mistakesOf (l : Launch) : ZMe := (l, "SpellScribeModel", cX12_mistakesOf, 2, 0, 0, (some .int), "mistakesOf", [])
set_option maxRecDepth 20000 in
theorem sim_X12_mistakesOf_b35 (l : Launch) (s0 : Int32) (s1 : Int32) : Sim (M_X12_mistakesOf l) (zFin zcI) 35 [] [.inl s1, .inl s0] (p_X12_mistakesOf_b35 s0 s1) := by
  unfold p_X12_mistakesOf_b35
  refine s_iadd dX12_mistakesOf_35 ?_
  exact s_iret dX12_mistakesOf_36 rfl
set_option maxRecDepth 20000 in
theorem sim_X12_mistakesOf_b14 (l : Launch) (v0 : Option Nat) (v1 : Int32) (s0 : Int32) : Sim (M_X12_mistakesOf l) (zFin zcI) 14 [(0, .inr (.inr v0)), (1, .inl v1)] [.inl s0] (p_X12_mistakesOf_b14 v0 v1 s0) := by
  unfold p_X12_mistakesOf_b14
  refine s_aloadn (j := 0) dX12_mistakesOf_14 rfl ?_
  refine s_getR (k := 47) cls_13 (by decide) rfl dX12_mistakesOf_15 w_1395 rfl (fun x1 => ?_)
  refine s_iloadn (j := 1) dX12_mistakesOf_18 rfl ?_
  refine s_iald dX12_mistakesOf_19 (fun x2 => ?_)
  refine s_iadd dX12_mistakesOf_20 ?_
  refine s_aloadn (j := 0) dX12_mistakesOf_21 rfl ?_
  refine s_getR (k := 48) cls_13 (by decide) rfl dX12_mistakesOf_22 w_1396 rfl (fun x3 => ?_)
  refine s_iloadn (j := 1) dX12_mistakesOf_25 rfl ?_
  refine s_iald dX12_mistakesOf_26 (fun x4 => ?_)
  refine s_if_le (tgt := 34) dX12_mistakesOf_27 (by decide) ?_ ?_
  · refine s_iconst (v := 0) dX12_mistakesOf_34 (by decide) ?_
    exact Sim.sub [] rfl (sim_X12_mistakesOf_b35 l (s0 + x2) 0)
  · refine s_iconst (v := 1) dX12_mistakesOf_30 (by decide) ?_
    refine s_goto (tgt := 35) dX12_mistakesOf_31 (by decide) ?_
    exact Sim.sub [] rfl (sim_X12_mistakesOf_b35 l (s0 + x2) 1)
set_option maxRecDepth 20000 in
theorem sim_X12_mistakesOf (l : Launch) (v0 : Option Nat) (v1 : Int32) : Sim (M_X12_mistakesOf l) (zFin zcI) 0 [(0, .inr (.inr v0)), (1, .inl v1)] [] (p_X12_mistakesOf v0 v1) := by
  unfold p_X12_mistakesOf
  refine s_aloadn (j := 0) dX12_mistakesOf_0 rfl ?_
  refine s_getR (k := 45) cls_13 (by decide) rfl dX12_mistakesOf_1 w_1393 rfl (fun x5 => ?_)
  refine s_iloadn (j := 1) dX12_mistakesOf_4 rfl ?_
  refine s_iald dX12_mistakesOf_5 (fun x6 => ?_)
  refine s_if_ne (tgt := 13) dX12_mistakesOf_6 (by decide) ?_ ?_
  · refine s_iconst (v := 0) dX12_mistakesOf_13 (by decide) ?_
    exact Sim.sub [0, 1] rfl (sim_X12_mistakesOf_b14 l v0 v1 0)
  · refine s_iconst (v := 1) dX12_mistakesOf_9 (by decide) ?_
    refine s_goto (tgt := 14) dX12_mistakesOf_10 (by decide) ?_
    exact Sim.sub [0, 1] rfl (sim_X12_mistakesOf_b14 l v0 v1 1)
theorem met_X12_mistakesOf (l : Launch) (v0 : Option Nat) (v1 : Int32) : zMet l yX12_mistakesOf cX12_mistakesOf 2 (some .int) 0 0 [.inr (.inr v0), .inl v1] zcI (p_X12_mistakesOf v0 v1) :=
  zMet.of (by decide +kernel) (Nat.le_of_ble_eq_true rfl) rfl (sim_X12_mistakesOf l v0 v1)
def p_X12_mistakes_c13 (r13 : Option Nat → Int32 → Int32 → ZM Int32) (v0 : Option Nat) (v1 : Int32) (v2 : Int32) : ZM Int32 :=
  z_b (z_gI 13 40 v0) fun x1 => if x1 ≤ v2 then (z_rt v1)
  else (z_b (z_vr 13 v0 (p_X12_mistakesOf v0 v2)) fun x2 => z_n ((v1 + x2) : Int32) fun y3 => z_n (v2 + 1 : Int32) fun y4 => r13 v0 y3 y4)
def p_X12_mistakes_l13 : Nat → Option Nat → Int32 → Int32 → ZM Int32
  | 0, _, _, _ => z_fl
  | n + 1, v0, v1, v2 => p_X12_mistakes_c13 (p_X12_mistakes_l13 n) v0 v1 v2
def p_X12_mistakes (v0 : Option Nat) : ZM Int32 :=
  z_b (z_pI 13 58 v0 0) fun _ => z_b (z_vr 13 v0 (p_X12_reads v0)) fun _ => p_X12_mistakes_l13 zFuel v0 0 0
abbrev M_X12_mistakes (l : Launch) : ZMe := (l, "SpellScribeModel", cX12_mistakes, 3, 7, 180, (some .int), "mistakes", [])
set_option maxRecDepth 20000 in
theorem sim_X12_mistakes_c13 (l : Launch) (r13 : Option Nat → Int32 → Int32 → ZM Int32) (hr13 : ∀ (v0 : Option Nat) (v1 : Int32) (v2 : Int32), Sim (M_X12_mistakes l) (zFin zcI) 13 [(0, .inr (.inr v0)), (1, .inl v1), (2, .inl v2)] [] (r13 v0 v1 v2)) (v0 : Option Nat) (v1 : Int32) (v2 : Int32) : Sim (M_X12_mistakes l) (zFin zcI) 13 [(0, .inr (.inr v0)), (1, .inl v1), (2, .inl v2)] [] (p_X12_mistakes_c13 r13 v0 v1 v2) := by
  unfold p_X12_mistakes_c13
  refine s_iloadn (j := 2) dX12_mistakes_13 rfl ?_
  refine s_aloadn (j := 0) dX12_mistakes_14 rfl ?_
  refine s_getI (k := 40) cls_13 (by decide) rfl dX12_mistakes_15 w_1388 rfl (fun x1 => ?_)
  refine s_icmp_ge (tgt := 35) dX12_mistakes_18 (by decide) ?_ ?_
  · refine s_iloadn (j := 1) dX12_mistakes_35 rfl ?_
    exact s_iret dX12_mistakes_36 rfl
  · refine s_iloadn (j := 1) dX12_mistakes_21 rfl ?_
    refine s_aloadn (j := 0) dX12_mistakes_22 rfl ?_
    refine s_iloadn (j := 2) dX12_mistakes_23 rfl ?_
    refine s_cVI (rest := [.inl v1]) (met_X12_mistakesOf l v0 v2) cls_13 mth_X12_mistakesOf rfl dX12_mistakes_24 w_1799 w_1801 wp_75 ⟨Nat.le_of_ble_eq_true rfl, Nat.le_of_ble_eq_true rfl⟩ (Nat.le_of_ble_eq_true rfl) rfl (fun x2 => ?_)
    refine s_iadd dX12_mistakes_27 ?_
    refine s_nI (fun y3 => ?_)
    refine s_istoren (lv' := [(1, .inl y3), (0, .inr (.inr v0)), (2, .inl v2)]) dX12_mistakes_28 (Nat.le_of_ble_eq_true rfl) rfl ?_
    refine s_n0 (fun y4 hy4 => ?_)
    refine s_iinc (j := 2) (v := y4) (d := 1) (lv' := [(2, .inl y4), (1, .inl y3), (0, .inr (.inr v0))]) dX12_mistakes_29 rfl (by decide) hy4 (Nat.le_of_ble_eq_true rfl) rfl ?_
    refine s_goto (tgt := 13) dX12_mistakes_32 (by decide) ?_
    exact Sim.sub [2, 1, 0] rfl (hr13 v0 y3 y4)
theorem sim_X12_mistakes_l13 (l : Launch) : ∀ (n : Nat) (v0 : Option Nat) (v1 : Int32) (v2 : Int32), Sim (M_X12_mistakes l) (zFin zcI) 13 [(0, .inr (.inr v0)), (1, .inl v1), (2, .inl v2)] [] (p_X12_mistakes_l13 n v0 v1 v2)
  | 0, _, _, _ => s_fl
  | n + 1, v0, v1, v2 => sim_X12_mistakes_c13 l (p_X12_mistakes_l13 n) (sim_X12_mistakes_l13 l n) v0 v1 v2
set_option maxRecDepth 20000 in
theorem sim_X12_mistakes (l : Launch) (v0 : Option Nat) : Sim (M_X12_mistakes l) (zFin zcI) 0 [(0, .inr (.inr v0))] [] (p_X12_mistakes v0) := by
  unfold p_X12_mistakes
  refine s_aloadn (j := 0) dX12_mistakes_0 rfl ?_
  refine s_iconst (v := 0) dX12_mistakes_1 (by decide) ?_
  refine s_putI (k := 58) cls_13 (by decide) rfl rfl rfl dX12_mistakes_2 w_1406 rfl ?_
  refine s_aloadn (j := 0) dX12_mistakes_5 rfl ?_
  refine s_cVV (rest := []) (met_X12_reads l v0) cls_13 mth_X12_reads rfl dX12_mistakes_6 w_1589 w_1591 wp_45 ⟨Nat.le_of_ble_eq_true rfl, Nat.le_of_ble_eq_true rfl⟩ (Nat.le_of_ble_eq_true rfl) rfl ?_
  refine s_iconst (v := 0) dX12_mistakes_9 (by decide) ?_
  refine s_istoren (lv' := [(1, .inl 0), (0, .inr (.inr v0))]) dX12_mistakes_10 (Nat.le_of_ble_eq_true rfl) rfl ?_
  refine s_iconst (v := 0) dX12_mistakes_11 (by decide) ?_
  refine s_istoren (lv' := [(2, .inl 0), (1, .inl 0), (0, .inr (.inr v0))]) dX12_mistakes_12 (Nat.le_of_ble_eq_true rfl) rfl ?_
  exact Sim.sub [2, 1, 0] rfl (sim_X12_mistakes_l13 l zFuel v0 0 0)
theorem met_X12_mistakes (l : Launch) (v0 : Option Nat) : zMet l yX12_mistakes cX12_mistakes 3 (some .int) 7 180 [.inr (.inr v0)] zcI (p_X12_mistakes v0) :=
  zMet.of (by decide +kernel) (Nat.le_of_ble_eq_true rfl) rfl (sim_X12_mistakes l v0)
def p_X12_wordOf_b62 (v0 : Option Nat) : ZM Int32 :=
  z_b (z_pI 13 58 v0 1) fun _ => z_rt (-1)
def p_X12_wordOf_b35 (v0 : Option Nat) (v2 : Int32) : ZM Int32 :=
  z_b (z_pI 13 58 v0 0) fun _ => z_rt v2
def p_X12_wordOf_c11 (r11 : Option Nat → Int32 → Int32 → ZM Int32) (v0 : Option Nat) (v1 : Int32) (v2 : Int32) : ZM Int32 :=
  z_b (z_gI 13 40 v0) fun x1 => if x1 ≤ v2 then (p_X12_wordOf_b62 v0)
  else (if v1 < 0 then (p_X12_wordOf_b62 v0)
  else (z_b (z_gI 13 52 v0) fun x2 => z_b (z_vr 13 v0 (p_X12_mistakesOf v0 v2)) fun x3 => if x3 ≤ x2 then (z_b (z_gI 13 52 v0) fun x4 => z_b (z_vr 13 v0 (p_X12_mistakesOf v0 v2)) fun x5 => z_b (z_pI 13 52 v0 (x4 - x5)) fun _ => z_n (v2 + 1 : Int32) fun y6 => r11 v0 v1 y6)
  else (p_X12_wordOf_b35 v0 v2)))
def p_X12_wordOf_l11 : Nat → Option Nat → Int32 → Int32 → ZM Int32
  | 0, _, _, _ => z_fl
  | n + 1, v0, v1, v2 => p_X12_wordOf_c11 (p_X12_wordOf_l11 n) v0 v1 v2
def p_X12_wordOf (v0 : Option Nat) (v1 : Int32) : ZM Int32 :=
  z_b (z_vr 13 v0 (p_X12_reads v0)) fun _ => z_b (z_pI 13 52 v0 v1) fun _ => p_X12_wordOf_l11 zFuel v0 v1 0
abbrev M_X12_wordOf (l : Launch) : ZMe := (l, "SpellScribeModel", cX12_wordOf, 3, 7, 180, (some .int), "wordOf", [])
set_option maxRecDepth 20000 in
theorem sim_X12_wordOf_b62 (l : Launch) (v0 : Option Nat) : Sim (M_X12_wordOf l) (zFin zcI) 62 [(0, .inr (.inr v0))] [] (p_X12_wordOf_b62 v0) := by
  unfold p_X12_wordOf_b62
  refine s_aloadn (j := 0) dX12_wordOf_62 rfl ?_
  refine s_iconst (v := 1) dX12_wordOf_63 (by decide) ?_
  refine s_putI (k := 58) cls_13 (by decide) rfl rfl rfl dX12_wordOf_64 w_1406 rfl ?_
  refine s_iconst (v := (-1)) dX12_wordOf_67 (by decide) ?_
  exact s_iret dX12_wordOf_68 rfl
set_option maxRecDepth 20000 in
theorem sim_X12_wordOf_b35 (l : Launch) (v0 : Option Nat) (v2 : Int32) : Sim (M_X12_wordOf l) (zFin zcI) 35 [(0, .inr (.inr v0)), (2, .inl v2)] [] (p_X12_wordOf_b35 v0 v2) := by
  unfold p_X12_wordOf_b35
  refine s_aloadn (j := 0) dX12_wordOf_35 rfl ?_
  refine s_iconst (v := 0) dX12_wordOf_36 (by decide) ?_
  refine s_putI (k := 58) cls_13 (by decide) rfl rfl rfl dX12_wordOf_37 w_1406 rfl ?_
  refine s_iloadn (j := 1) dX12_wordOf_40 rfl ?_
  exact s_iret dX12_wordOf_41 rfl
set_option maxRecDepth 20000 in
theorem sim_X12_wordOf_c11 (l : Launch) (r11 : Option Nat → Int32 → Int32 → ZM Int32) (hr11 : ∀ (v0 : Option Nat) (v1 : Int32) (v2 : Int32), Sim (M_X12_wordOf l) (zFin zcI) 11 [(0, .inr (.inr v0)), (1, .inl v1), (2, .inl v2)] [] (r11 v0 v1 v2)) (v0 : Option Nat) (v1 : Int32) (v2 : Int32) : Sim (M_X12_wordOf l) (zFin zcI) 11 [(0, .inr (.inr v0)), (1, .inl v1), (2, .inl v2)] [] (p_X12_wordOf_c11 r11 v0 v1 v2) := by
  unfold p_X12_wordOf_c11
  refine s_iloadn (j := 2) dX12_wordOf_11 rfl ?_
  refine s_aloadn (j := 0) dX12_wordOf_12 rfl ?_
  refine s_getI (k := 40) cls_13 (by decide) rfl dX12_wordOf_13 w_1388 rfl (fun x1 => ?_)
  refine s_icmp_ge (tgt := 62) dX12_wordOf_16 (by decide) ?_ ?_
  · exact Sim.sub [0] rfl (sim_X12_wordOf_b62 l v0)
  · refine s_iloadn (j := 1) dX12_wordOf_19 rfl ?_
    refine s_if_lt (tgt := 62) dX12_wordOf_20 (by decide) ?_ ?_
    · exact Sim.sub [0] rfl (sim_X12_wordOf_b62 l v0)
    · refine s_aloadn (j := 0) dX12_wordOf_23 rfl ?_
      refine s_getI (k := 52) cls_13 (by decide) rfl dX12_wordOf_24 w_1400 rfl (fun x2 => ?_)
      refine s_aloadn (j := 0) dX12_wordOf_27 rfl ?_
      refine s_iloadn (j := 2) dX12_wordOf_28 rfl ?_
      refine s_cVI (rest := [.inl x2]) (met_X12_mistakesOf l v0 v2) cls_13 mth_X12_mistakesOf rfl dX12_wordOf_29 w_1799 w_1801 wp_75 ⟨Nat.le_of_ble_eq_true rfl, Nat.le_of_ble_eq_true rfl⟩ (Nat.le_of_ble_eq_true rfl) rfl (fun x3 => ?_)
      refine s_icmp_ge (tgt := 42) dX12_wordOf_32 (by decide) ?_ ?_
      · refine s_aloadn (j := 0) dX12_wordOf_42 rfl ?_
        refine s_dupR dX12_wordOf_43 ?_
        refine s_getI (k := 52) cls_13 (by decide) rfl dX12_wordOf_44 w_1400 rfl (fun x4 => ?_)
        refine s_aloadn (j := 0) dX12_wordOf_47 rfl ?_
        refine s_iloadn (j := 2) dX12_wordOf_48 rfl ?_
        refine s_cVI (rest := [.inl x4, .inr (.inr v0)]) (met_X12_mistakesOf l v0 v2) cls_13 mth_X12_mistakesOf rfl dX12_wordOf_49 w_1799 w_1801 wp_75 ⟨Nat.le_of_ble_eq_true rfl, Nat.le_of_ble_eq_true rfl⟩ (Nat.le_of_ble_eq_true rfl) rfl (fun x5 => ?_)
        refine s_isub dX12_wordOf_52 ?_
        refine s_putI (k := 52) cls_13 (by decide) rfl rfl rfl dX12_wordOf_53 w_1400 rfl ?_
        refine s_n0 (fun y6 hy6 => ?_)
        refine s_iinc (j := 2) (v := y6) (d := 1) (lv' := [(2, .inl y6), (0, .inr (.inr v0)), (1, .inl v1)]) dX12_wordOf_56 rfl (by decide) hy6 (Nat.le_of_ble_eq_true rfl) rfl ?_
        refine s_goto (tgt := 11) dX12_wordOf_59 (by decide) ?_
        exact Sim.sub [1, 2, 0] rfl (hr11 v0 v1 y6)
      · exact Sim.sub [0, 2] rfl (sim_X12_wordOf_b35 l v0 v2)
theorem sim_X12_wordOf_l11 (l : Launch) : ∀ (n : Nat) (v0 : Option Nat) (v1 : Int32) (v2 : Int32), Sim (M_X12_wordOf l) (zFin zcI) 11 [(0, .inr (.inr v0)), (1, .inl v1), (2, .inl v2)] [] (p_X12_wordOf_l11 n v0 v1 v2)
  | 0, _, _, _ => s_fl
  | n + 1, v0, v1, v2 => sim_X12_wordOf_c11 l (p_X12_wordOf_l11 n) (sim_X12_wordOf_l11 l n) v0 v1 v2
set_option maxRecDepth 20000 in
theorem sim_X12_wordOf (l : Launch) (v0 : Option Nat) (v1 : Int32) : Sim (M_X12_wordOf l) (zFin zcI) 0 [(0, .inr (.inr v0)), (1, .inl v1)] [] (p_X12_wordOf v0 v1) := by
  unfold p_X12_wordOf
  refine s_aloadn (j := 0) dX12_wordOf_0 rfl ?_
  refine s_cVV (rest := []) (met_X12_reads l v0) cls_13 mth_X12_reads rfl dX12_wordOf_1 w_1589 w_1591 wp_45 ⟨Nat.le_of_ble_eq_true rfl, Nat.le_of_ble_eq_true rfl⟩ (Nat.le_of_ble_eq_true rfl) rfl ?_
  refine s_aloadn (j := 0) dX12_wordOf_4 rfl ?_
  refine s_iloadn (j := 1) dX12_wordOf_5 rfl ?_
  refine s_putI (k := 52) cls_13 (by decide) rfl rfl rfl dX12_wordOf_6 w_1400 rfl ?_
  refine s_iconst (v := 0) dX12_wordOf_9 (by decide) ?_
  refine s_istoren (lv' := [(2, .inl 0), (0, .inr (.inr v0)), (1, .inl v1)]) dX12_wordOf_10 (Nat.le_of_ble_eq_true rfl) rfl ?_
  exact Sim.sub [1, 2, 0] rfl (sim_X12_wordOf_l11 l zFuel v0 v1 0)
theorem met_X12_wordOf (l : Launch) (v0 : Option Nat) (v1 : Int32) : zMet l yX12_wordOf cX12_wordOf 3 (some .int) 7 180 [.inr (.inr v0), .inl v1] zcI (p_X12_wordOf v0 v1) :=
  zMet.of (by decide +kernel) (Nat.le_of_ble_eq_true rfl) rfl (sim_X12_wordOf l v0 v1)
def p_X12_mistakeKind (v0 : Option Nat) (v1 : Int32) : ZM Int32 :=
  z_b (z_vr 13 v0 (p_X12_wordOf v0 v1)) fun x1 => z_b (z_gI 13 58 v0) fun x2 => if x2 ≤ 0 then (z_b (z_gI 13 52 v0) fun x3 => z_b (z_gR 13 45 v0) fun x4 => z_b (z_aI x4 x1) fun x5 => if ¬ x5 = 0 then (z_b (z_gR 13 47 v0) fun x6 => z_b (z_aI x6 x1) fun x7 => if ¬ x7 = 1 then (z_rt 2)
  else (if ¬ x3 = 0 then (z_rt 2)
  else (z_rt 1)))
  else (if ¬ x3 = 0 then (z_rt 2)
  else (z_rt 0)))
  else (z_rt 0)
abbrev M_X12_mistakeKind (l : Launch) : ZMe := (l, "SpellScribeModel", cX12_mistakeKind, 4, 8, 202, (some .int), "mistakeKind", [])
set_option maxRecDepth 20000 in
theorem sim_X12_mistakeKind (l : Launch) (v0 : Option Nat) (v1 : Int32) : Sim (M_X12_mistakeKind l) (zFin zcI) 0 [(0, .inr (.inr v0)), (1, .inl v1)] [] (p_X12_mistakeKind v0 v1) := by
  unfold p_X12_mistakeKind
  refine s_aloadn (j := 0) dX12_mistakeKind_0 rfl ?_
  refine s_iloadn (j := 1) dX12_mistakeKind_1 rfl ?_
  refine s_cVI (rest := []) (met_X12_wordOf l v0 v1) cls_13 mth_X12_wordOf rfl dX12_mistakeKind_2 w_1807 w_1809 wp_76 ⟨Nat.le_of_ble_eq_true rfl, Nat.le_of_ble_eq_true rfl⟩ (Nat.le_of_ble_eq_true rfl) rfl (fun x1 => ?_)
  refine s_istoren (lv' := [(2, .inl x1), (0, .inr (.inr v0)), (1, .inl v1)]) dX12_mistakeKind_5 (Nat.le_of_ble_eq_true rfl) rfl ?_
  refine s_aloadn (j := 1) dX12_mistakeKind_6 rfl ?_
  refine s_getI (k := 58) cls_13 (by decide) rfl dX12_mistakeKind_7 w_1406 rfl (fun x2 => ?_)
  refine s_if_le (tgt := 15) dX12_mistakeKind_10 (by decide) ?_ ?_
  · refine s_aloadn (j := 1) dX12_mistakeKind_15 rfl ?_
    refine s_getI (k := 52) cls_13 (by decide) rfl dX12_mistakeKind_16 w_1400 rfl (fun x3 => ?_)
    refine s_istoren (lv' := [(3, .inl x3), (2, .inl x1), (0, .inr (.inr v0)), (1, .inl v1)]) dX12_mistakeKind_19 (Nat.le_of_ble_eq_true rfl) rfl ?_
    refine s_aloadn (j := 2) dX12_mistakeKind_20 rfl ?_
    refine s_getR (k := 45) cls_13 (by decide) rfl dX12_mistakeKind_21 w_1393 rfl (fun x4 => ?_)
    refine s_iloadn (j := 1) dX12_mistakeKind_24 rfl ?_
    refine s_iald dX12_mistakeKind_25 (fun x5 => ?_)
    refine s_if_ne (tgt := 39) dX12_mistakeKind_26 (by decide) ?_ ?_
    · refine s_aloadn (j := 2) dX12_mistakeKind_39 rfl ?_
      refine s_getR (k := 47) cls_13 (by decide) rfl dX12_mistakeKind_40 w_1395 rfl (fun x6 => ?_)
      refine s_iloadn (j := 1) dX12_mistakeKind_43 rfl ?_
      refine s_iald dX12_mistakeKind_44 (fun x7 => ?_)
      refine s_iconst (v := 1) dX12_mistakeKind_45 (by decide) ?_
      refine s_icmp_ne (tgt := 57) dX12_mistakeKind_46 (by decide) ?_ ?_
      · refine s_iconst (v := 2) dX12_mistakeKind_57 (by decide) ?_
        exact s_iret dX12_mistakeKind_58 rfl
      · refine s_iloadn (j := 0) dX12_mistakeKind_49 rfl ?_
        refine s_if_ne (tgt := 57) dX12_mistakeKind_50 (by decide) ?_ ?_
        · refine s_iconst (v := 2) dX12_mistakeKind_57 (by decide) ?_
          exact s_iret dX12_mistakeKind_58 rfl
        · refine s_iconst (v := 1) dX12_mistakeKind_53 (by decide) ?_
          refine s_goto (tgt := 58) dX12_mistakeKind_54 (by decide) ?_
          exact s_iret dX12_mistakeKind_58 rfl
    · refine s_iloadn (j := 0) dX12_mistakeKind_29 rfl ?_
      refine s_if_ne (tgt := 37) dX12_mistakeKind_30 (by decide) ?_ ?_
      · refine s_iconst (v := 2) dX12_mistakeKind_37 (by decide) ?_
        exact s_iret dX12_mistakeKind_38 rfl
      · refine s_iconst (v := 0) dX12_mistakeKind_33 (by decide) ?_
        refine s_goto (tgt := 38) dX12_mistakeKind_34 (by decide) ?_
        exact s_iret dX12_mistakeKind_38 rfl
  · refine s_iconst (v := 0) dX12_mistakeKind_13 (by decide) ?_
    exact s_iret dX12_mistakeKind_14 rfl
theorem met_X12_mistakeKind (l : Launch) (v0 : Option Nat) (v1 : Int32) : zMet l yX12_mistakeKind cX12_mistakeKind 4 (some .int) 8 202 [.inr (.inr v0), .inl v1] zcI (p_X12_mistakeKind v0 v1) :=
  zMet.of (by decide +kernel) (Nat.le_of_ble_eq_true rfl) rfl (sim_X12_mistakeKind l v0 v1)
def p_X12_mistakeAt (v0 : Option Nat) (v1 : Int32) : ZM Int32 :=
  z_b (z_vr 13 v0 (p_X12_wordOf v0 v1)) fun x1 => z_b (z_gI 13 58 v0) fun x2 => if x2 ≤ 0 then (z_rt x1)
  else (z_rt 0)
abbrev M_X12_mistakeAt (l : Launch) : ZMe := (l, "SpellScribeModel", cX12_mistakeAt, 3, 8, 202, (some .int), "mistakeAt", [])
set_option maxRecDepth 20000 in
theorem sim_X12_mistakeAt (l : Launch) (v0 : Option Nat) (v1 : Int32) : Sim (M_X12_mistakeAt l) (zFin zcI) 0 [(0, .inr (.inr v0)), (1, .inl v1)] [] (p_X12_mistakeAt v0 v1) := by
  unfold p_X12_mistakeAt
  refine s_aloadn (j := 0) dX12_mistakeAt_0 rfl ?_
  refine s_iloadn (j := 1) dX12_mistakeAt_1 rfl ?_
  refine s_cVI (rest := []) (met_X12_wordOf l v0 v1) cls_13 mth_X12_wordOf rfl dX12_mistakeAt_2 w_1807 w_1809 wp_76 ⟨Nat.le_of_ble_eq_true rfl, Nat.le_of_ble_eq_true rfl⟩ (Nat.le_of_ble_eq_true rfl) rfl (fun x1 => ?_)
  refine s_istoren (lv' := [(2, .inl x1), (0, .inr (.inr v0)), (1, .inl v1)]) dX12_mistakeAt_5 (Nat.le_of_ble_eq_true rfl) rfl ?_
  refine s_aloadn (j := 1) dX12_mistakeAt_6 rfl ?_
  refine s_getI (k := 58) cls_13 (by decide) rfl dX12_mistakeAt_7 w_1406 rfl (fun x2 => ?_)
  refine s_if_le (tgt := 17) dX12_mistakeAt_10 (by decide) ?_ ?_
  · refine s_iloadn (j := 0) dX12_mistakeAt_17 rfl ?_
    exact s_iret dX12_mistakeAt_18 rfl
  · refine s_iconst (v := 0) dX12_mistakeAt_13 (by decide) ?_
    refine s_goto (tgt := 18) dX12_mistakeAt_14 (by decide) ?_
    exact s_iret dX12_mistakeAt_18 rfl
theorem met_X12_mistakeAt (l : Launch) (v0 : Option Nat) (v1 : Int32) : zMet l yX12_mistakeAt cX12_mistakeAt 3 (some .int) 8 202 [.inr (.inr v0), .inl v1] zcI (p_X12_mistakeAt v0 v1) :=
  zMet.of (by decide +kernel) (Nat.le_of_ble_eq_true rfl) rfl (sim_X12_mistakeAt l v0 v1)
def p_X12_suggestions (v0 : Option Nat) (v1 : Int32) : ZM Int32 :=
  z_b (z_vr 13 v0 (p_X12_hasWord v0 v1)) fun x1 => if ¬ x1 = 0 then (z_b (z_vr 13 v0 (p_X12_suggests v0 v1)) fun _ => z_b (z_gI 13 52 v0) fun x2 => z_rt x2)
  else (z_rt 0)
abbrev M_X12_suggestions (l : Launch) : ZMe := (l, "SpellScribeModel", cX12_suggestions, 2, 8, 201, (some .int), "suggestions", [])
set_option maxRecDepth 20000 in
theorem sim_X12_suggestions (l : Launch) (v0 : Option Nat) (v1 : Int32) : Sim (M_X12_suggestions l) (zFin zcI) 0 [(0, .inr (.inr v0)), (1, .inl v1)] [] (p_X12_suggestions v0 v1) := by
  unfold p_X12_suggestions
  refine s_aloadn (j := 0) dX12_suggestions_0 rfl ?_
  refine s_iloadn (j := 1) dX12_suggestions_1 rfl ?_
  refine s_cVI (rest := []) (met_X12_hasWord l v0 v1) cls_13 mth_X12_hasWord rfl dX12_suggestions_2 w_1585 w_1587 wp_44 ⟨Nat.le_of_ble_eq_true rfl, Nat.le_of_ble_eq_true rfl⟩ (Nat.le_of_ble_eq_true rfl) rfl (fun x1 => ?_)
  refine s_if_ne (tgt := 10) dX12_suggestions_5 (by decide) ?_ ?_
  · refine s_aloadn (j := 0) dX12_suggestions_10 rfl ?_
    refine s_iloadn (j := 1) dX12_suggestions_11 rfl ?_
    refine s_cVV (rest := []) (met_X12_suggests l v0 v1) cls_13 mth_X12_suggests rfl dX12_suggestions_12 w_1729 w_1731 wp_68 ⟨Nat.le_of_ble_eq_true rfl, Nat.le_of_ble_eq_true rfl⟩ (Nat.le_of_ble_eq_true rfl) rfl ?_
    refine s_aloadn (j := 0) dX12_suggestions_15 rfl ?_
    refine s_getI (k := 52) cls_13 (by decide) rfl dX12_suggestions_16 w_1400 rfl (fun x2 => ?_)
    exact s_iret dX12_suggestions_19 rfl
  · refine s_iconst (v := 0) dX12_suggestions_8 (by decide) ?_
    exact s_iret dX12_suggestions_9 rfl
theorem met_X12_suggestions (l : Launch) (v0 : Option Nat) (v1 : Int32) : zMet l yX12_suggestions cX12_suggestions 2 (some .int) 8 201 [.inr (.inr v0), .inl v1] zcI (p_X12_suggestions v0 v1) :=
  zMet.of (by decide +kernel) (Nat.le_of_ble_eq_true rfl) rfl (sim_X12_suggestions l v0 v1)
def p_X12_suggestionsByAll (v0 : Option Nat) (v1 : Int32) : ZM Int32 :=
  z_b (z_vr 13 v0 (p_X12_suggestions v0 v1)) fun x1 => z_rt x1
abbrev M_X12_suggestionsByAll (l : Launch) : ZMe := (l, "SpellScribeModel", cX12_suggestionsByAll, 2, 9, 222, (some .int), "suggestionsByAll", [])
set_option maxRecDepth 20000 in
theorem sim_X12_suggestionsByAll (l : Launch) (v0 : Option Nat) (v1 : Int32) : Sim (M_X12_suggestionsByAll l) (zFin zcI) 0 [(0, .inr (.inr v0)), (1, .inl v1)] [] (p_X12_suggestionsByAll v0 v1) := by
  unfold p_X12_suggestionsByAll
  refine s_aloadn (j := 0) dX12_suggestionsByAll_0 rfl ?_
  refine s_iloadn (j := 1) dX12_suggestionsByAll_1 rfl ?_
  refine s_cVI (rest := []) (met_X12_suggestions l v0 v1) cls_13 mth_X12_suggestions rfl dX12_suggestionsByAll_2 w_1823 w_1816 w_1817 ⟨Nat.le_of_ble_eq_true rfl, Nat.le_of_ble_eq_true rfl⟩ (Nat.le_of_ble_eq_true rfl) rfl (fun x1 => ?_)
  exact s_iret dX12_suggestionsByAll_5 rfl
theorem met_X12_suggestionsByAll (l : Launch) (v0 : Option Nat) (v1 : Int32) : zMet l yX12_suggestionsByAll cX12_suggestionsByAll 2 (some .int) 9 222 [.inr (.inr v0), .inl v1] zcI (p_X12_suggestionsByAll v0 v1) :=
  zMet.of (by decide +kernel) (Nat.le_of_ble_eq_true rfl) rfl (sim_X12_suggestionsByAll l v0 v1)
def p_X12_hasSuggestion_b36 (v0 : Option Nat) : ZM Int32 :=
  z_b (z_gI 13 58 v0) fun x1 => if ¬ x1 = 0 then (z_rz 0)
  else (z_rz 1)
def p_X12_hasSuggestion_b33 (v0 : Option Nat) (s0 : Option Nat) (s1 : Int32) : ZM Int32 :=
  z_b (z_pI 13 58 s0 s1) fun _ => p_X12_hasSuggestion_b36 v0
def p_X12_hasSuggestion (v0 : Option Nat) (v1 : Int32) (v2 : Int32) : ZM Int32 :=
  z_b (z_vr 13 v0 (p_X12_hasWord v0 v1)) fun x2 => if x2 = 0 then (p_X12_hasSuggestion_b36 v0)
  else (z_b (z_vr 13 v0 (p_X12_suggests v0 v1)) fun _ => z_b (z_gI 13 52 v0) fun x3 => z_b (p_X12_in v2 0 (x3 - 1)) fun x4 => if x4 = 0 then (p_X12_hasSuggestion_b33 v0 v0 1)
  else (p_X12_hasSuggestion_b33 v0 v0 0))
abbrev M_X12_hasSuggestion (l : Launch) : ZMe := (l, "SpellScribeModel", cX12_hasSuggestion, 3, 8, 201, (some .boolean), "hasSuggestion", [])
set_option maxRecDepth 20000 in
theorem sim_X12_hasSuggestion_b36 (l : Launch) (v0 : Option Nat) : Sim (M_X12_hasSuggestion l) (zFin zcI) 36 [(0, .inr (.inr v0))] [] (p_X12_hasSuggestion_b36 v0) := by
  unfold p_X12_hasSuggestion_b36
  refine s_aloadn (j := 0) dX12_hasSuggestion_36 rfl ?_
  refine s_getI (k := 58) cls_13 (by decide) rfl dX12_hasSuggestion_37 w_1406 rfl (fun x1 => ?_)
  refine s_if_ne (tgt := 47) dX12_hasSuggestion_40 (by decide) ?_ ?_
  · refine s_iconst (v := 0) dX12_hasSuggestion_47 (by decide) ?_
    exact s_zret dX12_hasSuggestion_48 rfl
  · refine s_iconst (v := 1) dX12_hasSuggestion_43 (by decide) ?_
    refine s_goto (tgt := 48) dX12_hasSuggestion_44 (by decide) ?_
    exact s_zret dX12_hasSuggestion_48 rfl
set_option maxRecDepth 20000 in
theorem sim_X12_hasSuggestion_b33 (l : Launch) (v0 : Option Nat) (s0 : Option Nat) (s1 : Int32) : Sim (M_X12_hasSuggestion l) (zFin zcI) 33 [(0, .inr (.inr v0))] [.inl s1, .inr (.inr s0)] (p_X12_hasSuggestion_b33 v0 s0 s1) := by
  unfold p_X12_hasSuggestion_b33
  refine s_putI (k := 58) cls_13 (by decide) rfl rfl rfl dX12_hasSuggestion_33 w_1406 rfl ?_
  exact Sim.sub [0] rfl (sim_X12_hasSuggestion_b36 l v0)
set_option maxRecDepth 20000 in
theorem sim_X12_hasSuggestion (l : Launch) (v0 : Option Nat) (v1 : Int32) (v2 : Int32) : Sim (M_X12_hasSuggestion l) (zFin zcI) 0 [(0, .inr (.inr v0)), (1, .inl v1), (2, .inl v2)] [] (p_X12_hasSuggestion v0 v1 v2) := by
  unfold p_X12_hasSuggestion
  refine s_aloadn (j := 0) dX12_hasSuggestion_0 rfl ?_
  refine s_iloadn (j := 1) dX12_hasSuggestion_1 rfl ?_
  refine s_cVI (rest := []) (met_X12_hasWord l v0 v1) cls_13 mth_X12_hasWord rfl dX12_hasSuggestion_2 w_1585 w_1587 wp_44 ⟨Nat.le_of_ble_eq_true rfl, Nat.le_of_ble_eq_true rfl⟩ (Nat.le_of_ble_eq_true rfl) rfl (fun x2 => ?_)
  refine s_if_eq (tgt := 36) dX12_hasSuggestion_5 (by decide) ?_ ?_
  · exact Sim.sub [0] rfl (sim_X12_hasSuggestion_b36 l v0)
  · refine s_aloadn (j := 0) dX12_hasSuggestion_8 rfl ?_
    refine s_iloadn (j := 1) dX12_hasSuggestion_9 rfl ?_
    refine s_cVV (rest := []) (met_X12_suggests l v0 v1) cls_13 mth_X12_suggests rfl dX12_hasSuggestion_10 w_1729 w_1731 wp_68 ⟨Nat.le_of_ble_eq_true rfl, Nat.le_of_ble_eq_true rfl⟩ (Nat.le_of_ble_eq_true rfl) rfl ?_
    refine s_aloadn (j := 0) dX12_hasSuggestion_13 rfl ?_
    refine s_iloadn (j := 2) dX12_hasSuggestion_14 rfl ?_
    refine s_iconst (v := 0) dX12_hasSuggestion_15 (by decide) ?_
    refine s_aloadn (j := 0) dX12_hasSuggestion_16 rfl ?_
    refine s_getI (k := 52) cls_13 (by decide) rfl dX12_hasSuggestion_17 w_1400 rfl (fun x3 => ?_)
    refine s_iconst (v := 1) dX12_hasSuggestion_20 (by decide) ?_
    refine s_isub dX12_hasSuggestion_21 ?_
    refine s_cSI (rest := [.inr (.inr v0)]) (met_X12_in l v2 0 (x3 - 1)) mth_X12_in rfl dX12_hasSuggestion_22 w_1535 w_1536 ⟨Nat.le_of_ble_eq_true rfl, Nat.le_of_ble_eq_true rfl⟩ (Nat.le_of_ble_eq_true rfl) rfl (fun x4 => ?_)
    refine s_if_eq (tgt := 32) dX12_hasSuggestion_25 (by decide) ?_ ?_
    · refine s_iconst (v := 1) dX12_hasSuggestion_32 (by decide) ?_
      exact Sim.sub [0] rfl (sim_X12_hasSuggestion_b33 l v0 v0 1)
    · refine s_iconst (v := 0) dX12_hasSuggestion_28 (by decide) ?_
      refine s_goto (tgt := 33) dX12_hasSuggestion_29 (by decide) ?_
      exact Sim.sub [0] rfl (sim_X12_hasSuggestion_b33 l v0 v0 0)
theorem met_X12_hasSuggestion (l : Launch) (v0 : Option Nat) (v1 : Int32) (v2 : Int32) : zMet l yX12_hasSuggestion cX12_hasSuggestion 3 (some .boolean) 8 201 [.inr (.inr v0), .inl v1, .inl v2] zcI (p_X12_hasSuggestion v0 v1 v2) :=
  zMet.of (by decide +kernel) (Nat.le_of_ble_eq_true rfl) rfl (sim_X12_hasSuggestion l v0 v1 v2)
def p_X12_cost (v0 : Option Nat) (v1 : Int32) (v2 : Int32) : ZM Int32 :=
  z_b (z_vr 13 v0 (p_X12_hasSuggestion v0 v1 v2)) fun x1 => if x1 = 0 then (z_rt 0)
  else (z_b (z_gR 13 54 v0) fun x2 => z_b (z_aI x2 v2) fun x3 => z_rt x3)
abbrev M_X12_cost (l : Launch) : ZMe := (l, "SpellScribeModel", cX12_cost, 3, 9, 223, (some .int), "cost", [])
set_option maxRecDepth 20000 in
theorem sim_X12_cost (l : Launch) (v0 : Option Nat) (v1 : Int32) (v2 : Int32) : Sim (M_X12_cost l) (zFin zcI) 0 [(0, .inr (.inr v0)), (1, .inl v1), (2, .inl v2)] [] (p_X12_cost v0 v1 v2) := by
  unfold p_X12_cost
  refine s_aloadn (j := 0) dX12_cost_0 rfl ?_
  refine s_iloadn (j := 1) dX12_cost_1 rfl ?_
  refine s_iloadn (j := 2) dX12_cost_2 rfl ?_
  refine s_cVI (rest := []) (met_X12_hasSuggestion l v0 v1 v2) cls_13 mth_X12_hasSuggestion rfl dX12_cost_3 w_1828 w_1830 wp_77 ⟨Nat.le_of_ble_eq_true rfl, Nat.le_of_ble_eq_true rfl⟩ (Nat.le_of_ble_eq_true rfl) rfl (fun x1 => ?_)
  refine s_if_eq (tgt := 18) dX12_cost_6 (by decide) ?_ ?_
  · refine s_iconst (v := 0) dX12_cost_18 (by decide) ?_
    exact s_iret dX12_cost_19 rfl
  · refine s_aloadn (j := 0) dX12_cost_9 rfl ?_
    refine s_getR (k := 54) cls_13 (by decide) rfl dX12_cost_10 w_1402 rfl (fun x2 => ?_)
    refine s_iloadn (j := 2) dX12_cost_13 rfl ?_
    refine s_iald dX12_cost_14 (fun x3 => ?_)
    refine s_goto (tgt := 19) dX12_cost_15 (by decide) ?_
    exact s_iret dX12_cost_19 rfl
theorem met_X12_cost (l : Launch) (v0 : Option Nat) (v1 : Int32) (v2 : Int32) : zMet l yX12_cost cX12_cost 3 (some .int) 9 223 [.inr (.inr v0), .inl v1, .inl v2] zcI (p_X12_cost v0 v1 v2) :=
  zMet.of (by decide +kernel) (Nat.le_of_ble_eq_true rfl) rfl (sim_X12_cost l v0 v1 v2)
def p_X12_suggested_b22 (v0 : Option Nat) (v2 : Int32) (v3 : Int32) (s0 : Option Nat) (s1 : Int32) : ZM Int32 :=
  z_b (z_pI 13 58 s0 s1) fun _ => z_b (z_gR 13 53 v0) fun x1 => z_b (z_aL x1 v2) fun x2 => z_b (p_X12_lengthOf x2) fun x3 => z_b (z_gI 13 58 v0) fun x4 => if 0 < x4 then (z_rc 32)
  else (if v3 < x3 then (z_b (z_gR 13 53 v0) fun x5 => z_b (z_aL x5 v2) fun x6 => z_rc ((Int32.toUInt32 (96 + (Int64.toInt32 ((x6 >>> (Int32.toInt64 (4 * ((x3 - 1) - v3)) &&& 63)) &&& 15))) % 65536).toInt32))
  else (z_rc 32))
def p_X12_suggested (v0 : Option Nat) (v1 : Int32) (v2 : Int32) (v3 : Int32) : ZM Int32 :=
  z_b (z_vr 13 v0 (p_X12_hasSuggestion v0 v1 v2)) fun x7 => if ¬ x7 = 0 then (if 0 ≤ v3 then (p_X12_suggested_b22 v0 v2 v3 v0 0)
  else (p_X12_suggested_b22 v0 v2 v3 v0 1))
  else (z_rc 32)
abbrev M_X12_suggested (l : Launch) : ZMe := (l, "SpellScribeModel", cX12_suggested, 5, 9, 223, (some .char), "suggested", [])
set_option maxRecDepth 20000 in
theorem sim_X12_suggested_b22 (l : Launch) (v0 : Option Nat) (v2 : Int32) (v3 : Int32) (s0 : Option Nat) (s1 : Int32) : Sim (M_X12_suggested l) (zFin zcI) 22 [(0, .inr (.inr v0)), (2, .inl v2), (3, .inl v3)] [.inl s1, .inr (.inr s0)] (p_X12_suggested_b22 v0 v2 v3 s0 s1) := by
  unfold p_X12_suggested_b22
  refine s_putI (k := 58) cls_13 (by decide) rfl rfl rfl dX12_suggested_22 w_1406 rfl ?_
  refine s_aloadn (j := 0) dX12_suggested_25 rfl ?_
  refine s_getR (k := 53) cls_13 (by decide) rfl dX12_suggested_26 w_1401 rfl (fun x1 => ?_)
  refine s_iloadn (j := 1) dX12_suggested_29 rfl ?_
  refine s_lald dX12_suggested_30 (fun x2 => ?_)
  refine s_cSI (rest := []) (met_X12_lengthOf l x2) mth_X12_lengthOf rfl dX12_suggested_31 w_1538 w_1539 ⟨Nat.le_of_ble_eq_true rfl, Nat.le_of_ble_eq_true rfl⟩ (Nat.le_of_ble_eq_true rfl) rfl (fun x3 => ?_)
  refine s_istore (lv' := [(4, .inl x3), (0, .inr (.inr v0)), (2, .inl v2), (3, .inl v3)]) dX12_suggested_34 (Nat.le_of_ble_eq_true rfl) rfl ?_
  refine s_aloadn (j := 1) dX12_suggested_36 rfl ?_
  refine s_getI (k := 58) cls_13 (by decide) rfl dX12_suggested_37 w_1406 rfl (fun x4 => ?_)
  refine s_if_gt (tgt := 49) dX12_suggested_40 (by decide) ?_ ?_
  · refine s_bipush (v := 32) dX12_suggested_49 (by decide) ?_
    refine s_goto (tgt := 78) dX12_suggested_51 (by decide) ?_
    exact s_cret dX12_suggested_78 rfl
  · refine s_iloadn (j := 3) dX12_suggested_43 rfl ?_
    refine s_iload (j := 0) dX12_suggested_44 rfl ?_
    refine s_icmp_lt (tgt := 54) dX12_suggested_46 (by decide) ?_ ?_
    · refine s_bipush (v := 96) dX12_suggested_54 (by decide) ?_
      refine s_aloadn (j := 1) dX12_suggested_56 rfl ?_
      refine s_getR (k := 53) cls_13 (by decide) rfl dX12_suggested_57 w_1401 rfl (fun x5 => ?_)
      refine s_iloadn (j := 2) dX12_suggested_60 rfl ?_
      refine s_lald dX12_suggested_61 (fun x6 => ?_)
      refine s_iconst (v := 4) dX12_suggested_62 (by decide) ?_
      refine s_iload (j := 0) dX12_suggested_63 rfl ?_
      refine s_iconst (v := 1) dX12_suggested_65 (by decide) ?_
      refine s_isub dX12_suggested_66 ?_
      refine s_iloadn (j := 3) dX12_suggested_67 rfl ?_
      refine s_isub dX12_suggested_68 ?_
      refine s_imul dX12_suggested_69 ?_
      refine s_lshr dX12_suggested_70 ?_
      refine s_ldc2 (v := 15) dX12_suggested_71 w_1618 ?_
      refine s_land dX12_suggested_74 ?_
      refine s_l2i dX12_suggested_75 ?_
      refine s_iadd dX12_suggested_76 ?_
      refine s_i2c dX12_suggested_77 ?_
      exact s_cret dX12_suggested_78 rfl
    · refine s_bipush (v := 32) dX12_suggested_49 (by decide) ?_
      refine s_goto (tgt := 78) dX12_suggested_51 (by decide) ?_
      exact s_cret dX12_suggested_78 rfl
set_option maxRecDepth 20000 in
theorem sim_X12_suggested (l : Launch) (v0 : Option Nat) (v1 : Int32) (v2 : Int32) (v3 : Int32) : Sim (M_X12_suggested l) (zFin zcI) 0 [(0, .inr (.inr v0)), (1, .inl v1), (2, .inl v2), (3, .inl v3)] [] (p_X12_suggested v0 v1 v2 v3) := by
  unfold p_X12_suggested
  refine s_aloadn (j := 0) dX12_suggested_0 rfl ?_
  refine s_iloadn (j := 1) dX12_suggested_1 rfl ?_
  refine s_iloadn (j := 2) dX12_suggested_2 rfl ?_
  refine s_cVI (rest := []) (met_X12_hasSuggestion l v0 v1 v2) cls_13 mth_X12_hasSuggestion rfl dX12_suggested_3 w_1828 w_1830 wp_77 ⟨Nat.le_of_ble_eq_true rfl, Nat.le_of_ble_eq_true rfl⟩ (Nat.le_of_ble_eq_true rfl) rfl (fun x7 => ?_)
  refine s_if_ne (tgt := 12) dX12_suggested_6 (by decide) ?_ ?_
  · refine s_aloadn (j := 0) dX12_suggested_12 rfl ?_
    refine s_iloadn (j := 3) dX12_suggested_13 rfl ?_
    refine s_if_ge (tgt := 21) dX12_suggested_14 (by decide) ?_ ?_
    · refine s_iconst (v := 0) dX12_suggested_21 (by decide) ?_
      exact Sim.sub [0, 2, 3] rfl (sim_X12_suggested_b22 l v0 v2 v3 v0 0)
    · refine s_iconst (v := 1) dX12_suggested_17 (by decide) ?_
      refine s_goto (tgt := 22) dX12_suggested_18 (by decide) ?_
      exact Sim.sub [0, 2, 3] rfl (sim_X12_suggested_b22 l v0 v2 v3 v0 1)
  · refine s_bipush (v := 32) dX12_suggested_9 (by decide) ?_
    exact s_cret dX12_suggested_11 rfl
theorem met_X12_suggested (l : Launch) (v0 : Option Nat) (v1 : Int32) (v2 : Int32) (v3 : Int32) : zMet l yX12_suggested cX12_suggested 5 (some .char) 9 223 [.inr (.inr v0), .inl v1, .inl v2, .inl v3] zcI (p_X12_suggested v0 v1 v2 v3) :=
  zMet.of (by decide +kernel) (Nat.le_of_ble_eq_true rfl) rfl (sim_X12_suggested l v0 v1 v2 v3)
def p_X12_made (v0 : Option Nat) : ZM Int32 :=
  z_b (z_pI 13 58 v0 0) fun _ => z_b (z_vr 13 v0 (p_X12_makes v0)) fun _ => z_b (z_gI 13 35 v0) fun x1 => z_rt x1
abbrev M_X12_made (l : Launch) : ZMe := (l, "SpellScribeModel", cX12_made, 1, 6, 159, (some .int), "made", [])
set_option maxRecDepth 20000 in
theorem sim_X12_made (l : Launch) (v0 : Option Nat) : Sim (M_X12_made l) (zFin zcI) 0 [(0, .inr (.inr v0))] [] (p_X12_made v0) := by
  unfold p_X12_made
  refine s_aloadn (j := 0) dX12_made_0 rfl ?_
  refine s_iconst (v := 0) dX12_made_1 (by decide) ?_
  refine s_putI (k := 58) cls_13 (by decide) rfl rfl rfl dX12_made_2 w_1406 rfl ?_
  refine s_aloadn (j := 0) dX12_made_5 rfl ?_
  refine s_cVV (rest := []) (met_X12_makes l v0) cls_13 mth_X12_makes rfl dX12_made_6 w_1593 w_1595 wp_46 ⟨Nat.le_of_ble_eq_true rfl, Nat.le_of_ble_eq_true rfl⟩ (Nat.le_of_ble_eq_true rfl) rfl ?_
  refine s_aloadn (j := 0) dX12_made_9 rfl ?_
  refine s_getI (k := 35) cls_13 (by decide) rfl dX12_made_10 w_1383 rfl (fun x1 => ?_)
  exact s_iret dX12_made_13 rfl
theorem met_X12_made (l : Launch) (v0 : Option Nat) : zMet l yX12_made cX12_made 1 (some .int) 6 159 [.inr (.inr v0)] zcI (p_X12_made v0) :=
  zMet.of (by decide +kernel) (Nat.le_of_ble_eq_true rfl) rfl (sim_X12_made l v0)
