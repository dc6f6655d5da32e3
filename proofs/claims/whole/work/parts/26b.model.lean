def p_X12_finds_b247 (r14 : Option Nat → Int32 → Int32 → Int32 → Int32 → ZM Unit) (v0 : Option Nat) (v1 : Int32) (v3 : Int32) (v4 : Int32) (s0 : Int32) : ZM Unit :=
  z_n (v4 + 1 : Int32) fun y1 => r14 v0 v1 s0 v3 y1
def p_X12_finds_b246 (r14 : Option Nat → Int32 → Int32 → Int32 → Int32 → ZM Unit) (v0 : Option Nat) (v1 : Int32) (v3 : Int32) (v4 : Int32) : ZM Unit :=
  p_X12_finds_b247 r14 v0 v1 v3 v4 0
def p_X12_finds_b242 (r14 : Option Nat → Int32 → Int32 → Int32 → Int32 → ZM Unit) (v0 : Option Nat) (v1 : Int32) (v3 : Int32) (v4 : Int32) : ZM Unit :=
  p_X12_finds_b247 r14 v0 v1 v3 v4 1
def p_X12_finds_b224 (r14 : Option Nat → Int32 → Int32 → Int32 → Int32 → ZM Unit) (v0 : Option Nat) (v2 : Int32) (v3 : Int32) (v4 : Int32) (v5 : Int32) (v6 : Int32) (s0 : Int32) (s1 : Int32) : ZM Unit :=
  z_n ((s0 + s1) : Int32) fun y2 => if v2 = 0 then (p_X12_finds_b246 r14 v0 y2 v3 v4)
  else (if v6 = 0 then (p_X12_finds_b242 r14 v0 y2 v3 v4)
  else (if v5 = 62 then (p_X12_finds_b246 r14 v0 y2 v3 v4)
  else (p_X12_finds_b242 r14 v0 y2 v3 v4)))
def p_X12_finds_b223 (r14 : Option Nat → Int32 → Int32 → Int32 → Int32 → ZM Unit) (v0 : Option Nat) (v2 : Int32) (v3 : Int32) (v4 : Int32) (v5 : Int32) (v6 : Int32) (s0 : Int32) : ZM Unit :=
  p_X12_finds_b224 r14 v0 v2 v3 v4 v5 v6 s0 0
def p_X12_finds_b204 (r14 : Option Nat → Int32 → Int32 → Int32 → Int32 → ZM Unit) (v0 : Option Nat) (v1 : Int32) (v2 : Int32) (v4 : Int32) (v5 : Int32) (v6 : Int32) (v7 : Int32) : ZM Unit :=
  if ¬ v2 = 0 then (p_X12_finds_b223 r14 v0 v2 v7 v4 v5 v6 v1)
  else (if ¬ v5 = 46 then (p_X12_finds_b223 r14 v0 v2 v7 v4 v5 v6 v1)
  else (p_X12_finds_b224 r14 v0 v2 v7 v4 v5 v6 v1 1))
def p_X12_finds_b203 (r14 : Option Nat → Int32 → Int32 → Int32 → Int32 → ZM Unit) (v0 : Option Nat) (v1 : Int32) (v2 : Int32) (v4 : Int32) (v5 : Int32) (v6 : Int32) (v7 : Int32) (s0 : Option Nat) (s1 : Int32) (s2 : Int64) : ZM Unit :=
  z_b (z_sL s0 s1 s2) fun _ => p_X12_finds_b204 r14 v0 v1 v2 v4 v5 v6 v7
def p_X12_finds_b131 (r14 : Option Nat → Int32 → Int32 → Int32 → Int32 → ZM Unit) (v0 : Option Nat) (v1 : Int32) (v2 : Int32) (v4 : Int32) (v5 : Int32) (v6 : Int32) (v7 : Int32) : ZM Unit :=
  if v7 = 0 then (p_X12_finds_b204 r14 v0 v1 v2 v4 v5 v6 v7)
  else (z_b (z_gR 13 42 v0) fun x3 => z_b (z_gI 13 40 v0) fun x4 => z_b (z_aI x3 (x4 - 1)) fun x5 => z_b (z_sI x3 (x4 - 1) (x5 + 1)) fun _ => z_b (z_gR 13 44 v0) fun x6 => z_b (z_gI 13 40 v0) fun x7 => z_b (z_gR 13 42 v0) fun x8 => z_b (z_gI 13 40 v0) fun x9 => z_b (z_aI x8 (x9 - 1)) fun x10 => if x10 ≤ 10 then (z_b (z_gR 13 44 v0) fun x11 => z_b (z_gI 13 40 v0) fun x12 => z_b (z_aL x11 (x12 - 1)) fun x13 => p_X12_finds_b203 r14 v0 v1 v2 v4 v5 v6 v7 x6 (x7 - 1) ((x13 <<< (Int32.toInt64 4 &&& 63)) ||| (Int32.toInt64 ((v5 - 97) + 1))))
  else (p_X12_finds_b203 r14 v0 v1 v2 v4 v5 v6 v7 x6 (x7 - 1) 0))
def p_X12_finds_b69 (r14 : Option Nat → Int32 → Int32 → Int32 → Int32 → ZM Unit) (v0 : Option Nat) (v1 : Int32) (v2 : Int32) (v3 : Int32) (v4 : Int32) (v5 : Int32) (v6 : Int32) (s0 : Int32) : ZM Unit :=
  if s0 = 0 then (p_X12_finds_b131 r14 v0 v1 v2 v4 v5 v6 s0)
  else (if ¬ v3 = 0 then (p_X12_finds_b131 r14 v0 v1 v2 v4 v5 v6 s0)
  else (z_b (z_gR 13 41 v0) fun x14 => z_b (z_gI 13 40 v0) fun x15 => z_b (z_sI x14 x15 v4) fun _ => z_b (z_gR 13 42 v0) fun x16 => z_b (z_gI 13 40 v0) fun x17 => z_b (z_sI x16 x17 0) fun _ => z_b (z_gR 13 43 v0) fun x18 => z_b (z_gI 13 40 v0) fun x19 => z_b (z_sI x18 x19 v1) fun _ => z_b (z_gR 13 44 v0) fun x20 => z_b (z_gI 13 40 v0) fun x21 => z_b (z_sL x20 x21 0) fun _ => z_b (z_gI 13 40 v0) fun x22 => z_b (z_pI 13 40 v0 (x22 + 1)) fun _ => p_X12_finds_b131 r14 v0 v1 v2 v4 v5 v6 s0))
def p_X12_finds_b68 (r14 : Option Nat → Int32 → Int32 → Int32 → Int32 → ZM Unit) (v0 : Option Nat) (v1 : Int32) (v2 : Int32) (v3 : Int32) (v4 : Int32) (v5 : Int32) (v6 : Int32) : ZM Unit :=
  p_X12_finds_b69 r14 v0 v1 v2 v3 v4 v5 v6 0
def p_X12_finds_b51 (r14 : Option Nat → Int32 → Int32 → Int32 → Int32 → ZM Unit) (v0 : Option Nat) (v1 : Int32) (v3 : Int32) (v4 : Int32) (v5 : Int32) (v6 : Int32) (s0 : Int32) : ZM Unit :=
  if ¬ s0 = 0 then (p_X12_finds_b68 r14 v0 v1 s0 v3 v4 v5 v6)
  else (z_b (p_X12_isLetter v5) fun x23 => if x23 = 0 then (p_X12_finds_b68 r14 v0 v1 s0 v3 v4 v5 v6)
  else (p_X12_finds_b69 r14 v0 v1 s0 v3 v4 v5 v6 1))
def p_X12_finds_b46 (r14 : Option Nat → Int32 → Int32 → Int32 → Int32 → ZM Unit) (v0 : Option Nat) (v1 : Int32) (v3 : Int32) (v4 : Int32) (v5 : Int32) (v6 : Int32) : ZM Unit :=
  p_X12_finds_b51 r14 v0 v1 v3 v4 v5 v6 1
def p_X12_finds_c14 (r14 : Option Nat → Int32 → Int32 → Int32 → Int32 → ZM Unit) (v0 : Option Nat) (v1 : Int32) (v2 : Int32) (v3 : Int32) (v4 : Int32) : ZM Unit :=
  z_b (z_gI 13 32 v0) fun x24 => if x24 ≤ v4 then (z_rt ())
  else (z_b (z_gR 13 33 v0) fun x25 => z_b (z_aI x25 v4) fun x26 => if ¬ v2 = 0 then (p_X12_finds_b46 r14 v0 v1 v3 v4 x26 v2)
  else (if ¬ x26 = 60 then (p_X12_finds_b51 r14 v0 v1 v3 v4 x26 v2 0)
  else (p_X12_finds_b46 r14 v0 v1 v3 v4 x26 v2)))
def p_X12_finds_l14 : Nat → Option Nat → Int32 → Int32 → Int32 → Int32 → ZM Unit
  | 0, _, _, _, _, _ => z_fl
  | n + 1, v0, v1, v2, v3, v4 => p_X12_finds_c14 (p_X12_finds_l14 n) v0 v1 v2 v3 v4
def p_X12_finds (v0 : Option Nat) : ZM Unit :=
  z_b (z_pI 13 40 v0 0) fun _ => p_X12_finds_l14 zFuel v0 0 0 0 0
abbrev M_X12_finds (l : Launch) : ZMe := (l, "SpellScribeModel", cX12_finds, 8, 2, 42, none, "finds", [])
set_option maxRecDepth 20000 in
theorem sim_X12_finds_b247 (l : Launch) (r14 : Option Nat → Int32 → Int32 → Int32 → Int32 → ZM Unit) (hr14 : ∀ (v0 : Option Nat) (v1 : Int32) (v2 : Int32) (v3 : Int32) (v4 : Int32), Sim (M_X12_finds l) (zFin zcV) 14 [(0, .inr (.inr v0)), (1, .inl v1), (2, .inl v2), (3, .inl v3), (4, .inl v4)] [] (r14 v0 v1 v2 v3 v4)) (v0 : Option Nat) (v1 : Int32) (v3 : Int32) (v4 : Int32) (s0 : Int32) : Sim (M_X12_finds l) (zFin zcV) 247 [(0, .inr (.inr v0)), (1, .inl v1), (3, .inl v3), (4, .inl v4)] [.inl s0] (p_X12_finds_b247 r14 v0 v1 v3 v4 s0) := by
  unfold p_X12_finds_b247
  refine s_istoren (lv' := [(2, .inl s0), (0, .inr (.inr v0)), (1, .inl v1), (3, .inl v3), (4, .inl v4)]) dX12_finds_247 (Nat.le_of_ble_eq_true rfl) rfl ?_
  refine s_n0 (fun y1 hy1 => ?_)
  refine s_iinc (j := 4) (v := y1) (d := 1) (lv' := [(4, .inl y1), (2, .inl s0), (0, .inr (.inr v0)), (1, .inl v1), (3, .inl v3)]) dX12_finds_248 rfl (by decide) hy1 (Nat.le_of_ble_eq_true rfl) rfl ?_
  refine s_goto (tgt := 14) dX12_finds_251 (by decide) ?_
  exact Sim.sub [2, 3, 1, 4, 0] rfl (hr14 v0 v1 s0 v3 y1)
set_option maxRecDepth 20000 in
theorem sim_X12_finds_b246 (l : Launch) (r14 : Option Nat → Int32 → Int32 → Int32 → Int32 → ZM Unit) (hr14 : ∀ (v0 : Option Nat) (v1 : Int32) (v2 : Int32) (v3 : Int32) (v4 : Int32), Sim (M_X12_finds l) (zFin zcV) 14 [(0, .inr (.inr v0)), (1, .inl v1), (2, .inl v2), (3, .inl v3), (4, .inl v4)] [] (r14 v0 v1 v2 v3 v4)) (v0 : Option Nat) (v1 : Int32) (v3 : Int32) (v4 : Int32) : Sim (M_X12_finds l) (zFin zcV) 246 [(0, .inr (.inr v0)), (1, .inl v1), (3, .inl v3), (4, .inl v4)] [] (p_X12_finds_b246 r14 v0 v1 v3 v4) := by
  unfold p_X12_finds_b246
  refine s_iconst (v := 0) dX12_finds_246 (by decide) ?_
  exact Sim.sub [0, 1, 2, 3] rfl (sim_X12_finds_b247 l r14 hr14 v0 v1 v3 v4 0)
set_option maxRecDepth 20000 in
theorem sim_X12_finds_b242 (l : Launch) (r14 : Option Nat → Int32 → Int32 → Int32 → Int32 → ZM Unit) (hr14 : ∀ (v0 : Option Nat) (v1 : Int32) (v2 : Int32) (v3 : Int32) (v4 : Int32), Sim (M_X12_finds l) (zFin zcV) 14 [(0, .inr (.inr v0)), (1, .inl v1), (2, .inl v2), (3, .inl v3), (4, .inl v4)] [] (r14 v0 v1 v2 v3 v4)) (v0 : Option Nat) (v1 : Int32) (v3 : Int32) (v4 : Int32) : Sim (M_X12_finds l) (zFin zcV) 242 [(0, .inr (.inr v0)), (1, .inl v1), (3, .inl v3), (4, .inl v4)] [] (p_X12_finds_b242 r14 v0 v1 v3 v4) := by
  unfold p_X12_finds_b242
  refine s_iconst (v := 1) dX12_finds_242 (by decide) ?_
  refine s_goto (tgt := 247) dX12_finds_243 (by decide) ?_
  exact Sim.sub [0, 1, 2, 3] rfl (sim_X12_finds_b247 l r14 hr14 v0 v1 v3 v4 1)
set_option maxRecDepth 20000 in
theorem sim_X12_finds_b224 (l : Launch) (r14 : Option Nat → Int32 → Int32 → Int32 → Int32 → ZM Unit) (hr14 : ∀ (v0 : Option Nat) (v1 : Int32) (v2 : Int32) (v3 : Int32) (v4 : Int32), Sim (M_X12_finds l) (zFin zcV) 14 [(0, .inr (.inr v0)), (1, .inl v1), (2, .inl v2), (3, .inl v3), (4, .inl v4)] [] (r14 v0 v1 v2 v3 v4)) (v0 : Option Nat) (v2 : Int32) (v3 : Int32) (v4 : Int32) (v5 : Int32) (v6 : Int32) (s0 : Int32) (s1 : Int32) : Sim (M_X12_finds l) (zFin zcV) 224 [(0, .inr (.inr v0)), (2, .inl v2), (3, .inl v3), (4, .inl v4), (5, .inl v5), (6, .inl v6)] [.inl s1, .inl s0] (p_X12_finds_b224 r14 v0 v2 v3 v4 v5 v6 s0 s1) := by
  unfold p_X12_finds_b224
  refine s_iadd dX12_finds_224 ?_
  refine s_nI (fun y2 => ?_)
  refine s_istoren (lv' := [(1, .inl y2), (0, .inr (.inr v0)), (2, .inl v2), (3, .inl v3), (4, .inl v4), (5, .inl v5), (6, .inl v6)]) dX12_finds_225 (Nat.le_of_ble_eq_true rfl) rfl ?_
  refine s_iloadn (j := 2) dX12_finds_226 rfl ?_
  refine s_if_eq (tgt := 246) dX12_finds_227 (by decide) ?_ ?_
  · exact Sim.sub [1, 0, 3, 4] rfl (sim_X12_finds_b246 l r14 hr14 v0 y2 v3 v4)
  · refine s_iload (j := 6) dX12_finds_230 rfl ?_
    refine s_if_eq (tgt := 242) dX12_finds_232 (by decide) ?_ ?_
    · exact Sim.sub [1, 0, 3, 4] rfl (sim_X12_finds_b242 l r14 hr14 v0 y2 v3 v4)
    · refine s_iload (j := 5) dX12_finds_235 rfl ?_
      refine s_bipush (v := 62) dX12_finds_237 (by decide) ?_
      refine s_icmp_eq (tgt := 246) dX12_finds_239 (by decide) ?_ ?_
      · exact Sim.sub [1, 0, 3, 4] rfl (sim_X12_finds_b246 l r14 hr14 v0 y2 v3 v4)
      · exact Sim.sub [1, 0, 3, 4] rfl (sim_X12_finds_b242 l r14 hr14 v0 y2 v3 v4)
set_option maxRecDepth 20000 in
theorem sim_X12_finds_b223 (l : Launch) (r14 : Option Nat → Int32 → Int32 → Int32 → Int32 → ZM Unit) (hr14 : ∀ (v0 : Option Nat) (v1 : Int32) (v2 : Int32) (v3 : Int32) (v4 : Int32), Sim (M_X12_finds l) (zFin zcV) 14 [(0, .inr (.inr v0)), (1, .inl v1), (2, .inl v2), (3, .inl v3), (4, .inl v4)] [] (r14 v0 v1 v2 v3 v4)) (v0 : Option Nat) (v2 : Int32) (v3 : Int32) (v4 : Int32) (v5 : Int32) (v6 : Int32) (s0 : Int32) : Sim (M_X12_finds l) (zFin zcV) 223 [(0, .inr (.inr v0)), (2, .inl v2), (3, .inl v3), (4, .inl v4), (5, .inl v5), (6, .inl v6)] [.inl s0] (p_X12_finds_b223 r14 v0 v2 v3 v4 v5 v6 s0) := by
  unfold p_X12_finds_b223
  refine s_iconst (v := 0) dX12_finds_223 (by decide) ?_
  exact Sim.sub [0, 1, 2, 3, 4, 5] rfl (sim_X12_finds_b224 l r14 hr14 v0 v2 v3 v4 v5 v6 s0 0)
set_option maxRecDepth 20000 in
theorem sim_X12_finds_b204 (l : Launch) (r14 : Option Nat → Int32 → Int32 → Int32 → Int32 → ZM Unit) (hr14 : ∀ (v0 : Option Nat) (v1 : Int32) (v2 : Int32) (v3 : Int32) (v4 : Int32), Sim (M_X12_finds l) (zFin zcV) 14 [(0, .inr (.inr v0)), (1, .inl v1), (2, .inl v2), (3, .inl v3), (4, .inl v4)] [] (r14 v0 v1 v2 v3 v4)) (v0 : Option Nat) (v1 : Int32) (v2 : Int32) (v4 : Int32) (v5 : Int32) (v6 : Int32) (v7 : Int32) : Sim (M_X12_finds l) (zFin zcV) 204 [(0, .inr (.inr v0)), (1, .inl v1), (2, .inl v2), (4, .inl v4), (5, .inl v5), (6, .inl v6), (7, .inl v7)] [] (p_X12_finds_b204 r14 v0 v1 v2 v4 v5 v6 v7) := by
  unfold p_X12_finds_b204
  refine s_iload (j := 6) dX12_finds_204 rfl ?_
  refine s_istoren (lv' := [(3, .inl v7), (0, .inr (.inr v0)), (1, .inl v1), (2, .inl v2), (4, .inl v4), (5, .inl v5), (6, .inl v6), (7, .inl v7)]) dX12_finds_206 (Nat.le_of_ble_eq_true rfl) rfl ?_
  refine s_iloadn (j := 2) dX12_finds_207 rfl ?_
  refine s_iloadn (j := 3) dX12_finds_208 rfl ?_
  refine s_if_ne (tgt := 223) dX12_finds_209 (by decide) ?_ ?_
  · exact Sim.sub [1, 3, 0, 4, 5, 6] rfl (sim_X12_finds_b223 l r14 hr14 v0 v2 v7 v4 v5 v6 v1)
  · refine s_iload (j := 5) dX12_finds_212 rfl ?_
    refine s_bipush (v := 46) dX12_finds_214 (by decide) ?_
    refine s_icmp_ne (tgt := 223) dX12_finds_216 (by decide) ?_ ?_
    · exact Sim.sub [1, 3, 0, 4, 5, 6] rfl (sim_X12_finds_b223 l r14 hr14 v0 v2 v7 v4 v5 v6 v1)
    · refine s_iconst (v := 1) dX12_finds_219 (by decide) ?_
      refine s_goto (tgt := 224) dX12_finds_220 (by decide) ?_
      exact Sim.sub [1, 3, 0, 4, 5, 6] rfl (sim_X12_finds_b224 l r14 hr14 v0 v2 v7 v4 v5 v6 v1 1)
set_option maxRecDepth 20000 in
theorem sim_X12_finds_b203 (l : Launch) (r14 : Option Nat → Int32 → Int32 → Int32 → Int32 → ZM Unit) (hr14 : ∀ (v0 : Option Nat) (v1 : Int32) (v2 : Int32) (v3 : Int32) (v4 : Int32), Sim (M_X12_finds l) (zFin zcV) 14 [(0, .inr (.inr v0)), (1, .inl v1), (2, .inl v2), (3, .inl v3), (4, .inl v4)] [] (r14 v0 v1 v2 v3 v4)) (v0 : Option Nat) (v1 : Int32) (v2 : Int32) (v4 : Int32) (v5 : Int32) (v6 : Int32) (v7 : Int32) (s0 : Option Nat) (s1 : Int32) (s2 : Int64) : Sim (M_X12_finds l) (zFin zcV) 203 [(0, .inr (.inr v0)), (1, .inl v1), (2, .inl v2), (4, .inl v4), (5, .inl v5), (6, .inl v6), (7, .inl v7)] [.inr (.inl s2), .inl s1, .inr (.inr s0)] (p_X12_finds_b203 r14 v0 v1 v2 v4 v5 v6 v7 s0 s1 s2) := by
  unfold p_X12_finds_b203
  refine s_last dX12_finds_203 ?_
  exact Sim.sub [0, 1, 2, 3, 4, 5, 6] rfl (sim_X12_finds_b204 l r14 hr14 v0 v1 v2 v4 v5 v6 v7)
set_option maxRecDepth 20000 in
theorem sim_X12_finds_b131 (l : Launch) (r14 : Option Nat → Int32 → Int32 → Int32 → Int32 → ZM Unit) (hr14 : ∀ (v0 : Option Nat) (v1 : Int32) (v2 : Int32) (v3 : Int32) (v4 : Int32), Sim (M_X12_finds l) (zFin zcV) 14 [(0, .inr (.inr v0)), (1, .inl v1), (2, .inl v2), (3, .inl v3), (4, .inl v4)] [] (r14 v0 v1 v2 v3 v4)) (v0 : Option Nat) (v1 : Int32) (v2 : Int32) (v4 : Int32) (v5 : Int32) (v6 : Int32) (v7 : Int32) : Sim (M_X12_finds l) (zFin zcV) 131 [(0, .inr (.inr v0)), (1, .inl v1), (2, .inl v2), (4, .inl v4), (5, .inl v5), (6, .inl v6), (7, .inl v7)] [] (p_X12_finds_b131 r14 v0 v1 v2 v4 v5 v6 v7) := by
  unfold p_X12_finds_b131
  refine s_iload (j := 6) dX12_finds_131 rfl ?_
  refine s_if_eq (tgt := 204) dX12_finds_133 (by decide) ?_ ?_
  · exact Sim.sub [0, 1, 2, 3, 4, 5, 6] rfl (sim_X12_finds_b204 l r14 hr14 v0 v1 v2 v4 v5 v6 v7)
  · refine s_aloadn (j := 0) dX12_finds_136 rfl ?_
    refine s_getR (k := 42) cls_13 (by decide) rfl dX12_finds_137 w_1390 rfl (fun x3 => ?_)
    refine s_aloadn (j := 0) dX12_finds_140 rfl ?_
    refine s_getI (k := 40) cls_13 (by decide) rfl dX12_finds_141 w_1388 rfl (fun x4 => ?_)
    refine s_iconst (v := 1) dX12_finds_144 (by decide) ?_
    refine s_isub dX12_finds_145 ?_
    refine s_dup2RI dX12_finds_146 ?_
    refine s_iald dX12_finds_147 (fun x5 => ?_)
    refine s_iconst (v := 1) dX12_finds_148 (by decide) ?_
    refine s_iadd dX12_finds_149 ?_
    refine s_iast dX12_finds_150 ?_
    refine s_aloadn (j := 0) dX12_finds_151 rfl ?_
    refine s_getR (k := 44) cls_13 (by decide) rfl dX12_finds_152 w_1392 rfl (fun x6 => ?_)
    refine s_aloadn (j := 0) dX12_finds_155 rfl ?_
    refine s_getI (k := 40) cls_13 (by decide) rfl dX12_finds_156 w_1388 rfl (fun x7 => ?_)
    refine s_iconst (v := 1) dX12_finds_159 (by decide) ?_
    refine s_isub dX12_finds_160 ?_
    refine s_aloadn (j := 0) dX12_finds_161 rfl ?_
    refine s_getR (k := 42) cls_13 (by decide) rfl dX12_finds_162 w_1390 rfl (fun x8 => ?_)
    refine s_aloadn (j := 0) dX12_finds_165 rfl ?_
    refine s_getI (k := 40) cls_13 (by decide) rfl dX12_finds_166 w_1388 rfl (fun x9 => ?_)
    refine s_iconst (v := 1) dX12_finds_169 (by decide) ?_
    refine s_isub dX12_finds_170 ?_
    refine s_iald dX12_finds_171 (fun x10 => ?_)
    refine s_bipush (v := 10) dX12_finds_172 (by decide) ?_
    refine s_icmp_le (tgt := 181) dX12_finds_174 (by decide) ?_ ?_
    · refine s_aloadn (j := 0) dX12_finds_181 rfl ?_
      refine s_getR (k := 44) cls_13 (by decide) rfl dX12_finds_182 w_1392 rfl (fun x11 => ?_)
      refine s_aloadn (j := 0) dX12_finds_185 rfl ?_
      refine s_getI (k := 40) cls_13 (by decide) rfl dX12_finds_186 w_1388 rfl (fun x12 => ?_)
      refine s_iconst (v := 1) dX12_finds_189 (by decide) ?_
      refine s_isub dX12_finds_190 ?_
      refine s_lald dX12_finds_191 (fun x13 => ?_)
      refine s_iconst (v := 4) dX12_finds_192 (by decide) ?_
      refine s_lshl dX12_finds_193 ?_
      refine s_iload (j := 4) dX12_finds_194 rfl ?_
      refine s_bipush (v := 97) dX12_finds_196 (by decide) ?_
      refine s_isub dX12_finds_198 ?_
      refine s_iconst (v := 1) dX12_finds_199 (by decide) ?_
      refine s_iadd dX12_finds_200 ?_
      refine s_i2l dX12_finds_201 ?_
      refine s_lor dX12_finds_202 ?_
      exact Sim.sub [0, 1, 2, 3, 4, 5, 6] rfl (sim_X12_finds_b203 l r14 hr14 v0 v1 v2 v4 v5 v6 v7 x6 (x7 - 1) ((x13 <<< (Int32.toInt64 4 &&& 63)) ||| (Int32.toInt64 ((v5 - 97) + 1))))
    · refine s_lconst (v := 0) dX12_finds_177 (by decide) ?_
      refine s_goto (tgt := 203) dX12_finds_178 (by decide) ?_
      exact Sim.sub [0, 1, 2, 3, 4, 5, 6] rfl (sim_X12_finds_b203 l r14 hr14 v0 v1 v2 v4 v5 v6 v7 x6 (x7 - 1) 0)
set_option maxRecDepth 20000 in
theorem sim_X12_finds_b69 (l : Launch) (r14 : Option Nat → Int32 → Int32 → Int32 → Int32 → ZM Unit) (hr14 : ∀ (v0 : Option Nat) (v1 : Int32) (v2 : Int32) (v3 : Int32) (v4 : Int32), Sim (M_X12_finds l) (zFin zcV) 14 [(0, .inr (.inr v0)), (1, .inl v1), (2, .inl v2), (3, .inl v3), (4, .inl v4)] [] (r14 v0 v1 v2 v3 v4)) (v0 : Option Nat) (v1 : Int32) (v2 : Int32) (v3 : Int32) (v4 : Int32) (v5 : Int32) (v6 : Int32) (s0 : Int32) : Sim (M_X12_finds l) (zFin zcV) 69 [(0, .inr (.inr v0)), (1, .inl v1), (2, .inl v2), (3, .inl v3), (4, .inl v4), (5, .inl v5), (6, .inl v6)] [.inl s0] (p_X12_finds_b69 r14 v0 v1 v2 v3 v4 v5 v6 s0) := by
  unfold p_X12_finds_b69
  refine s_istore (lv' := [(7, .inl s0), (0, .inr (.inr v0)), (1, .inl v1), (2, .inl v2), (3, .inl v3), (4, .inl v4), (5, .inl v5), (6, .inl v6)]) dX12_finds_69 (Nat.le_of_ble_eq_true rfl) rfl ?_
  refine s_iload (j := 0) dX12_finds_71 rfl ?_
  refine s_if_eq (tgt := 131) dX12_finds_73 (by decide) ?_ ?_
  · exact Sim.sub [1, 2, 3, 5, 6, 7, 0] rfl (sim_X12_finds_b131 l r14 hr14 v0 v1 v2 v4 v5 v6 s0)
  · refine s_iloadn (j := 4) dX12_finds_76 rfl ?_
    refine s_if_ne (tgt := 131) dX12_finds_77 (by decide) ?_ ?_
    · exact Sim.sub [1, 2, 3, 5, 6, 7, 0] rfl (sim_X12_finds_b131 l r14 hr14 v0 v1 v2 v4 v5 v6 s0)
    · refine s_aloadn (j := 1) dX12_finds_80 rfl ?_
      refine s_getR (k := 41) cls_13 (by decide) rfl dX12_finds_81 w_1389 rfl (fun x14 => ?_)
      refine s_aloadn (j := 1) dX12_finds_84 rfl ?_
      refine s_getI (k := 40) cls_13 (by decide) rfl dX12_finds_85 w_1388 rfl (fun x15 => ?_)
      refine s_iload (j := 5) dX12_finds_88 rfl ?_
      refine s_iast dX12_finds_90 ?_
      refine s_aloadn (j := 1) dX12_finds_91 rfl ?_
      refine s_getR (k := 42) cls_13 (by decide) rfl dX12_finds_92 w_1390 rfl (fun x16 => ?_)
      refine s_aloadn (j := 1) dX12_finds_95 rfl ?_
      refine s_getI (k := 40) cls_13 (by decide) rfl dX12_finds_96 w_1388 rfl (fun x17 => ?_)
      refine s_iconst (v := 0) dX12_finds_99 (by decide) ?_
      refine s_iast dX12_finds_100 ?_
      refine s_aloadn (j := 1) dX12_finds_101 rfl ?_
      refine s_getR (k := 43) cls_13 (by decide) rfl dX12_finds_102 w_1391 rfl (fun x18 => ?_)
      refine s_aloadn (j := 1) dX12_finds_105 rfl ?_
      refine s_getI (k := 40) cls_13 (by decide) rfl dX12_finds_106 w_1388 rfl (fun x19 => ?_)
      refine s_iloadn (j := 2) dX12_finds_109 rfl ?_
      refine s_iast dX12_finds_110 ?_
      refine s_aloadn (j := 1) dX12_finds_111 rfl ?_
      refine s_getR (k := 44) cls_13 (by decide) rfl dX12_finds_112 w_1392 rfl (fun x20 => ?_)
      refine s_aloadn (j := 1) dX12_finds_115 rfl ?_
      refine s_getI (k := 40) cls_13 (by decide) rfl dX12_finds_116 w_1388 rfl (fun x21 => ?_)
      refine s_lconst (v := 0) dX12_finds_119 (by decide) ?_
      refine s_last dX12_finds_120 ?_
      refine s_aloadn (j := 1) dX12_finds_121 rfl ?_
      refine s_dupR dX12_finds_122 ?_
      refine s_getI (k := 40) cls_13 (by decide) rfl dX12_finds_123 w_1388 rfl (fun x22 => ?_)
      refine s_iconst (v := 1) dX12_finds_126 (by decide) ?_
      refine s_iadd dX12_finds_127 ?_
      refine s_putI (k := 40) cls_13 (by decide) rfl rfl rfl dX12_finds_128 w_1388 rfl ?_
      exact Sim.sub [1, 2, 3, 5, 6, 7, 0] rfl (sim_X12_finds_b131 l r14 hr14 v0 v1 v2 v4 v5 v6 s0)
set_option maxRecDepth 20000 in
theorem sim_X12_finds_b68 (l : Launch) (r14 : Option Nat → Int32 → Int32 → Int32 → Int32 → ZM Unit) (hr14 : ∀ (v0 : Option Nat) (v1 : Int32) (v2 : Int32) (v3 : Int32) (v4 : Int32), Sim (M_X12_finds l) (zFin zcV) 14 [(0, .inr (.inr v0)), (1, .inl v1), (2, .inl v2), (3, .inl v3), (4, .inl v4)] [] (r14 v0 v1 v2 v3 v4)) (v0 : Option Nat) (v1 : Int32) (v2 : Int32) (v3 : Int32) (v4 : Int32) (v5 : Int32) (v6 : Int32) : Sim (M_X12_finds l) (zFin zcV) 68 [(0, .inr (.inr v0)), (1, .inl v1), (2, .inl v2), (3, .inl v3), (4, .inl v4), (5, .inl v5), (6, .inl v6)] [] (p_X12_finds_b68 r14 v0 v1 v2 v3 v4 v5 v6) := by
  unfold p_X12_finds_b68
  refine s_iconst (v := 0) dX12_finds_68 (by decide) ?_
  exact Sim.sub [0, 1, 2, 3, 4, 5, 6] rfl (sim_X12_finds_b69 l r14 hr14 v0 v1 v2 v3 v4 v5 v6 0)
set_option maxRecDepth 20000 in
theorem sim_X12_finds_b51 (l : Launch) (r14 : Option Nat → Int32 → Int32 → Int32 → Int32 → ZM Unit) (hr14 : ∀ (v0 : Option Nat) (v1 : Int32) (v2 : Int32) (v3 : Int32) (v4 : Int32), Sim (M_X12_finds l) (zFin zcV) 14 [(0, .inr (.inr v0)), (1, .inl v1), (2, .inl v2), (3, .inl v3), (4, .inl v4)] [] (r14 v0 v1 v2 v3 v4)) (v0 : Option Nat) (v1 : Int32) (v3 : Int32) (v4 : Int32) (v5 : Int32) (v6 : Int32) (s0 : Int32) : Sim (M_X12_finds l) (zFin zcV) 51 [(0, .inr (.inr v0)), (1, .inl v1), (3, .inl v3), (4, .inl v4), (5, .inl v5), (6, .inl v6)] [.inl s0] (p_X12_finds_b51 r14 v0 v1 v3 v4 v5 v6 s0) := by
  unfold p_X12_finds_b51
  refine s_istoren (lv' := [(2, .inl s0), (0, .inr (.inr v0)), (1, .inl v1), (3, .inl v3), (4, .inl v4), (5, .inl v5), (6, .inl v6)]) dX12_finds_51 (Nat.le_of_ble_eq_true rfl) rfl ?_
  refine s_iloadn (j := 0) dX12_finds_52 rfl ?_
  refine s_if_ne (tgt := 68) dX12_finds_53 (by decide) ?_ ?_
  · exact Sim.sub [1, 2, 0, 3, 4, 5, 6] rfl (sim_X12_finds_b68 l r14 hr14 v0 v1 s0 v3 v4 v5 v6)
  · refine s_iload (j := 5) dX12_finds_56 rfl ?_
    refine s_cSI (rest := []) (met_X12_isLetter l v5) mth_X12_isLetter rfl dX12_finds_58 w_1636 w_1637 ⟨Nat.le_of_ble_eq_true rfl, Nat.le_of_ble_eq_true rfl⟩ (Nat.le_of_ble_eq_true rfl) rfl (fun x23 => ?_)
    refine s_if_eq (tgt := 68) dX12_finds_61 (by decide) ?_ ?_
    · exact Sim.sub [1, 2, 0, 3, 4, 5, 6] rfl (sim_X12_finds_b68 l r14 hr14 v0 v1 s0 v3 v4 v5 v6)
    · refine s_iconst (v := 1) dX12_finds_64 (by decide) ?_
      refine s_goto (tgt := 69) dX12_finds_65 (by decide) ?_
      exact Sim.sub [1, 2, 0, 3, 4, 5, 6] rfl (sim_X12_finds_b69 l r14 hr14 v0 v1 s0 v3 v4 v5 v6 1)
set_option maxRecDepth 20000 in
theorem sim_X12_finds_b46 (l : Launch) (r14 : Option Nat → Int32 → Int32 → Int32 → Int32 → ZM Unit) (hr14 : ∀ (v0 : Option Nat) (v1 : Int32) (v2 : Int32) (v3 : Int32) (v4 : Int32), Sim (M_X12_finds l) (zFin zcV) 14 [(0, .inr (.inr v0)), (1, .inl v1), (2, .inl v2), (3, .inl v3), (4, .inl v4)] [] (r14 v0 v1 v2 v3 v4)) (v0 : Option Nat) (v1 : Int32) (v3 : Int32) (v4 : Int32) (v5 : Int32) (v6 : Int32) : Sim (M_X12_finds l) (zFin zcV) 46 [(0, .inr (.inr v0)), (1, .inl v1), (3, .inl v3), (4, .inl v4), (5, .inl v5), (6, .inl v6)] [] (p_X12_finds_b46 r14 v0 v1 v3 v4 v5 v6) := by
  unfold p_X12_finds_b46
  refine s_iconst (v := 1) dX12_finds_46 (by decide) ?_
  refine s_goto (tgt := 51) dX12_finds_47 (by decide) ?_
  exact Sim.sub [0, 1, 2, 3, 4, 5] rfl (sim_X12_finds_b51 l r14 hr14 v0 v1 v3 v4 v5 v6 1)
set_option maxRecDepth 20000 in
theorem sim_X12_finds_c14 (l : Launch) (r14 : Option Nat → Int32 → Int32 → Int32 → Int32 → ZM Unit) (hr14 : ∀ (v0 : Option Nat) (v1 : Int32) (v2 : Int32) (v3 : Int32) (v4 : Int32), Sim (M_X12_finds l) (zFin zcV) 14 [(0, .inr (.inr v0)), (1, .inl v1), (2, .inl v2), (3, .inl v3), (4, .inl v4)] [] (r14 v0 v1 v2 v3 v4)) (v0 : Option Nat) (v1 : Int32) (v2 : Int32) (v3 : Int32) (v4 : Int32) : Sim (M_X12_finds l) (zFin zcV) 14 [(0, .inr (.inr v0)), (1, .inl v1), (2, .inl v2), (3, .inl v3), (4, .inl v4)] [] (p_X12_finds_c14 r14 v0 v1 v2 v3 v4) := by
  unfold p_X12_finds_c14
  refine s_iload (j := 4) dX12_finds_14 rfl ?_
  refine s_aloadn (j := 0) dX12_finds_16 rfl ?_
  refine s_getI (k := 32) cls_13 (by decide) rfl dX12_finds_17 w_1380 rfl (fun x24 => ?_)
  refine s_icmp_ge (tgt := 254) dX12_finds_20 (by decide) ?_ ?_
  · exact s_vret dX12_finds_254 rfl
  · refine s_aloadn (j := 0) dX12_finds_23 rfl ?_
    refine s_getR (k := 33) cls_13 (by decide) rfl dX12_finds_24 w_1381 rfl (fun x25 => ?_)
    refine s_iload (j := 4) dX12_finds_27 rfl ?_
    refine s_iald dX12_finds_29 (fun x26 => ?_)
    refine s_istore (lv' := [(5, .inl x26), (0, .inr (.inr v0)), (1, .inl v1), (2, .inl v2), (3, .inl v3), (4, .inl v4)]) dX12_finds_30 (Nat.le_of_ble_eq_true rfl) rfl ?_
    refine s_iloadn (j := 3) dX12_finds_32 rfl ?_
    refine s_istore (lv' := [(6, .inl v2), (5, .inl x26), (0, .inr (.inr v0)), (1, .inl v1), (2, .inl v2), (3, .inl v3), (4, .inl v4)]) dX12_finds_33 (Nat.le_of_ble_eq_true rfl) rfl ?_
    refine s_iloadn (j := 4) dX12_finds_35 rfl ?_
    refine s_if_ne (tgt := 46) dX12_finds_36 (by decide) ?_ ?_
    · exact Sim.sub [2, 3, 5, 6, 1, 0] rfl (sim_X12_finds_b46 l r14 hr14 v0 v1 v3 v4 x26 v2)
    · refine s_iload (j := 1) dX12_finds_39 rfl ?_
      refine s_bipush (v := 60) dX12_finds_41 (by decide) ?_
      refine s_icmp_ne (tgt := 50) dX12_finds_43 (by decide) ?_ ?_
      · refine s_iconst (v := 0) dX12_finds_50 (by decide) ?_
        exact Sim.sub [2, 3, 5, 6, 1, 0] rfl (sim_X12_finds_b51 l r14 hr14 v0 v1 v3 v4 x26 v2 0)
      · exact Sim.sub [2, 3, 5, 6, 1, 0] rfl (sim_X12_finds_b46 l r14 hr14 v0 v1 v3 v4 x26 v2)
theorem sim_X12_finds_l14 (l : Launch) : ∀ (n : Nat) (v0 : Option Nat) (v1 : Int32) (v2 : Int32) (v3 : Int32) (v4 : Int32), Sim (M_X12_finds l) (zFin zcV) 14 [(0, .inr (.inr v0)), (1, .inl v1), (2, .inl v2), (3, .inl v3), (4, .inl v4)] [] (p_X12_finds_l14 n v0 v1 v2 v3 v4)
  | 0, _, _, _, _, _ => s_fl
  | n + 1, v0, v1, v2, v3, v4 => sim_X12_finds_c14 l (p_X12_finds_l14 n) (sim_X12_finds_l14 l n) v0 v1 v2 v3 v4
set_option maxRecDepth 20000 in
theorem sim_X12_finds (l : Launch) (v0 : Option Nat) : Sim (M_X12_finds l) (zFin zcV) 0 [(0, .inr (.inr v0))] [] (p_X12_finds v0) := by
  unfold p_X12_finds
  refine s_aloadn (j := 0) dX12_finds_0 rfl ?_
  refine s_iconst (v := 0) dX12_finds_1 (by decide) ?_
  refine s_putI (k := 40) cls_13 (by decide) rfl rfl rfl dX12_finds_2 w_1388 rfl ?_
  refine s_iconst (v := 0) dX12_finds_5 (by decide) ?_
  refine s_istoren (lv' := [(1, .inl 0), (0, .inr (.inr v0))]) dX12_finds_6 (Nat.le_of_ble_eq_true rfl) rfl ?_
  refine s_iconst (v := 0) dX12_finds_7 (by decide) ?_
  refine s_istoren (lv' := [(2, .inl 0), (1, .inl 0), (0, .inr (.inr v0))]) dX12_finds_8 (Nat.le_of_ble_eq_true rfl) rfl ?_
  refine s_iconst (v := 0) dX12_finds_9 (by decide) ?_
  refine s_istoren (lv' := [(3, .inl 0), (2, .inl 0), (1, .inl 0), (0, .inr (.inr v0))]) dX12_finds_10 (Nat.le_of_ble_eq_true rfl) rfl ?_
  refine s_iconst (v := 0) dX12_finds_11 (by decide) ?_
  refine s_istore (lv' := [(4, .inl 0), (3, .inl 0), (2, .inl 0), (1, .inl 0), (0, .inr (.inr v0))]) dX12_finds_12 (Nat.le_of_ble_eq_true rfl) rfl ?_
  exact Sim.sub [4, 3, 2, 1, 0] rfl (sim_X12_finds_l14 l zFuel v0 0 0 0 0)
theorem met_X12_finds (l : Launch) (v0 : Option Nat) : zMet l yX12_finds cX12_finds 8 none 2 42 [.inr (.inr v0)] zcV (p_X12_finds v0) :=
  zMet.of (by decide +kernel) (Nat.le_of_ble_eq_true rfl) rfl (sim_X12_finds l v0)
def p_X12_isNext (v0 : Option Nat) (v1 : Int32) : ZM Int32 :=
  z_b (z_gI 13 40 v0) fun x1 => if x1 ≤ (v1 + 1) then (z_rz 0)
  else (z_b (z_gR 13 43 v0) fun x2 => z_b (z_aI x2 (v1 + 1)) fun x3 => z_b (z_gR 13 43 v0) fun x4 => z_b (z_aI x4 v1) fun x5 => if ¬ x3 = x5 then (z_rz 0)
  else (z_rz 1))
abbrev M_X12_isNext (l : Launch) : ZMe := (l, "SpellScribeModel", cX12_isNext, 2, 0, 0, (some .boolean), "isNext", [])
set_option maxRecDepth 20000 in
theorem sim_X12_isNext (l : Launch) (v0 : Option Nat) (v1 : Int32) : Sim (M_X12_isNext l) (zFin zcI) 0 [(0, .inr (.inr v0)), (1, .inl v1)] [] (p_X12_isNext v0 v1) := by
  unfold p_X12_isNext
  refine s_iloadn (j := 1) dX12_isNext_0 rfl ?_
  refine s_iconst (v := 1) dX12_isNext_1 (by decide) ?_
  refine s_iadd dX12_isNext_2 ?_
  refine s_aloadn (j := 0) dX12_isNext_3 rfl ?_
  refine s_getI (k := 40) cls_13 (by decide) rfl dX12_isNext_4 w_1388 rfl (fun x1 => ?_)
  refine s_icmp_ge (tgt := 31) dX12_isNext_7 (by decide) ?_ ?_
  · refine s_iconst (v := 0) dX12_isNext_31 (by decide) ?_
    exact s_zret dX12_isNext_32 rfl
  · refine s_aloadn (j := 0) dX12_isNext_10 rfl ?_
    refine s_getR (k := 43) cls_13 (by decide) rfl dX12_isNext_11 w_1391 rfl (fun x2 => ?_)
    refine s_iloadn (j := 1) dX12_isNext_14 rfl ?_
    refine s_iconst (v := 1) dX12_isNext_15 (by decide) ?_
    refine s_iadd dX12_isNext_16 ?_
    refine s_iald dX12_isNext_17 (fun x3 => ?_)
    refine s_aloadn (j := 0) dX12_isNext_18 rfl ?_
    refine s_getR (k := 43) cls_13 (by decide) rfl dX12_isNext_19 w_1391 rfl (fun x4 => ?_)
    refine s_iloadn (j := 1) dX12_isNext_22 rfl ?_
    refine s_iald dX12_isNext_23 (fun x5 => ?_)
    refine s_icmp_ne (tgt := 31) dX12_isNext_24 (by decide) ?_ ?_
    · refine s_iconst (v := 0) dX12_isNext_31 (by decide) ?_
      exact s_zret dX12_isNext_32 rfl
    · refine s_iconst (v := 1) dX12_isNext_27 (by decide) ?_
      refine s_goto (tgt := 32) dX12_isNext_28 (by decide) ?_
      exact s_zret dX12_isNext_32 rfl
theorem met_X12_isNext (l : Launch) (v0 : Option Nat) (v1 : Int32) : zMet l yX12_isNext cX12_isNext 2 (some .boolean) 0 0 [.inr (.inr v0), .inl v1] zcI (p_X12_isNext v0 v1) :=
  zMet.of (by decide +kernel) (Nat.le_of_ble_eq_true rfl) rfl (sim_X12_isNext l v0 v1)
def p_X12_has (v0 : Option Nat) (v1 : Int32) (v2 : Int32) : ZM Int32 :=
  z_b (z_gR 13 45 v0) fun x1 => z_b (z_aI x1 v1) fun x2 => if ¬ ((x2 >>> (v2 &&& 31)) &&& 1) = 1 then (z_rz 0)
  else (z_rz 1)
abbrev M_X12_has (l : Launch) : ZMe := (l, "SpellScribeModel", cX12_has, 3, 0, 0, (some .boolean), "has", [])
set_option maxRecDepth 20000 in
theorem sim_X12_has (l : Launch) (v0 : Option Nat) (v1 : Int32) (v2 : Int32) : Sim (M_X12_has l) (zFin zcI) 0 [(0, .inr (.inr v0)), (1, .inl v1), (2, .inl v2)] [] (p_X12_has v0 v1 v2) := by
  unfold p_X12_has
  refine s_aloadn (j := 0) dX12_has_0 rfl ?_
  refine s_getR (k := 45) cls_13 (by decide) rfl dX12_has_1 w_1393 rfl (fun x1 => ?_)
  refine s_iloadn (j := 1) dX12_has_4 rfl ?_
  refine s_iald dX12_has_5 (fun x2 => ?_)
  refine s_iloadn (j := 2) dX12_has_6 rfl ?_
  refine s_ishr dX12_has_7 ?_
  refine s_iconst (v := 1) dX12_has_8 (by decide) ?_
  refine s_iand dX12_has_9 ?_
  refine s_iconst (v := 1) dX12_has_10 (by decide) ?_
  refine s_icmp_ne (tgt := 18) dX12_has_11 (by decide) ?_ ?_
  · refine s_iconst (v := 0) dX12_has_18 (by decide) ?_
    exact s_zret dX12_has_19 rfl
  · refine s_iconst (v := 1) dX12_has_14 (by decide) ?_
    refine s_goto (tgt := 19) dX12_has_15 (by decide) ?_
    exact s_zret dX12_has_19 rfl
theorem met_X12_has (l : Launch) (v0 : Option Nat) (v1 : Int32) (v2 : Int32) : zMet l yX12_has cX12_has 3 (some .boolean) 0 0 [.inr (.inr v0), .inl v1, .inl v2] zcI (p_X12_has v0 v1 v2) :=
  zMet.of (by decide +kernel) (Nat.le_of_ble_eq_true rfl) rfl (sim_X12_has l v0 v1 v2)
def p_X12_breaks (v0 : Option Nat) (v1 : Int32) (v2 : Int32) : ZM Int32 :=
  z_b (z_gR 13 25 v0) fun x1 => z_b (z_aI x1 ((4 * (v1 / 2)) + (v2 / 2))) fun x2 => if x2 = 2 then (z_rz 1)
  else (if ¬ x2 = 1 then (z_rz 0)
  else (if (v1 - v1 / 2 * 2) = (v2 - v2 / 2 * 2) then (z_rz 0)
  else (z_rz 1)))
abbrev M_X12_breaks (l : Launch) : ZMe := (l, "SpellScribeModel", cX12_breaks, 4, 0, 0, (some .boolean), "breaks", [])
set_option maxRecDepth 20000 in
theorem sim_X12_breaks (l : Launch) (v0 : Option Nat) (v1 : Int32) (v2 : Int32) : Sim (M_X12_breaks l) (zFin zcI) 0 [(0, .inr (.inr v0)), (1, .inl v1), (2, .inl v2)] [] (p_X12_breaks v0 v1 v2) := by
  unfold p_X12_breaks
  refine s_aloadn (j := 0) dX12_breaks_0 rfl ?_
  refine s_getR (k := 25) cls_13 (by decide) rfl dX12_breaks_1 w_1373 rfl (fun x1 => ?_)
  refine s_iconst (v := 4) dX12_breaks_4 (by decide) ?_
  refine s_iloadn (j := 1) dX12_breaks_5 rfl ?_
  refine s_iconst (v := 2) dX12_breaks_6 (by decide) ?_
  refine s_idiv dX12_breaks_7 (by decide) ?_
  refine s_imul dX12_breaks_8 ?_
  refine s_iloadn (j := 2) dX12_breaks_9 rfl ?_
  refine s_iconst (v := 2) dX12_breaks_10 (by decide) ?_
  refine s_idiv dX12_breaks_11 (by decide) ?_
  refine s_iadd dX12_breaks_12 ?_
  refine s_iald dX12_breaks_13 (fun x2 => ?_)
  refine s_istoren (lv' := [(3, .inl x2), (0, .inr (.inr v0)), (1, .inl v1), (2, .inl v2)]) dX12_breaks_14 (Nat.le_of_ble_eq_true rfl) rfl ?_
  refine s_iloadn (j := 0) dX12_breaks_15 rfl ?_
  refine s_iconst (v := 2) dX12_breaks_16 (by decide) ?_
  refine s_icmp_eq (tgt := 34) dX12_breaks_17 (by decide) ?_ ?_
  · refine s_iconst (v := 1) dX12_breaks_34 (by decide) ?_
    refine s_goto (tgt := 39) dX12_breaks_35 (by decide) ?_
    exact s_zret dX12_breaks_39 rfl
  · refine s_iloadn (j := 0) dX12_breaks_20 rfl ?_
    refine s_iconst (v := 1) dX12_breaks_21 (by decide) ?_
    refine s_icmp_ne (tgt := 38) dX12_breaks_22 (by decide) ?_ ?_
    · refine s_iconst (v := 0) dX12_breaks_38 (by decide) ?_
      exact s_zret dX12_breaks_39 rfl
    · refine s_iloadn (j := 2) dX12_breaks_25 rfl ?_
      refine s_iconst (v := 2) dX12_breaks_26 (by decide) ?_
      refine s_irem dX12_breaks_27 (by decide) ?_
      refine s_iloadn (j := 3) dX12_breaks_28 rfl ?_
      refine s_iconst (v := 2) dX12_breaks_29 (by decide) ?_
      refine s_irem dX12_breaks_30 (by decide) ?_
      refine s_icmp_eq (tgt := 38) dX12_breaks_31 (by decide) ?_ ?_
      · refine s_iconst (v := 0) dX12_breaks_38 (by decide) ?_
        exact s_zret dX12_breaks_39 rfl
      · refine s_iconst (v := 1) dX12_breaks_34 (by decide) ?_
        refine s_goto (tgt := 39) dX12_breaks_35 (by decide) ?_
        exact s_zret dX12_breaks_39 rfl
theorem met_X12_breaks (l : Launch) (v0 : Option Nat) (v1 : Int32) (v2 : Int32) : zMet l yX12_breaks cX12_breaks 4 (some .boolean) 0 0 [.inr (.inr v0), .inl v1, .inl v2] zcI (p_X12_breaks v0 v1 v2) :=
  zMet.of (by decide +kernel) (Nat.le_of_ble_eq_true rfl) rfl (sim_X12_breaks l v0 v1 v2)
def p_X12_fewestFrom_b96 (v0 : Option Nat) (v1 : Int32) (v3 : Int32) : ZM Int32 :=
  if ¬ v3 = (-1) then (z_rt v3)
  else (z_b (z_gR 13 49 v0) fun x1 => z_b (z_aI x1 (8 * (v1 + 1))) fun x2 => z_rt x2)
def p_X12_fewestFrom_b90 (r15 : Option Nat → Int32 → Int32 → Int32 → Int32 → ZM Int32) (v0 : Option Nat) (v1 : Int32) (v2 : Int32) (v3 : Int32) (v4 : Int32) : ZM Int32 :=
  z_n (v4 + 1 : Int32) fun y3 => r15 v0 v1 v2 v3 y3
def p_X12_fewestFrom_b89 (r15 : Option Nat → Int32 → Int32 → Int32 → Int32 → ZM Int32) (v0 : Option Nat) (v1 : Int32) (v2 : Int32) (v4 : Int32) (s0 : Int32) : ZM Int32 :=
  p_X12_fewestFrom_b90 r15 v0 v1 v2 s0 v4
def p_X12_fewestFrom_b83 (r15 : Option Nat → Int32 → Int32 → Int32 → Int32 → ZM Int32) (v0 : Option Nat) (v1 : Int32) (v2 : Int32) (v4 : Int32) (v5 : Int32) : ZM Int32 :=
  p_X12_fewestFrom_b89 r15 v0 v1 v2 v4 v5
def p_X12_fewestFrom_b69 (r15 : Option Nat → Int32 → Int32 → Int32 → Int32 → ZM Int32) (v0 : Option Nat) (v1 : Int32) (v2 : Int32) (v3 : Int32) (v4 : Int32) (s0 : Int32) (s1 : Int32) : ZM Int32 :=
  z_n ((s0 + s1) : Int32) fun y4 => if v3 = (-1) then (p_X12_fewestFrom_b83 r15 v0 v1 v2 v4 y4)
  else (if v3 ≤ y4 then (p_X12_fewestFrom_b89 r15 v0 v1 v2 v4 v3)
  else (p_X12_fewestFrom_b83 r15 v0 v1 v2 v4 y4))
def p_X12_fewestFrom_b68 (r15 : Option Nat → Int32 → Int32 → Int32 → Int32 → ZM Int32) (v0 : Option Nat) (v1 : Int32) (v2 : Int32) (v3 : Int32) (v4 : Int32) (s0 : Int32) : ZM Int32 :=
  p_X12_fewestFrom_b69 r15 v0 v1 v2 v3 v4 s0 0
def p_X12_fewestFrom_c15 (r15 : Option Nat → Int32 → Int32 → Int32 → Int32 → ZM Int32) (v0 : Option Nat) (v1 : Int32) (v2 : Int32) (v3 : Int32) (v4 : Int32) : ZM Int32 :=
  if 8 ≤ v4 then (p_X12_fewestFrom_b96 v0 v1 v3)
  else (z_b (z_vr 13 v0 (p_X12_has v0 (v1 + 1) v4)) fun x5 => if x5 = 0 then (p_X12_fewestFrom_b90 r15 v0 v1 v2 v3 v4)
  else (z_b (z_gR 13 49 v0) fun x6 => z_b (z_aI x6 ((8 * (v1 + 1)) + v4)) fun x7 => if 8 ≤ v2 then (p_X12_fewestFrom_b68 r15 v0 v1 v2 v3 v4 x7)
  else (z_b (z_vr 13 v0 (p_X12_breaks v0 v2 v4)) fun x8 => if x8 = 0 then (p_X12_fewestFrom_b68 r15 v0 v1 v2 v3 v4 x7)
  else (p_X12_fewestFrom_b69 r15 v0 v1 v2 v3 v4 x7 1))))
def p_X12_fewestFrom_l15 : Nat → Option Nat → Int32 → Int32 → Int32 → Int32 → ZM Int32
  | 0, _, _, _, _, _ => z_fl
  | n + 1, v0, v1, v2, v3, v4 => p_X12_fewestFrom_c15 (p_X12_fewestFrom_l15 n) v0 v1 v2 v3 v4
def p_X12_fewestFrom (v0 : Option Nat) (v1 : Int32) (v2 : Int32) : ZM Int32 :=
  z_b (z_vr 13 v0 (p_X12_isNext v0 v1)) fun x9 => if ¬ x9 = 0 then (p_X12_fewestFrom_l15 zFuel v0 v1 v2 (-1) 0)
  else (z_rt 0)
abbrev M_X12_fewestFrom (l : Launch) : ZMe := (l, "SpellScribeModel", cX12_fewestFrom, 6, 1, 23, (some .int), "fewestFrom", [])
set_option maxRecDepth 20000 in
theorem sim_X12_fewestFrom_b96 (l : Launch) (v0 : Option Nat) (v1 : Int32) (v3 : Int32) : Sim (M_X12_fewestFrom l) (zFin zcI) 96 [(0, .inr (.inr v0)), (1, .inl v1), (3, .inl v3)] [] (p_X12_fewestFrom_b96 v0 v1 v3) := by
  unfold p_X12_fewestFrom_b96
  refine s_iloadn (j := 2) dX12_fewestFrom_96 rfl ?_
  refine s_iconst (v := (-1)) dX12_fewestFrom_97 (by decide) ?_
  refine s_icmp_ne (tgt := 115) dX12_fewestFrom_98 (by decide) ?_ ?_
  · refine s_iloadn (j := 2) dX12_fewestFrom_115 rfl ?_
    exact s_iret dX12_fewestFrom_116 rfl
  · refine s_aloadn (j := 0) dX12_fewestFrom_101 rfl ?_
    refine s_getR (k := 49) cls_13 (by decide) rfl dX12_fewestFrom_102 w_1397 rfl (fun x1 => ?_)
    refine s_bipush (v := 8) dX12_fewestFrom_105 (by decide) ?_
    refine s_iloadn (j := 1) dX12_fewestFrom_107 rfl ?_
    refine s_iconst (v := 1) dX12_fewestFrom_108 (by decide) ?_
    refine s_iadd dX12_fewestFrom_109 ?_
    refine s_imul dX12_fewestFrom_110 ?_
    refine s_iald dX12_fewestFrom_111 (fun x2 => ?_)
    refine s_goto (tgt := 116) dX12_fewestFrom_112 (by decide) ?_
    exact s_iret dX12_fewestFrom_116 rfl
set_option maxRecDepth 20000 in
theorem sim_X12_fewestFrom_b90 (l : Launch) (r15 : Option Nat → Int32 → Int32 → Int32 → Int32 → ZM Int32) (hr15 : ∀ (v0 : Option Nat) (v1 : Int32) (v2 : Int32) (v3 : Int32) (v4 : Int32), Sim (M_X12_fewestFrom l) (zFin zcI) 15 [(0, .inr (.inr v0)), (1, .inl v1), (2, .inl v2), (3, .inl v3), (4, .inl v4)] [] (r15 v0 v1 v2 v3 v4)) (v0 : Option Nat) (v1 : Int32) (v2 : Int32) (v3 : Int32) (v4 : Int32) : Sim (M_X12_fewestFrom l) (zFin zcI) 90 [(0, .inr (.inr v0)), (1, .inl v1), (2, .inl v2), (3, .inl v3), (4, .inl v4)] [] (p_X12_fewestFrom_b90 r15 v0 v1 v2 v3 v4) := by
  unfold p_X12_fewestFrom_b90
  refine s_n0 (fun y3 hy3 => ?_)
  refine s_iinc (j := 4) (v := y3) (d := 1) (lv' := [(4, .inl y3), (0, .inr (.inr v0)), (1, .inl v1), (2, .inl v2), (3, .inl v3)]) dX12_fewestFrom_90 rfl (by decide) hy3 (Nat.le_of_ble_eq_true rfl) rfl ?_
  refine s_goto (tgt := 15) dX12_fewestFrom_93 (by decide) ?_
  exact Sim.sub [1, 2, 3, 4, 0] rfl (hr15 v0 v1 v2 v3 y3)
set_option maxRecDepth 20000 in
theorem sim_X12_fewestFrom_b89 (l : Launch) (r15 : Option Nat → Int32 → Int32 → Int32 → Int32 → ZM Int32) (hr15 : ∀ (v0 : Option Nat) (v1 : Int32) (v2 : Int32) (v3 : Int32) (v4 : Int32), Sim (M_X12_fewestFrom l) (zFin zcI) 15 [(0, .inr (.inr v0)), (1, .inl v1), (2, .inl v2), (3, .inl v3), (4, .inl v4)] [] (r15 v0 v1 v2 v3 v4)) (v0 : Option Nat) (v1 : Int32) (v2 : Int32) (v4 : Int32) (s0 : Int32) : Sim (M_X12_fewestFrom l) (zFin zcI) 89 [(0, .inr (.inr v0)), (1, .inl v1), (2, .inl v2), (4, .inl v4)] [.inl s0] (p_X12_fewestFrom_b89 r15 v0 v1 v2 v4 s0) := by
  unfold p_X12_fewestFrom_b89
  refine s_istoren (lv' := [(3, .inl s0), (0, .inr (.inr v0)), (1, .inl v1), (2, .inl v2), (4, .inl v4)]) dX12_fewestFrom_89 (Nat.le_of_ble_eq_true rfl) rfl ?_
  exact Sim.sub [1, 2, 3, 0, 4] rfl (sim_X12_fewestFrom_b90 l r15 hr15 v0 v1 v2 s0 v4)
set_option maxRecDepth 20000 in
theorem sim_X12_fewestFrom_b83 (l : Launch) (r15 : Option Nat → Int32 → Int32 → Int32 → Int32 → ZM Int32) (hr15 : ∀ (v0 : Option Nat) (v1 : Int32) (v2 : Int32) (v3 : Int32) (v4 : Int32), Sim (M_X12_fewestFrom l) (zFin zcI) 15 [(0, .inr (.inr v0)), (1, .inl v1), (2, .inl v2), (3, .inl v3), (4, .inl v4)] [] (r15 v0 v1 v2 v3 v4)) (v0 : Option Nat) (v1 : Int32) (v2 : Int32) (v4 : Int32) (v5 : Int32) : Sim (M_X12_fewestFrom l) (zFin zcI) 83 [(0, .inr (.inr v0)), (1, .inl v1), (2, .inl v2), (4, .inl v4), (5, .inl v5)] [] (p_X12_fewestFrom_b83 r15 v0 v1 v2 v4 v5) := by
  unfold p_X12_fewestFrom_b83
  refine s_iload (j := 4) dX12_fewestFrom_83 rfl ?_
  refine s_goto (tgt := 89) dX12_fewestFrom_85 (by decide) ?_
  exact Sim.sub [0, 1, 2, 3] rfl (sim_X12_fewestFrom_b89 l r15 hr15 v0 v1 v2 v4 v5)
set_option maxRecDepth 20000 in
theorem sim_X12_fewestFrom_b69 (l : Launch) (r15 : Option Nat → Int32 → Int32 → Int32 → Int32 → ZM Int32) (hr15 : ∀ (v0 : Option Nat) (v1 : Int32) (v2 : Int32) (v3 : Int32) (v4 : Int32), Sim (M_X12_fewestFrom l) (zFin zcI) 15 [(0, .inr (.inr v0)), (1, .inl v1), (2, .inl v2), (3, .inl v3), (4, .inl v4)] [] (r15 v0 v1 v2 v3 v4)) (v0 : Option Nat) (v1 : Int32) (v2 : Int32) (v3 : Int32) (v4 : Int32) (s0 : Int32) (s1 : Int32) : Sim (M_X12_fewestFrom l) (zFin zcI) 69 [(0, .inr (.inr v0)), (1, .inl v1), (2, .inl v2), (3, .inl v3), (4, .inl v4)] [.inl s1, .inl s0] (p_X12_fewestFrom_b69 r15 v0 v1 v2 v3 v4 s0 s1) := by
  unfold p_X12_fewestFrom_b69
  refine s_iadd dX12_fewestFrom_69 ?_
  refine s_nI (fun y4 => ?_)
  refine s_istore (lv' := [(5, .inl y4), (0, .inr (.inr v0)), (1, .inl v1), (2, .inl v2), (3, .inl v3), (4, .inl v4)]) dX12_fewestFrom_70 (Nat.le_of_ble_eq_true rfl) rfl ?_
  refine s_iloadn (j := 4) dX12_fewestFrom_72 rfl ?_
  refine s_iconst (v := (-1)) dX12_fewestFrom_73 (by decide) ?_
  refine s_icmp_eq (tgt := 83) dX12_fewestFrom_74 (by decide) ?_ ?_
  · exact Sim.sub [1, 2, 3, 5, 0] rfl (sim_X12_fewestFrom_b83 l r15 hr15 v0 v1 v2 v4 y4)
  · refine s_iload (j := 0) dX12_fewestFrom_77 rfl ?_
    refine s_iloadn (j := 4) dX12_fewestFrom_79 rfl ?_
    refine s_icmp_ge (tgt := 88) dX12_fewestFrom_80 (by decide) ?_ ?_
    · refine s_iloadn (j := 4) dX12_fewestFrom_88 rfl ?_
      exact Sim.sub [1, 2, 3, 5] rfl (sim_X12_fewestFrom_b89 l r15 hr15 v0 v1 v2 v4 v3)
    · exact Sim.sub [1, 2, 3, 5, 0] rfl (sim_X12_fewestFrom_b83 l r15 hr15 v0 v1 v2 v4 y4)
set_option maxRecDepth 20000 in
theorem sim_X12_fewestFrom_b68 (l : Launch) (r15 : Option Nat → Int32 → Int32 → Int32 → Int32 → ZM Int32) (hr15 : ∀ (v0 : Option Nat) (v1 : Int32) (v2 : Int32) (v3 : Int32) (v4 : Int32), Sim (M_X12_fewestFrom l) (zFin zcI) 15 [(0, .inr (.inr v0)), (1, .inl v1), (2, .inl v2), (3, .inl v3), (4, .inl v4)] [] (r15 v0 v1 v2 v3 v4)) (v0 : Option Nat) (v1 : Int32) (v2 : Int32) (v3 : Int32) (v4 : Int32) (s0 : Int32) : Sim (M_X12_fewestFrom l) (zFin zcI) 68 [(0, .inr (.inr v0)), (1, .inl v1), (2, .inl v2), (3, .inl v3), (4, .inl v4)] [.inl s0] (p_X12_fewestFrom_b68 r15 v0 v1 v2 v3 v4 s0) := by
  unfold p_X12_fewestFrom_b68
  refine s_iconst (v := 0) dX12_fewestFrom_68 (by decide) ?_
  exact Sim.sub [0, 1, 2, 3, 4] rfl (sim_X12_fewestFrom_b69 l r15 hr15 v0 v1 v2 v3 v4 s0 0)
set_option maxRecDepth 20000 in
theorem sim_X12_fewestFrom_c15 (l : Launch) (r15 : Option Nat → Int32 → Int32 → Int32 → Int32 → ZM Int32) (hr15 : ∀ (v0 : Option Nat) (v1 : Int32) (v2 : Int32) (v3 : Int32) (v4 : Int32), Sim (M_X12_fewestFrom l) (zFin zcI) 15 [(0, .inr (.inr v0)), (1, .inl v1), (2, .inl v2), (3, .inl v3), (4, .inl v4)] [] (r15 v0 v1 v2 v3 v4)) (v0 : Option Nat) (v1 : Int32) (v2 : Int32) (v3 : Int32) (v4 : Int32) : Sim (M_X12_fewestFrom l) (zFin zcI) 15 [(0, .inr (.inr v0)), (1, .inl v1), (2, .inl v2), (3, .inl v3), (4, .inl v4)] [] (p_X12_fewestFrom_c15 r15 v0 v1 v2 v3 v4) := by
  unfold p_X12_fewestFrom_c15
  refine s_iload (j := 4) dX12_fewestFrom_15 rfl ?_
  refine s_bipush (v := 8) dX12_fewestFrom_17 (by decide) ?_
  refine s_icmp_ge (tgt := 96) dX12_fewestFrom_19 (by decide) ?_ ?_
  · exact Sim.sub [0, 1, 3] rfl (sim_X12_fewestFrom_b96 l v0 v1 v3)
  · refine s_aloadn (j := 0) dX12_fewestFrom_22 rfl ?_
    refine s_iloadn (j := 1) dX12_fewestFrom_23 rfl ?_
    refine s_iconst (v := 1) dX12_fewestFrom_24 (by decide) ?_
    refine s_iadd dX12_fewestFrom_25 ?_
    refine s_iload (j := 4) dX12_fewestFrom_26 rfl ?_
    refine s_cVI (rest := []) (met_X12_has l v0 (v1 + 1) v4) cls_13 mth_X12_has rfl dX12_fewestFrom_28 w_1666 w_1668 wp_59 ⟨Nat.le_of_ble_eq_true rfl, Nat.le_of_ble_eq_true rfl⟩ (Nat.le_of_ble_eq_true rfl) rfl (fun x5 => ?_)
    refine s_if_eq (tgt := 90) dX12_fewestFrom_31 (by decide) ?_ ?_
    · exact Sim.sub [0, 1, 2, 3, 4] rfl (sim_X12_fewestFrom_b90 l r15 hr15 v0 v1 v2 v3 v4)
    · refine s_aloadn (j := 0) dX12_fewestFrom_34 rfl ?_
      refine s_getR (k := 49) cls_13 (by decide) rfl dX12_fewestFrom_35 w_1397 rfl (fun x6 => ?_)
      refine s_bipush (v := 8) dX12_fewestFrom_38 (by decide) ?_
      refine s_iloadn (j := 1) dX12_fewestFrom_40 rfl ?_
      refine s_iconst (v := 1) dX12_fewestFrom_41 (by decide) ?_
      refine s_iadd dX12_fewestFrom_42 ?_
      refine s_imul dX12_fewestFrom_43 ?_
      refine s_iload (j := 4) dX12_fewestFrom_44 rfl ?_
      refine s_iadd dX12_fewestFrom_46 ?_
      refine s_iald dX12_fewestFrom_47 (fun x7 => ?_)
      refine s_iloadn (j := 2) dX12_fewestFrom_48 rfl ?_
      refine s_bipush (v := 8) dX12_fewestFrom_49 (by decide) ?_
      refine s_icmp_ge (tgt := 68) dX12_fewestFrom_51 (by decide) ?_ ?_
      · exact Sim.sub [0, 1, 2, 3, 4] rfl (sim_X12_fewestFrom_b68 l r15 hr15 v0 v1 v2 v3 v4 x7)
      · refine s_aloadn (j := 0) dX12_fewestFrom_54 rfl ?_
        refine s_iloadn (j := 2) dX12_fewestFrom_55 rfl ?_
        refine s_iload (j := 4) dX12_fewestFrom_56 rfl ?_
        refine s_cVI (rest := [.inl x7]) (met_X12_breaks l v0 v2 v4) cls_13 mth_X12_breaks rfl dX12_fewestFrom_58 w_1670 w_1672 wp_60 ⟨Nat.le_of_ble_eq_true rfl, Nat.le_of_ble_eq_true rfl⟩ (Nat.le_of_ble_eq_true rfl) rfl (fun x8 => ?_)
        refine s_if_eq (tgt := 68) dX12_fewestFrom_61 (by decide) ?_ ?_
        · exact Sim.sub [0, 1, 2, 3, 4] rfl (sim_X12_fewestFrom_b68 l r15 hr15 v0 v1 v2 v3 v4 x7)
        · refine s_iconst (v := 1) dX12_fewestFrom_64 (by decide) ?_
          refine s_goto (tgt := 69) dX12_fewestFrom_65 (by decide) ?_
          exact Sim.sub [0, 1, 2, 3, 4] rfl (sim_X12_fewestFrom_b69 l r15 hr15 v0 v1 v2 v3 v4 x7 1)
theorem sim_X12_fewestFrom_l15 (l : Launch) : ∀ (n : Nat) (v0 : Option Nat) (v1 : Int32) (v2 : Int32) (v3 : Int32) (v4 : Int32), Sim (M_X12_fewestFrom l) (zFin zcI) 15 [(0, .inr (.inr v0)), (1, .inl v1), (2, .inl v2), (3, .inl v3), (4, .inl v4)] [] (p_X12_fewestFrom_l15 n v0 v1 v2 v3 v4)
  | 0, _, _, _, _, _ => s_fl
  | n + 1, v0, v1, v2, v3, v4 => sim_X12_fewestFrom_c15 l (p_X12_fewestFrom_l15 n) (sim_X12_fewestFrom_l15 l n) v0 v1 v2 v3 v4
set_option maxRecDepth 20000 in
theorem sim_X12_fewestFrom (l : Launch) (v0 : Option Nat) (v1 : Int32) (v2 : Int32) : Sim (M_X12_fewestFrom l) (zFin zcI) 0 [(0, .inr (.inr v0)), (1, .inl v1), (2, .inl v2)] [] (p_X12_fewestFrom v0 v1 v2) := by
  unfold p_X12_fewestFrom
  refine s_aloadn (j := 0) dX12_fewestFrom_0 rfl ?_
  refine s_iloadn (j := 1) dX12_fewestFrom_1 rfl ?_
  refine s_cVI (rest := []) (met_X12_isNext l v0 v1) cls_13 mth_X12_isNext rfl dX12_fewestFrom_2 w_1662 w_1664 wp_58 ⟨Nat.le_of_ble_eq_true rfl, Nat.le_of_ble_eq_true rfl⟩ (Nat.le_of_ble_eq_true rfl) rfl (fun x9 => ?_)
  refine s_if_ne (tgt := 10) dX12_fewestFrom_5 (by decide) ?_ ?_
  · refine s_iconst (v := (-1)) dX12_fewestFrom_10 (by decide) ?_
    refine s_istoren (lv' := [(3, .inl (-1)), (0, .inr (.inr v0)), (1, .inl v1), (2, .inl v2)]) dX12_fewestFrom_11 (Nat.le_of_ble_eq_true rfl) rfl ?_
    refine s_iconst (v := 0) dX12_fewestFrom_12 (by decide) ?_
    refine s_istore (lv' := [(4, .inl 0), (3, .inl (-1)), (0, .inr (.inr v0)), (1, .inl v1), (2, .inl v2)]) dX12_fewestFrom_13 (Nat.le_of_ble_eq_true rfl) rfl ?_
    exact Sim.sub [2, 3, 4, 1, 0] rfl (sim_X12_fewestFrom_l15 l zFuel v0 v1 v2 (-1) 0)
  · refine s_iconst (v := 0) dX12_fewestFrom_8 (by decide) ?_
    exact s_iret dX12_fewestFrom_9 rfl
theorem met_X12_fewestFrom (l : Launch) (v0 : Option Nat) (v1 : Int32) (v2 : Int32) : zMet l yX12_fewestFrom cX12_fewestFrom 6 (some .int) 1 23 [.inr (.inr v0), .inl v1, .inl v2] zcI (p_X12_fewestFrom v0 v1 v2) :=
  zMet.of (by decide +kernel) (Nat.le_of_ble_eq_true rfl) rfl (sim_X12_fewestFrom l v0 v1 v2)
def p_X12_chooses_b260 (r97 : Option Nat → Int32 → ZM Unit) (v0 : Option Nat) (v1 : Int32) (s0 : Option Nat) (s1 : Int32) (s2 : Int32) : ZM Unit :=
  z_b (z_sI s0 s1 s2) fun _ => z_n (v1 + 1 : Int32) fun y1 => r97 v0 y1
def p_X12_chooses_b259 (r97 : Option Nat → Int32 → ZM Unit) (v0 : Option Nat) (v1 : Int32) (s0 : Option Nat) (s1 : Int32) : ZM Unit :=
  p_X12_chooses_b260 r97 v0 v1 s0 s1 0
def p_X12_chooses_b224 (r97 : Option Nat → Int32 → ZM Unit) (v0 : Option Nat) (v1 : Int32) (v2 : Int32) (v3 : Int32) : ZM Unit :=
  z_b (z_gR 13 46 v0) fun x2 => z_b (z_sI x2 v1 v3) fun _ => z_b (z_gR 13 47 v0) fun x3 => if v3 = (-1) then (p_X12_chooses_b259 r97 v0 v1 x3 v1)
  else (if v2 = (-1) then (p_X12_chooses_b259 r97 v0 v1 x3 v1)
  else (z_b (z_vr 13 v0 (p_X12_breaks v0 v2 v3)) fun x4 => if x4 = 0 then (p_X12_chooses_b259 r97 v0 v1 x3 v1)
  else (p_X12_chooses_b260 r97 v0 v1 x3 v1 1)))
def p_X12_chooses_b218 (r97 : Option Nat → Int32 → ZM Unit) (r147 : Option Nat → Int32 → Int32 → Int32 → Int32 → Int32 → ZM Unit) (v0 : Option Nat) (v1 : Int32) (v2 : Int32) (v3 : Int32) (v4 : Int32) (v5 : Int32) : ZM Unit :=
  z_n (v5 + 1 : Int32) fun y5 => r147 v0 v1 v2 v3 v4 y5
def p_X12_chooses_b211 (r97 : Option Nat → Int32 → ZM Unit) (r147 : Option Nat → Int32 → Int32 → Int32 → Int32 → Int32 → ZM Unit) (v0 : Option Nat) (v1 : Int32) (v2 : Int32) (v5 : Int32) (v6 : Int32) : ZM Unit :=
  p_X12_chooses_b218 r97 r147 v0 v1 v2 v5 v6 v5
def p_X12_chooses_b186 (r97 : Option Nat → Int32 → ZM Unit) (r147 : Option Nat → Int32 → Int32 → Int32 → Int32 → Int32 → ZM Unit) (v0 : Option Nat) (v1 : Int32) (v2 : Int32) (v3 : Int32) (v4 : Int32) (v5 : Int32) (s0 : Int32) (s1 : Int32) : ZM Unit :=
  z_n ((s0 + s1) : Int32) fun y6 => z_b (z_vr 13 v0 (p_X12_has v0 v1 v5)) fun x7 => if x7 = 0 then (p_X12_chooses_b218 r97 r147 v0 v1 v2 v3 v4 v5)
  else (if v3 = (-1) then (p_X12_chooses_b211 r97 r147 v0 v1 v2 v5 y6)
  else (if v4 ≤ y6 then (p_X12_chooses_b218 r97 r147 v0 v1 v2 v3 v4 v5)
  else (p_X12_chooses_b211 r97 r147 v0 v1 v2 v5 y6)))
def p_X12_chooses_b185 (r97 : Option Nat → Int32 → ZM Unit) (r147 : Option Nat → Int32 → Int32 → Int32 → Int32 → Int32 → ZM Unit) (v0 : Option Nat) (v1 : Int32) (v2 : Int32) (v3 : Int32) (v4 : Int32) (v5 : Int32) (s0 : Int32) : ZM Unit :=
  p_X12_chooses_b186 r97 r147 v0 v1 v2 v3 v4 v5 s0 0
def p_X12_chooses_c147 (r97 : Option Nat → Int32 → ZM Unit) (r147 : Option Nat → Int32 → Int32 → Int32 → Int32 → Int32 → ZM Unit) (v0 : Option Nat) (v1 : Int32) (v2 : Int32) (v3 : Int32) (v4 : Int32) (v5 : Int32) : ZM Unit :=
  if 8 ≤ v5 then (p_X12_chooses_b224 r97 v0 v1 v2 v3)
  else (z_b (z_gR 13 49 v0) fun x8 => z_b (z_aI x8 ((8 * v1) + v5)) fun x9 => if v2 = (-1) then (p_X12_chooses_b185 r97 r147 v0 v1 v2 v3 v4 v5 x9)
  else (z_b (z_vr 13 v0 (p_X12_breaks v0 v2 v5)) fun x10 => if x10 = 0 then (p_X12_chooses_b185 r97 r147 v0 v1 v2 v3 v4 v5 x9)
  else (p_X12_chooses_b186 r97 r147 v0 v1 v2 v3 v4 v5 x9 1)))
def p_X12_chooses_l147 (r97 : Option Nat → Int32 → ZM Unit) : Nat → Option Nat → Int32 → Int32 → Int32 → Int32 → Int32 → ZM Unit
  | 0, _, _, _, _, _, _ => z_fl
  | n + 1, v0, v1, v2, v3, v4, v5 => p_X12_chooses_c147 r97 (p_X12_chooses_l147 r97 n) v0 v1 v2 v3 v4 v5
def p_X12_chooses_b138 (r97 : Option Nat → Int32 → ZM Unit) (v0 : Option Nat) (v1 : Int32) (s0 : Int32) : ZM Unit :=
  p_X12_chooses_l147 r97 zFuel v0 v1 s0 (-1) 0 0
def p_X12_chooses_b137 (r97 : Option Nat → Int32 → ZM Unit) (v0 : Option Nat) (v1 : Int32) : ZM Unit :=
  p_X12_chooses_b138 r97 v0 v1 (-1)
def p_X12_chooses_c97 (r97 : Option Nat → Int32 → ZM Unit) (v0 : Option Nat) (v1 : Int32) : ZM Unit :=
  z_b (z_gI 13 40 v0) fun x11 => if x11 ≤ v1 then (z_rt ())
  else (if v1 ≤ 0 then (p_X12_chooses_b137 r97 v0 v1)
  else (z_b (z_gR 13 43 v0) fun x12 => z_b (z_aI x12 (v1 - 1)) fun x13 => z_b (z_gR 13 43 v0) fun x14 => z_b (z_aI x14 v1) fun x15 => if ¬ x13 = x15 then (p_X12_chooses_b137 r97 v0 v1)
  else (z_b (z_gR 13 46 v0) fun x16 => z_b (z_aI x16 (v1 - 1)) fun x17 => p_X12_chooses_b138 r97 v0 v1 x17)))
def p_X12_chooses_l97 : Nat → Option Nat → Int32 → ZM Unit
  | 0, _, _ => z_fl
  | n + 1, v0, v1 => p_X12_chooses_c97 (p_X12_chooses_l97 n) v0 v1
def p_X12_chooses_b95 (v0 : Option Nat) : ZM Unit :=
  p_X12_chooses_l97 zFuel v0 0
def p_X12_chooses_b89 (r7 : Option Nat → Int32 → ZM Unit) (v0 : Option Nat) (v1 : Int32) : ZM Unit :=
  z_n (v1 + (-1) : Int32) fun y18 => r7 v0 y18
def p_X12_chooses_b82 (r7 : Option Nat → Int32 → ZM Unit) (r38 : Option Nat → Int32 → Int32 → ZM Unit) (v0 : Option Nat) (v1 : Int32) (v2 : Int32) (s0 : Option Nat) (s1 : Int32) (s2 : Int32) : ZM Unit :=
  z_b (z_sI s0 s1 s2) fun _ => z_n (v2 + 1 : Int32) fun y19 => r38 v0 v1 y19
def p_X12_chooses_c38 (r7 : Option Nat → Int32 → ZM Unit) (r38 : Option Nat → Int32 → Int32 → ZM Unit) (v0 : Option Nat) (v1 : Int32) (v2 : Int32) : ZM Unit :=
  if 8 ≤ v2 then (p_X12_chooses_b89 r7 v0 v1)
  else (z_b (z_gR 13 45 v0) fun x20 => z_b (z_aI x20 v1) fun x21 => if x21 = 0 then (p_X12_chooses_b89 r7 v0 v1)
  else (z_b (z_gR 13 49 v0) fun x22 => z_b (z_vr 13 v0 (p_X12_has v0 v1 v2)) fun x23 => if x23 = 0 then (p_X12_chooses_b82 r7 r38 v0 v1 v2 x22 ((8 * v1) + v2) 0)
  else (z_b (z_vr 13 v0 (p_X12_fewestFrom v0 v1 v2)) fun x24 => p_X12_chooses_b82 r7 r38 v0 v1 v2 x22 ((8 * v1) + v2) x24)))
def p_X12_chooses_l38 (r7 : Option Nat → Int32 → ZM Unit) : Nat → Option Nat → Int32 → Int32 → ZM Unit
  | 0, _, _, _ => z_fl
  | n + 1, v0, v1, v2 => p_X12_chooses_c38 r7 (p_X12_chooses_l38 r7 n) v0 v1 v2
def p_X12_chooses_b36 (r7 : Option Nat → Int32 → ZM Unit) (v0 : Option Nat) (v1 : Int32) : ZM Unit :=
  p_X12_chooses_l38 r7 zFuel v0 v1 0
def p_X12_chooses_c7 (r7 : Option Nat → Int32 → ZM Unit) (v0 : Option Nat) (v1 : Int32) : ZM Unit :=
  if v1 < 0 then (p_X12_chooses_b95 v0)
  else (z_b (z_gR 13 45 v0) fun x25 => z_b (z_aI x25 v1) fun x26 => if ¬ x26 = 0 then (p_X12_chooses_b36 r7 v0 v1)
  else (z_b (z_gR 13 49 v0) fun x27 => z_b (z_vr 13 v0 (p_X12_fewestFrom v0 v1 8)) fun x28 => z_b (z_sI x27 (8 * v1) x28) fun _ => p_X12_chooses_b36 r7 v0 v1))
def p_X12_chooses_l7 : Nat → Option Nat → Int32 → ZM Unit
  | 0, _, _ => z_fl
  | n + 1, v0, v1 => p_X12_chooses_c7 (p_X12_chooses_l7 n) v0 v1
def p_X12_chooses (v0 : Option Nat) : ZM Unit :=
  z_b (z_gI 13 40 v0) fun x29 => z_n ((x29 - 1) : Int32) fun y30 => p_X12_chooses_l7 zFuel v0 y30
abbrev M_X12_chooses (l : Launch) : ZMe := (l, "SpellScribeModel", cX12_chooses, 7, 2, 48, none, "chooses", [])
set_option maxRecDepth 20000 in
theorem sim_X12_chooses_b260 (l : Launch) (r97 : Option Nat → Int32 → ZM Unit) (hr97 : ∀ (v0 : Option Nat) (v1 : Int32), Sim (M_X12_chooses l) (zFin zcV) 97 [(0, .inr (.inr v0)), (1, .inl v1)] [] (r97 v0 v1)) (v0 : Option Nat) (v1 : Int32) (s0 : Option Nat) (s1 : Int32) (s2 : Int32) : Sim (M_X12_chooses l) (zFin zcV) 260 [(0, .inr (.inr v0)), (1, .inl v1)] [.inl s2, .inl s1, .inr (.inr s0)] (p_X12_chooses_b260 r97 v0 v1 s0 s1 s2) := by
  unfold p_X12_chooses_b260
  refine s_iast dX12_chooses_260 ?_
  refine s_n0 (fun y1 hy1 => ?_)
  refine s_iinc (j := 1) (v := y1) (d := 1) (lv' := [(1, .inl y1), (0, .inr (.inr v0))]) dX12_chooses_261 rfl (by decide) hy1 (Nat.le_of_ble_eq_true rfl) rfl ?_
  refine s_goto (tgt := 97) dX12_chooses_264 (by decide) ?_
  exact Sim.sub [1, 0] rfl (hr97 v0 y1)
set_option maxRecDepth 20000 in
theorem sim_X12_chooses_b259 (l : Launch) (r97 : Option Nat → Int32 → ZM Unit) (hr97 : ∀ (v0 : Option Nat) (v1 : Int32), Sim (M_X12_chooses l) (zFin zcV) 97 [(0, .inr (.inr v0)), (1, .inl v1)] [] (r97 v0 v1)) (v0 : Option Nat) (v1 : Int32) (s0 : Option Nat) (s1 : Int32) : Sim (M_X12_chooses l) (zFin zcV) 259 [(0, .inr (.inr v0)), (1, .inl v1)] [.inl s1, .inr (.inr s0)] (p_X12_chooses_b259 r97 v0 v1 s0 s1) := by
  unfold p_X12_chooses_b259
  refine s_iconst (v := 0) dX12_chooses_259 (by decide) ?_
  exact Sim.sub [0, 1] rfl (sim_X12_chooses_b260 l r97 hr97 v0 v1 s0 s1 0)
set_option maxRecDepth 20000 in
theorem sim_X12_chooses_b224 (l : Launch) (r97 : Option Nat → Int32 → ZM Unit) (hr97 : ∀ (v0 : Option Nat) (v1 : Int32), Sim (M_X12_chooses l) (zFin zcV) 97 [(0, .inr (.inr v0)), (1, .inl v1)] [] (r97 v0 v1)) (v0 : Option Nat) (v1 : Int32) (v2 : Int32) (v3 : Int32) : Sim (M_X12_chooses l) (zFin zcV) 224 [(0, .inr (.inr v0)), (1, .inl v1), (2, .inl v2), (3, .inl v3)] [] (p_X12_chooses_b224 r97 v0 v1 v2 v3) := by
  unfold p_X12_chooses_b224
  refine s_aloadn (j := 0) dX12_chooses_224 rfl ?_
  refine s_getR (k := 46) cls_13 (by decide) rfl dX12_chooses_225 w_1394 rfl (fun x2 => ?_)
  refine s_iloadn (j := 1) dX12_chooses_228 rfl ?_
  refine s_iloadn (j := 3) dX12_chooses_229 rfl ?_
  refine s_iast dX12_chooses_230 ?_
  refine s_aloadn (j := 0) dX12_chooses_231 rfl ?_
  refine s_getR (k := 47) cls_13 (by decide) rfl dX12_chooses_232 w_1395 rfl (fun x3 => ?_)
  refine s_iloadn (j := 1) dX12_chooses_235 rfl ?_
  refine s_iloadn (j := 3) dX12_chooses_236 rfl ?_
  refine s_iconst (v := (-1)) dX12_chooses_237 (by decide) ?_
  refine s_icmp_eq (tgt := 259) dX12_chooses_238 (by decide) ?_ ?_
  · exact Sim.sub [0, 1] rfl (sim_X12_chooses_b259 l r97 hr97 v0 v1 x3 v1)
  · refine s_iloadn (j := 2) dX12_chooses_241 rfl ?_
    refine s_iconst (v := (-1)) dX12_chooses_242 (by decide) ?_
    refine s_icmp_eq (tgt := 259) dX12_chooses_243 (by decide) ?_ ?_
    · exact Sim.sub [0, 1] rfl (sim_X12_chooses_b259 l r97 hr97 v0 v1 x3 v1)
    · refine s_aloadn (j := 0) dX12_chooses_246 rfl ?_
      refine s_iloadn (j := 2) dX12_chooses_247 rfl ?_
      refine s_iloadn (j := 3) dX12_chooses_248 rfl ?_
      refine s_cVI (rest := [.inl v1, .inr (.inr x3)]) (met_X12_breaks l v0 v2 v3) cls_13 mth_X12_breaks rfl dX12_chooses_249 w_1670 w_1672 wp_60 ⟨Nat.le_of_ble_eq_true rfl, Nat.le_of_ble_eq_true rfl⟩ (Nat.le_of_ble_eq_true rfl) rfl (fun x4 => ?_)
      refine s_if_eq (tgt := 259) dX12_chooses_252 (by decide) ?_ ?_
      · exact Sim.sub [0, 1] rfl (sim_X12_chooses_b259 l r97 hr97 v0 v1 x3 v1)
      · refine s_iconst (v := 1) dX12_chooses_255 (by decide) ?_
        refine s_goto (tgt := 260) dX12_chooses_256 (by decide) ?_
        exact Sim.sub [0, 1] rfl (sim_X12_chooses_b260 l r97 hr97 v0 v1 x3 v1 1)
set_option maxRecDepth 20000 in
theorem sim_X12_chooses_b218 (l : Launch) (r97 : Option Nat → Int32 → ZM Unit) (r147 : Option Nat → Int32 → Int32 → Int32 → Int32 → Int32 → ZM Unit) (hr97 : ∀ (v0 : Option Nat) (v1 : Int32), Sim (M_X12_chooses l) (zFin zcV) 97 [(0, .inr (.inr v0)), (1, .inl v1)] [] (r97 v0 v1)) (hr147 : ∀ (v0 : Option Nat) (v1 : Int32) (v2 : Int32) (v3 : Int32) (v4 : Int32) (v5 : Int32), Sim (M_X12_chooses l) (zFin zcV) 147 [(0, .inr (.inr v0)), (1, .inl v1), (2, .inl v2), (3, .inl v3), (4, .inl v4), (5, .inl v5)] [] (r147 v0 v1 v2 v3 v4 v5)) (v0 : Option Nat) (v1 : Int32) (v2 : Int32) (v3 : Int32) (v4 : Int32) (v5 : Int32) : Sim (M_X12_chooses l) (zFin zcV) 218 [(0, .inr (.inr v0)), (1, .inl v1), (2, .inl v2), (3, .inl v3), (4, .inl v4), (5, .inl v5)] [] (p_X12_chooses_b218 r97 r147 v0 v1 v2 v3 v4 v5) := by
  unfold p_X12_chooses_b218
  refine s_n0 (fun y5 hy5 => ?_)
  refine s_iinc (j := 5) (v := y5) (d := 1) (lv' := [(5, .inl y5), (0, .inr (.inr v0)), (1, .inl v1), (2, .inl v2), (3, .inl v3), (4, .inl v4)]) dX12_chooses_218 rfl (by decide) hy5 (Nat.le_of_ble_eq_true rfl) rfl ?_
  refine s_goto (tgt := 147) dX12_chooses_221 (by decide) ?_
  exact Sim.sub [1, 2, 3, 4, 5, 0] rfl (hr147 v0 v1 v2 v3 v4 y5)
set_option maxRecDepth 20000 in
theorem sim_X12_chooses_b211 (l : Launch) (r97 : Option Nat → Int32 → ZM Unit) (r147 : Option Nat → Int32 → Int32 → Int32 → Int32 → Int32 → ZM Unit) (hr97 : ∀ (v0 : Option Nat) (v1 : Int32), Sim (M_X12_chooses l) (zFin zcV) 97 [(0, .inr (.inr v0)), (1, .inl v1)] [] (r97 v0 v1)) (hr147 : ∀ (v0 : Option Nat) (v1 : Int32) (v2 : Int32) (v3 : Int32) (v4 : Int32) (v5 : Int32), Sim (M_X12_chooses l) (zFin zcV) 147 [(0, .inr (.inr v0)), (1, .inl v1), (2, .inl v2), (3, .inl v3), (4, .inl v4), (5, .inl v5)] [] (r147 v0 v1 v2 v3 v4 v5)) (v0 : Option Nat) (v1 : Int32) (v2 : Int32) (v5 : Int32) (v6 : Int32) : Sim (M_X12_chooses l) (zFin zcV) 211 [(0, .inr (.inr v0)), (1, .inl v1), (2, .inl v2), (5, .inl v5), (6, .inl v6)] [] (p_X12_chooses_b211 r97 r147 v0 v1 v2 v5 v6) := by
  unfold p_X12_chooses_b211
  refine s_iload (j := 3) dX12_chooses_211 rfl ?_
  refine s_istoren (lv' := [(3, .inl v5), (0, .inr (.inr v0)), (1, .inl v1), (2, .inl v2), (5, .inl v5), (6, .inl v6)]) dX12_chooses_213 (Nat.le_of_ble_eq_true rfl) rfl ?_
  refine s_iload (j := 5) dX12_chooses_214 rfl ?_
  refine s_istore (lv' := [(4, .inl v6), (3, .inl v5), (0, .inr (.inr v0)), (1, .inl v1), (2, .inl v2), (5, .inl v5), (6, .inl v6)]) dX12_chooses_216 (Nat.le_of_ble_eq_true rfl) rfl ?_
  exact Sim.sub [2, 3, 4, 1, 0, 5] rfl (sim_X12_chooses_b218 l r97 r147 hr97 hr147 v0 v1 v2 v5 v6 v5)
set_option maxRecDepth 20000 in
theorem sim_X12_chooses_b186 (l : Launch) (r97 : Option Nat → Int32 → ZM Unit) (r147 : Option Nat → Int32 → Int32 → Int32 → Int32 → Int32 → ZM Unit) (hr97 : ∀ (v0 : Option Nat) (v1 : Int32), Sim (M_X12_chooses l) (zFin zcV) 97 [(0, .inr (.inr v0)), (1, .inl v1)] [] (r97 v0 v1)) (hr147 : ∀ (v0 : Option Nat) (v1 : Int32) (v2 : Int32) (v3 : Int32) (v4 : Int32) (v5 : Int32), Sim (M_X12_chooses l) (zFin zcV) 147 [(0, .inr (.inr v0)), (1, .inl v1), (2, .inl v2), (3, .inl v3), (4, .inl v4), (5, .inl v5)] [] (r147 v0 v1 v2 v3 v4 v5)) (v0 : Option Nat) (v1 : Int32) (v2 : Int32) (v3 : Int32) (v4 : Int32) (v5 : Int32) (s0 : Int32) (s1 : Int32) : Sim (M_X12_chooses l) (zFin zcV) 186 [(0, .inr (.inr v0)), (1, .inl v1), (2, .inl v2), (3, .inl v3), (4, .inl v4), (5, .inl v5)] [.inl s1, .inl s0] (p_X12_chooses_b186 r97 r147 v0 v1 v2 v3 v4 v5 s0 s1) := by
  unfold p_X12_chooses_b186
  refine s_iadd dX12_chooses_186 ?_
  refine s_nI (fun y6 => ?_)
  refine s_istore (lv' := [(6, .inl y6), (0, .inr (.inr v0)), (1, .inl v1), (2, .inl v2), (3, .inl v3), (4, .inl v4), (5, .inl v5)]) dX12_chooses_187 (Nat.le_of_ble_eq_true rfl) rfl ?_
  refine s_aloadn (j := 1) dX12_chooses_189 rfl ?_
  refine s_iloadn (j := 2) dX12_chooses_190 rfl ?_
  refine s_iload (j := 6) dX12_chooses_191 rfl ?_
  refine s_cVI (rest := []) (met_X12_has l v0 v1 v5) cls_13 mth_X12_has rfl dX12_chooses_193 w_1666 w_1668 wp_59 ⟨Nat.le_of_ble_eq_true rfl, Nat.le_of_ble_eq_true rfl⟩ (Nat.le_of_ble_eq_true rfl) rfl (fun x7 => ?_)
  refine s_if_eq (tgt := 218) dX12_chooses_196 (by decide) ?_ ?_
  · exact Sim.sub [1, 2, 3, 4, 5, 6] rfl (sim_X12_chooses_b218 l r97 r147 hr97 hr147 v0 v1 v2 v3 v4 v5)
  · refine s_iloadn (j := 4) dX12_chooses_199 rfl ?_
    refine s_iconst (v := (-1)) dX12_chooses_200 (by decide) ?_
    refine s_icmp_eq (tgt := 211) dX12_chooses_201 (by decide) ?_ ?_
    · exact Sim.sub [1, 2, 3, 6, 0] rfl (sim_X12_chooses_b211 l r97 r147 hr97 hr147 v0 v1 v2 v5 y6)
    · refine s_iload (j := 0) dX12_chooses_204 rfl ?_
      refine s_iload (j := 5) dX12_chooses_206 rfl ?_
      refine s_icmp_ge (tgt := 218) dX12_chooses_208 (by decide) ?_ ?_
      · exact Sim.sub [1, 2, 3, 4, 5, 6] rfl (sim_X12_chooses_b218 l r97 r147 hr97 hr147 v0 v1 v2 v3 v4 v5)
      · exact Sim.sub [1, 2, 3, 6, 0] rfl (sim_X12_chooses_b211 l r97 r147 hr97 hr147 v0 v1 v2 v5 y6)
set_option maxRecDepth 20000 in
theorem sim_X12_chooses_b185 (l : Launch) (r97 : Option Nat → Int32 → ZM Unit) (r147 : Option Nat → Int32 → Int32 → Int32 → Int32 → Int32 → ZM Unit) (hr97 : ∀ (v0 : Option Nat) (v1 : Int32), Sim (M_X12_chooses l) (zFin zcV) 97 [(0, .inr (.inr v0)), (1, .inl v1)] [] (r97 v0 v1)) (hr147 : ∀ (v0 : Option Nat) (v1 : Int32) (v2 : Int32) (v3 : Int32) (v4 : Int32) (v5 : Int32), Sim (M_X12_chooses l) (zFin zcV) 147 [(0, .inr (.inr v0)), (1, .inl v1), (2, .inl v2), (3, .inl v3), (4, .inl v4), (5, .inl v5)] [] (r147 v0 v1 v2 v3 v4 v5)) (v0 : Option Nat) (v1 : Int32) (v2 : Int32) (v3 : Int32) (v4 : Int32) (v5 : Int32) (s0 : Int32) : Sim (M_X12_chooses l) (zFin zcV) 185 [(0, .inr (.inr v0)), (1, .inl v1), (2, .inl v2), (3, .inl v3), (4, .inl v4), (5, .inl v5)] [.inl s0] (p_X12_chooses_b185 r97 r147 v0 v1 v2 v3 v4 v5 s0) := by
  unfold p_X12_chooses_b185
  refine s_iconst (v := 0) dX12_chooses_185 (by decide) ?_
  exact Sim.sub [0, 1, 2, 3, 4, 5] rfl (sim_X12_chooses_b186 l r97 r147 hr97 hr147 v0 v1 v2 v3 v4 v5 s0 0)
set_option maxRecDepth 20000 in
theorem sim_X12_chooses_c147 (l : Launch) (r97 : Option Nat → Int32 → ZM Unit) (r147 : Option Nat → Int32 → Int32 → Int32 → Int32 → Int32 → ZM Unit) (hr97 : ∀ (v0 : Option Nat) (v1 : Int32), Sim (M_X12_chooses l) (zFin zcV) 97 [(0, .inr (.inr v0)), (1, .inl v1)] [] (r97 v0 v1)) (hr147 : ∀ (v0 : Option Nat) (v1 : Int32) (v2 : Int32) (v3 : Int32) (v4 : Int32) (v5 : Int32), Sim (M_X12_chooses l) (zFin zcV) 147 [(0, .inr (.inr v0)), (1, .inl v1), (2, .inl v2), (3, .inl v3), (4, .inl v4), (5, .inl v5)] [] (r147 v0 v1 v2 v3 v4 v5)) (v0 : Option Nat) (v1 : Int32) (v2 : Int32) (v3 : Int32) (v4 : Int32) (v5 : Int32) : Sim (M_X12_chooses l) (zFin zcV) 147 [(0, .inr (.inr v0)), (1, .inl v1), (2, .inl v2), (3, .inl v3), (4, .inl v4), (5, .inl v5)] [] (p_X12_chooses_c147 r97 r147 v0 v1 v2 v3 v4 v5) := by
  unfold p_X12_chooses_c147
  refine s_iload (j := 5) dX12_chooses_147 rfl ?_
  refine s_bipush (v := 8) dX12_chooses_149 (by decide) ?_
  refine s_icmp_ge (tgt := 224) dX12_chooses_151 (by decide) ?_ ?_
  · exact Sim.sub [0, 1, 2, 3] rfl (sim_X12_chooses_b224 l r97 hr97 v0 v1 v2 v3)
  · refine s_aloadn (j := 0) dX12_chooses_154 rfl ?_
    refine s_getR (k := 49) cls_13 (by decide) rfl dX12_chooses_155 w_1397 rfl (fun x8 => ?_)
    refine s_bipush (v := 8) dX12_chooses_158 (by decide) ?_
    refine s_iloadn (j := 1) dX12_chooses_160 rfl ?_
    refine s_imul dX12_chooses_161 ?_
    refine s_iload (j := 5) dX12_chooses_162 rfl ?_
    refine s_iadd dX12_chooses_164 ?_
    refine s_iald dX12_chooses_165 (fun x9 => ?_)
    refine s_iloadn (j := 2) dX12_chooses_166 rfl ?_
    refine s_iconst (v := (-1)) dX12_chooses_167 (by decide) ?_
    refine s_icmp_eq (tgt := 185) dX12_chooses_168 (by decide) ?_ ?_
    · exact Sim.sub [0, 1, 2, 3, 4, 5] rfl (sim_X12_chooses_b185 l r97 r147 hr97 hr147 v0 v1 v2 v3 v4 v5 x9)
    · refine s_aloadn (j := 0) dX12_chooses_171 rfl ?_
      refine s_iloadn (j := 2) dX12_chooses_172 rfl ?_
      refine s_iload (j := 5) dX12_chooses_173 rfl ?_
      refine s_cVI (rest := [.inl x9]) (met_X12_breaks l v0 v2 v5) cls_13 mth_X12_breaks rfl dX12_chooses_175 w_1670 w_1672 wp_60 ⟨Nat.le_of_ble_eq_true rfl, Nat.le_of_ble_eq_true rfl⟩ (Nat.le_of_ble_eq_true rfl) rfl (fun x10 => ?_)
      refine s_if_eq (tgt := 185) dX12_chooses_178 (by decide) ?_ ?_
      · exact Sim.sub [0, 1, 2, 3, 4, 5] rfl (sim_X12_chooses_b185 l r97 r147 hr97 hr147 v0 v1 v2 v3 v4 v5 x9)
      · refine s_iconst (v := 1) dX12_chooses_181 (by decide) ?_
        refine s_goto (tgt := 186) dX12_chooses_182 (by decide) ?_
        exact Sim.sub [0, 1, 2, 3, 4, 5] rfl (sim_X12_chooses_b186 l r97 r147 hr97 hr147 v0 v1 v2 v3 v4 v5 x9 1)
theorem sim_X12_chooses_l147 (l : Launch) (r97 : Option Nat → Int32 → ZM Unit) (hr97 : ∀ (v0 : Option Nat) (v1 : Int32), Sim (M_X12_chooses l) (zFin zcV) 97 [(0, .inr (.inr v0)), (1, .inl v1)] [] (r97 v0 v1)) : ∀ (n : Nat) (v0 : Option Nat) (v1 : Int32) (v2 : Int32) (v3 : Int32) (v4 : Int32) (v5 : Int32), Sim (M_X12_chooses l) (zFin zcV) 147 [(0, .inr (.inr v0)), (1, .inl v1), (2, .inl v2), (3, .inl v3), (4, .inl v4), (5, .inl v5)] [] (p_X12_chooses_l147 r97 n v0 v1 v2 v3 v4 v5)
  | 0, _, _, _, _, _, _ => s_fl
  | n + 1, v0, v1, v2, v3, v4, v5 => sim_X12_chooses_c147 l r97 (p_X12_chooses_l147 r97 n) hr97 (sim_X12_chooses_l147 l r97 hr97 n) v0 v1 v2 v3 v4 v5
set_option maxRecDepth 20000 in
theorem sim_X12_chooses_b138 (l : Launch) (r97 : Option Nat → Int32 → ZM Unit) (hr97 : ∀ (v0 : Option Nat) (v1 : Int32), Sim (M_X12_chooses l) (zFin zcV) 97 [(0, .inr (.inr v0)), (1, .inl v1)] [] (r97 v0 v1)) (v0 : Option Nat) (v1 : Int32) (s0 : Int32) : Sim (M_X12_chooses l) (zFin zcV) 138 [(0, .inr (.inr v0)), (1, .inl v1)] [.inl s0] (p_X12_chooses_b138 r97 v0 v1 s0) := by
  unfold p_X12_chooses_b138
  refine s_istoren (lv' := [(2, .inl s0), (0, .inr (.inr v0)), (1, .inl v1)]) dX12_chooses_138 (Nat.le_of_ble_eq_true rfl) rfl ?_
  refine s_iconst (v := (-1)) dX12_chooses_139 (by decide) ?_
  refine s_istoren (lv' := [(3, .inl (-1)), (2, .inl s0), (0, .inr (.inr v0)), (1, .inl v1)]) dX12_chooses_140 (Nat.le_of_ble_eq_true rfl) rfl ?_
  refine s_iconst (v := 0) dX12_chooses_141 (by decide) ?_
  refine s_istore (lv' := [(4, .inl 0), (3, .inl (-1)), (2, .inl s0), (0, .inr (.inr v0)), (1, .inl v1)]) dX12_chooses_142 (Nat.le_of_ble_eq_true rfl) rfl ?_
  refine s_iconst (v := 0) dX12_chooses_144 (by decide) ?_
  refine s_istore (lv' := [(5, .inl 0), (4, .inl 0), (3, .inl (-1)), (2, .inl s0), (0, .inr (.inr v0)), (1, .inl v1)]) dX12_chooses_145 (Nat.le_of_ble_eq_true rfl) rfl ?_
  exact Sim.sub [4, 5, 3, 2, 1, 0] rfl (sim_X12_chooses_l147 l r97 hr97 zFuel v0 v1 s0 (-1) 0 0)
set_option maxRecDepth 20000 in
theorem sim_X12_chooses_b137 (l : Launch) (r97 : Option Nat → Int32 → ZM Unit) (hr97 : ∀ (v0 : Option Nat) (v1 : Int32), Sim (M_X12_chooses l) (zFin zcV) 97 [(0, .inr (.inr v0)), (1, .inl v1)] [] (r97 v0 v1)) (v0 : Option Nat) (v1 : Int32) : Sim (M_X12_chooses l) (zFin zcV) 137 [(0, .inr (.inr v0)), (1, .inl v1)] [] (p_X12_chooses_b137 r97 v0 v1) := by
  unfold p_X12_chooses_b137
  refine s_iconst (v := (-1)) dX12_chooses_137 (by decide) ?_
  exact Sim.sub [0, 1] rfl (sim_X12_chooses_b138 l r97 hr97 v0 v1 (-1))
set_option maxRecDepth 20000 in
theorem sim_X12_chooses_c97 (l : Launch) (r97 : Option Nat → Int32 → ZM Unit) (hr97 : ∀ (v0 : Option Nat) (v1 : Int32), Sim (M_X12_chooses l) (zFin zcV) 97 [(0, .inr (.inr v0)), (1, .inl v1)] [] (r97 v0 v1)) (v0 : Option Nat) (v1 : Int32) : Sim (M_X12_chooses l) (zFin zcV) 97 [(0, .inr (.inr v0)), (1, .inl v1)] [] (p_X12_chooses_c97 r97 v0 v1) := by
  unfold p_X12_chooses_c97
  refine s_iloadn (j := 1) dX12_chooses_97 rfl ?_
  refine s_aloadn (j := 0) dX12_chooses_98 rfl ?_
  refine s_getI (k := 40) cls_13 (by decide) rfl dX12_chooses_99 w_1388 rfl (fun x11 => ?_)
  refine s_icmp_ge (tgt := 267) dX12_chooses_102 (by decide) ?_ ?_
  · exact s_vret dX12_chooses_267 rfl
  · refine s_iloadn (j := 1) dX12_chooses_105 rfl ?_
    refine s_if_le (tgt := 137) dX12_chooses_106 (by decide) ?_ ?_
    · exact Sim.sub [0, 1] rfl (sim_X12_chooses_b137 l r97 hr97 v0 v1)
    · refine s_aloadn (j := 0) dX12_chooses_109 rfl ?_
      refine s_getR (k := 43) cls_13 (by decide) rfl dX12_chooses_110 w_1391 rfl (fun x12 => ?_)
      refine s_iloadn (j := 1) dX12_chooses_113 rfl ?_
      refine s_iconst (v := 1) dX12_chooses_114 (by decide) ?_
      refine s_isub dX12_chooses_115 ?_
      refine s_iald dX12_chooses_116 (fun x13 => ?_)
      refine s_aloadn (j := 0) dX12_chooses_117 rfl ?_
      refine s_getR (k := 43) cls_13 (by decide) rfl dX12_chooses_118 w_1391 rfl (fun x14 => ?_)
      refine s_iloadn (j := 1) dX12_chooses_121 rfl ?_
      refine s_iald dX12_chooses_122 (fun x15 => ?_)
      refine s_icmp_ne (tgt := 137) dX12_chooses_123 (by decide) ?_ ?_
      · exact Sim.sub [0, 1] rfl (sim_X12_chooses_b137 l r97 hr97 v0 v1)
      · refine s_aloadn (j := 0) dX12_chooses_126 rfl ?_
        refine s_getR (k := 46) cls_13 (by decide) rfl dX12_chooses_127 w_1394 rfl (fun x16 => ?_)
        refine s_iloadn (j := 1) dX12_chooses_130 rfl ?_
        refine s_iconst (v := 1) dX12_chooses_131 (by decide) ?_
        refine s_isub dX12_chooses_132 ?_
        refine s_iald dX12_chooses_133 (fun x17 => ?_)
        refine s_goto (tgt := 138) dX12_chooses_134 (by decide) ?_
        exact Sim.sub [0, 1] rfl (sim_X12_chooses_b138 l r97 hr97 v0 v1 x17)
theorem sim_X12_chooses_l97 (l : Launch) : ∀ (n : Nat) (v0 : Option Nat) (v1 : Int32), Sim (M_X12_chooses l) (zFin zcV) 97 [(0, .inr (.inr v0)), (1, .inl v1)] [] (p_X12_chooses_l97 n v0 v1)
  | 0, _, _ => s_fl
  | n + 1, v0, v1 => sim_X12_chooses_c97 l (p_X12_chooses_l97 n) (sim_X12_chooses_l97 l n) v0 v1
set_option maxRecDepth 20000 in
theorem sim_X12_chooses_b95 (l : Launch) (v0 : Option Nat) : Sim (M_X12_chooses l) (zFin zcV) 95 [(0, .inr (.inr v0))] [] (p_X12_chooses_b95 v0) := by
  unfold p_X12_chooses_b95
  refine s_iconst (v := 0) dX12_chooses_95 (by decide) ?_
  refine s_istoren (lv' := [(1, .inl 0), (0, .inr (.inr v0))]) dX12_chooses_96 (Nat.le_of_ble_eq_true rfl) rfl ?_
  exact Sim.sub [1, 0] rfl (sim_X12_chooses_l97 l zFuel v0 0)
set_option maxRecDepth 20000 in
theorem sim_X12_chooses_b89 (l : Launch) (r7 : Option Nat → Int32 → ZM Unit) (hr7 : ∀ (v0 : Option Nat) (v1 : Int32), Sim (M_X12_chooses l) (zFin zcV) 7 [(0, .inr (.inr v0)), (1, .inl v1)] [] (r7 v0 v1)) (v0 : Option Nat) (v1 : Int32) : Sim (M_X12_chooses l) (zFin zcV) 89 [(0, .inr (.inr v0)), (1, .inl v1)] [] (p_X12_chooses_b89 r7 v0 v1) := by
  unfold p_X12_chooses_b89
  refine s_n0 (fun y18 hy18 => ?_)
  refine s_iinc (j := 1) (v := y18) (d := (-1)) (lv' := [(1, .inl y18), (0, .inr (.inr v0))]) dX12_chooses_89 rfl (by decide) hy18 (Nat.le_of_ble_eq_true rfl) rfl ?_
  refine s_goto (tgt := 7) dX12_chooses_92 (by decide) ?_
  exact Sim.sub [1, 0] rfl (hr7 v0 y18)
set_option maxRecDepth 20000 in
theorem sim_X12_chooses_b82 (l : Launch) (r7 : Option Nat → Int32 → ZM Unit) (r38 : Option Nat → Int32 → Int32 → ZM Unit) (hr7 : ∀ (v0 : Option Nat) (v1 : Int32), Sim (M_X12_chooses l) (zFin zcV) 7 [(0, .inr (.inr v0)), (1, .inl v1)] [] (r7 v0 v1)) (hr38 : ∀ (v0 : Option Nat) (v1 : Int32) (v2 : Int32), Sim (M_X12_chooses l) (zFin zcV) 38 [(0, .inr (.inr v0)), (1, .inl v1), (2, .inl v2)] [] (r38 v0 v1 v2)) (v0 : Option Nat) (v1 : Int32) (v2 : Int32) (s0 : Option Nat) (s1 : Int32) (s2 : Int32) : Sim (M_X12_chooses l) (zFin zcV) 82 [(0, .inr (.inr v0)), (1, .inl v1), (2, .inl v2)] [.inl s2, .inl s1, .inr (.inr s0)] (p_X12_chooses_b82 r7 r38 v0 v1 v2 s0 s1 s2) := by
  unfold p_X12_chooses_b82
  refine s_iast dX12_chooses_82 ?_
  refine s_n0 (fun y19 hy19 => ?_)
  refine s_iinc (j := 2) (v := y19) (d := 1) (lv' := [(2, .inl y19), (0, .inr (.inr v0)), (1, .inl v1)]) dX12_chooses_83 rfl (by decide) hy19 (Nat.le_of_ble_eq_true rfl) rfl ?_
  refine s_goto (tgt := 38) dX12_chooses_86 (by decide) ?_
  exact Sim.sub [1, 2, 0] rfl (hr38 v0 v1 y19)
set_option maxRecDepth 20000 in
theorem sim_X12_chooses_c38 (l : Launch) (r7 : Option Nat → Int32 → ZM Unit) (r38 : Option Nat → Int32 → Int32 → ZM Unit) (hr7 : ∀ (v0 : Option Nat) (v1 : Int32), Sim (M_X12_chooses l) (zFin zcV) 7 [(0, .inr (.inr v0)), (1, .inl v1)] [] (r7 v0 v1)) (hr38 : ∀ (v0 : Option Nat) (v1 : Int32) (v2 : Int32), Sim (M_X12_chooses l) (zFin zcV) 38 [(0, .inr (.inr v0)), (1, .inl v1), (2, .inl v2)] [] (r38 v0 v1 v2)) (v0 : Option Nat) (v1 : Int32) (v2 : Int32) : Sim (M_X12_chooses l) (zFin zcV) 38 [(0, .inr (.inr v0)), (1, .inl v1), (2, .inl v2)] [] (p_X12_chooses_c38 r7 r38 v0 v1 v2) := by
  unfold p_X12_chooses_c38
  refine s_iloadn (j := 2) dX12_chooses_38 rfl ?_
  refine s_bipush (v := 8) dX12_chooses_39 (by decide) ?_
  refine s_icmp_ge (tgt := 89) dX12_chooses_41 (by decide) ?_ ?_
  · exact Sim.sub [0, 1] rfl (sim_X12_chooses_b89 l r7 hr7 v0 v1)
  · refine s_aloadn (j := 0) dX12_chooses_44 rfl ?_
    refine s_getR (k := 45) cls_13 (by decide) rfl dX12_chooses_45 w_1393 rfl (fun x20 => ?_)
    refine s_iloadn (j := 1) dX12_chooses_48 rfl ?_
    refine s_iald dX12_chooses_49 (fun x21 => ?_)
    refine s_if_eq (tgt := 89) dX12_chooses_50 (by decide) ?_ ?_
    · exact Sim.sub [0, 1] rfl (sim_X12_chooses_b89 l r7 hr7 v0 v1)
    · refine s_aloadn (j := 0) dX12_chooses_53 rfl ?_
      refine s_getR (k := 49) cls_13 (by decide) rfl dX12_chooses_54 w_1397 rfl (fun x22 => ?_)
      refine s_bipush (v := 8) dX12_chooses_57 (by decide) ?_
      refine s_iloadn (j := 1) dX12_chooses_59 rfl ?_
      refine s_imul dX12_chooses_60 ?_
      refine s_iloadn (j := 2) dX12_chooses_61 rfl ?_
      refine s_iadd dX12_chooses_62 ?_
      refine s_aloadn (j := 0) dX12_chooses_63 rfl ?_
      refine s_iloadn (j := 1) dX12_chooses_64 rfl ?_
      refine s_iloadn (j := 2) dX12_chooses_65 rfl ?_
      refine s_cVI (rest := [.inl ((8 * v1) + v2), .inr (.inr x22)]) (met_X12_has l v0 v1 v2) cls_13 mth_X12_has rfl dX12_chooses_66 w_1666 w_1668 wp_59 ⟨Nat.le_of_ble_eq_true rfl, Nat.le_of_ble_eq_true rfl⟩ (Nat.le_of_ble_eq_true rfl) rfl (fun x23 => ?_)
      refine s_if_eq (tgt := 81) dX12_chooses_69 (by decide) ?_ ?_
      · refine s_iconst (v := 0) dX12_chooses_81 (by decide) ?_
        exact Sim.sub [0, 1, 2] rfl (sim_X12_chooses_b82 l r7 r38 hr7 hr38 v0 v1 v2 x22 ((8 * v1) + v2) 0)
      · refine s_aloadn (j := 0) dX12_chooses_72 rfl ?_
        refine s_iloadn (j := 1) dX12_chooses_73 rfl ?_
        refine s_iloadn (j := 2) dX12_chooses_74 rfl ?_
        refine s_cVI (rest := [.inl ((8 * v1) + v2), .inr (.inr x22)]) (met_X12_fewestFrom l v0 v1 v2) cls_13 mth_X12_fewestFrom rfl dX12_chooses_75 w_1658 w_1660 wp_57 ⟨Nat.le_of_ble_eq_true rfl, Nat.le_of_ble_eq_true rfl⟩ (Nat.le_of_ble_eq_true rfl) rfl (fun x24 => ?_)
        refine s_goto (tgt := 82) dX12_chooses_78 (by decide) ?_
        exact Sim.sub [0, 1, 2] rfl (sim_X12_chooses_b82 l r7 r38 hr7 hr38 v0 v1 v2 x22 ((8 * v1) + v2) x24)
theorem sim_X12_chooses_l38 (l : Launch) (r7 : Option Nat → Int32 → ZM Unit) (hr7 : ∀ (v0 : Option Nat) (v1 : Int32), Sim (M_X12_chooses l) (zFin zcV) 7 [(0, .inr (.inr v0)), (1, .inl v1)] [] (r7 v0 v1)) : ∀ (n : Nat) (v0 : Option Nat) (v1 : Int32) (v2 : Int32), Sim (M_X12_chooses l) (zFin zcV) 38 [(0, .inr (.inr v0)), (1, .inl v1), (2, .inl v2)] [] (p_X12_chooses_l38 r7 n v0 v1 v2)
  | 0, _, _, _ => s_fl
  | n + 1, v0, v1, v2 => sim_X12_chooses_c38 l r7 (p_X12_chooses_l38 r7 n) hr7 (sim_X12_chooses_l38 l r7 hr7 n) v0 v1 v2
set_option maxRecDepth 20000 in
theorem sim_X12_chooses_b36 (l : Launch) (r7 : Option Nat → Int32 → ZM Unit) (hr7 : ∀ (v0 : Option Nat) (v1 : Int32), Sim (M_X12_chooses l) (zFin zcV) 7 [(0, .inr (.inr v0)), (1, .inl v1)] [] (r7 v0 v1)) (v0 : Option Nat) (v1 : Int32) : Sim (M_X12_chooses l) (zFin zcV) 36 [(0, .inr (.inr v0)), (1, .inl v1)] [] (p_X12_chooses_b36 r7 v0 v1) := by
  unfold p_X12_chooses_b36
  refine s_iconst (v := 0) dX12_chooses_36 (by decide) ?_
  refine s_istoren (lv' := [(2, .inl 0), (0, .inr (.inr v0)), (1, .inl v1)]) dX12_chooses_37 (Nat.le_of_ble_eq_true rfl) rfl ?_
  exact Sim.sub [1, 2, 0] rfl (sim_X12_chooses_l38 l r7 hr7 zFuel v0 v1 0)
set_option maxRecDepth 20000 in
theorem sim_X12_chooses_c7 (l : Launch) (r7 : Option Nat → Int32 → ZM Unit) (hr7 : ∀ (v0 : Option Nat) (v1 : Int32), Sim (M_X12_chooses l) (zFin zcV) 7 [(0, .inr (.inr v0)), (1, .inl v1)] [] (r7 v0 v1)) (v0 : Option Nat) (v1 : Int32) : Sim (M_X12_chooses l) (zFin zcV) 7 [(0, .inr (.inr v0)), (1, .inl v1)] [] (p_X12_chooses_c7 r7 v0 v1) := by
  unfold p_X12_chooses_c7
  refine s_iloadn (j := 1) dX12_chooses_7 rfl ?_
  refine s_if_lt (tgt := 95) dX12_chooses_8 (by decide) ?_ ?_
  · exact Sim.sub [0] rfl (sim_X12_chooses_b95 l v0)
  · refine s_aloadn (j := 0) dX12_chooses_11 rfl ?_
    refine s_getR (k := 45) cls_13 (by decide) rfl dX12_chooses_12 w_1393 rfl (fun x25 => ?_)
    refine s_iloadn (j := 1) dX12_chooses_15 rfl ?_
    refine s_iald dX12_chooses_16 (fun x26 => ?_)
    refine s_if_ne (tgt := 36) dX12_chooses_17 (by decide) ?_ ?_
    · exact Sim.sub [0, 1] rfl (sim_X12_chooses_b36 l r7 hr7 v0 v1)
    · refine s_aloadn (j := 0) dX12_chooses_20 rfl ?_
      refine s_getR (k := 49) cls_13 (by decide) rfl dX12_chooses_21 w_1397 rfl (fun x27 => ?_)
      refine s_bipush (v := 8) dX12_chooses_24 (by decide) ?_
      refine s_iloadn (j := 1) dX12_chooses_26 rfl ?_
      refine s_imul dX12_chooses_27 ?_
      refine s_aloadn (j := 0) dX12_chooses_28 rfl ?_
      refine s_iloadn (j := 1) dX12_chooses_29 rfl ?_
      refine s_bipush (v := 8) dX12_chooses_30 (by decide) ?_
      refine s_cVI (rest := [.inl (8 * v1), .inr (.inr x27)]) (met_X12_fewestFrom l v0 v1 8) cls_13 mth_X12_fewestFrom rfl dX12_chooses_32 w_1658 w_1660 wp_57 ⟨Nat.le_of_ble_eq_true rfl, Nat.le_of_ble_eq_true rfl⟩ (Nat.le_of_ble_eq_true rfl) rfl (fun x28 => ?_)
      refine s_iast dX12_chooses_35 ?_
      exact Sim.sub [0, 1] rfl (sim_X12_chooses_b36 l r7 hr7 v0 v1)
theorem sim_X12_chooses_l7 (l : Launch) : ∀ (n : Nat) (v0 : Option Nat) (v1 : Int32), Sim (M_X12_chooses l) (zFin zcV) 7 [(0, .inr (.inr v0)), (1, .inl v1)] [] (p_X12_chooses_l7 n v0 v1)
  | 0, _, _ => s_fl
  | n + 1, v0, v1 => sim_X12_chooses_c7 l (p_X12_chooses_l7 n) (sim_X12_chooses_l7 l n) v0 v1
set_option maxRecDepth 20000 in
theorem sim_X12_chooses (l : Launch) (v0 : Option Nat) : Sim (M_X12_chooses l) (zFin zcV) 0 [(0, .inr (.inr v0))] [] (p_X12_chooses v0) := by
  unfold p_X12_chooses
  refine s_aloadn (j := 0) dX12_chooses_0 rfl ?_
  refine s_getI (k := 40) cls_13 (by decide) rfl dX12_chooses_1 w_1388 rfl (fun x29 => ?_)
  refine s_iconst (v := 1) dX12_chooses_4 (by decide) ?_
  refine s_isub dX12_chooses_5 ?_
  refine s_nI (fun y30 => ?_)
  refine s_istoren (lv' := [(1, .inl y30), (0, .inr (.inr v0))]) dX12_chooses_6 (Nat.le_of_ble_eq_true rfl) rfl ?_
  exact Sim.sub [1, 0] rfl (sim_X12_chooses_l7 l zFuel v0 y30)
theorem met_X12_chooses (l : Launch) (v0 : Option Nat) : zMet l yX12_chooses cX12_chooses 7 none 2 48 [.inr (.inr v0)] zcV (p_X12_chooses v0) :=
  zMet.of (by decide +kernel) (Nat.le_of_ble_eq_true rfl) rfl (sim_X12_chooses l v0)
def p_X12_fits_b139 (r24 : Option Nat → Int32 → Int32 → Int32 → Int32 → ZM Int32) (v0 : Option Nat) (v1 : Int32) (v2 : Int32) (v4 : Int32) (s0 : Int32) : ZM Int32 :=
  z_n (v4 + 1 : Int32) fun y1 => r24 v0 v1 v2 s0 y1
def p_X12_fits_b138 (r24 : Option Nat → Int32 → Int32 → Int32 → Int32 → ZM Int32) (v0 : Option Nat) (v1 : Int32) (v2 : Int32) (v4 : Int32) : ZM Int32 :=
  p_X12_fits_b139 r24 v0 v1 v2 v4 0
def p_X12_fits_b134 (r24 : Option Nat → Int32 → Int32 → Int32 → Int32 → ZM Int32) (v0 : Option Nat) (v1 : Int32) (v2 : Int32) (v4 : Int32) : ZM Int32 :=
  p_X12_fits_b139 r24 v0 v1 v2 v4 1
def p_X12_fits_c24 (r24 : Option Nat → Int32 → Int32 → Int32 → Int32 → ZM Int32) (v0 : Option Nat) (v1 : Int32) (v2 : Int32) (v3 : Int32) (v4 : Int32) : ZM Int32 :=
  z_b (z_gR 13 29 v0) fun x2 => z_b (z_aI x2 v1) fun x3 => if x3 ≤ v4 then (z_rz v3)
  else (if v3 = 0 then (z_rz v3)
  else (z_b (z_gR 13 27 v0) fun x4 => z_b (z_aI x4 ((3 * v1) + v4)) fun x5 => z_n ((x5 - 1) : Int32) fun y6 => z_b (z_gR 13 43 v0) fun x7 => z_b (z_aI x7 (v2 + v4)) fun x8 => z_b (z_gR 13 43 v0) fun x9 => z_b (z_aI x9 v2) fun x10 => if ¬ x8 = x10 then (p_X12_fits_b138 r24 v0 v1 v2 v4)
  else (if ¬ y6 = (-1) then (z_b (z_gR 13 46 v0) fun x11 => z_b (z_aI x11 (v2 + v4)) fun x12 => if x12 = (-1) then (p_X12_fits_b138 r24 v0 v1 v2 v4)
  else (z_b (z_gR 13 46 v0) fun x13 => z_b (z_aI x13 (v2 + v4)) fun x14 => if ¬ (x14 / 2) = y6 then (p_X12_fits_b138 r24 v0 v1 v2 v4)
  else (p_X12_fits_b134 r24 v0 v1 v2 v4)))
  else (z_b (z_gR 13 44 v0) fun x15 => z_b (z_aL x15 (v2 + v4)) fun x16 => z_b (z_gR 13 28 v0) fun x17 => z_b (z_aL x17 ((3 * v1) + v4)) fun x18 => if ¬ (lg_cmp x16 x18) = 0 then (p_X12_fits_b138 r24 v0 v1 v2 v4)
  else (p_X12_fits_b134 r24 v0 v1 v2 v4)))))
def p_X12_fits_l24 : Nat → Option Nat → Int32 → Int32 → Int32 → Int32 → ZM Int32
  | 0, _, _, _, _, _ => z_fl
  | n + 1, v0, v1, v2, v3, v4 => p_X12_fits_c24 (p_X12_fits_l24 n) v0 v1 v2 v3 v4
def p_X12_fits_b20 (v0 : Option Nat) (v1 : Int32) (v2 : Int32) (s0 : Int32) : ZM Int32 :=
  p_X12_fits_l24 zFuel v0 v1 v2 s0 0
def p_X12_fits (v0 : Option Nat) (v1 : Int32) (v2 : Int32) : ZM Int32 :=
  z_b (z_gR 13 29 v0) fun x19 => z_b (z_aI x19 v1) fun x20 => z_b (z_gI 13 40 v0) fun x21 => if x21 < (v2 + x20) then (p_X12_fits_b20 v0 v1 v2 0)
  else (p_X12_fits_b20 v0 v1 v2 1)
abbrev M_X12_fits (l : Launch) : ZMe := (l, "SpellScribeModel", cX12_fits, 6, 0, 0, (some .boolean), "fits", [])
set_option maxRecDepth 20000 in
theorem sim_X12_fits_b139 (l : Launch) (r24 : Option Nat → Int32 → Int32 → Int32 → Int32 → ZM Int32) (hr24 : ∀ (v0 : Option Nat) (v1 : Int32) (v2 : Int32) (v3 : Int32) (v4 : Int32), Sim (M_X12_fits l) (zFin zcI) 24 [(0, .inr (.inr v0)), (1, .inl v1), (2, .inl v2), (3, .inl v3), (4, .inl v4)] [] (r24 v0 v1 v2 v3 v4)) (v0 : Option Nat) (v1 : Int32) (v2 : Int32) (v4 : Int32) (s0 : Int32) : Sim (M_X12_fits l) (zFin zcI) 139 [(0, .inr (.inr v0)), (1, .inl v1), (2, .inl v2), (4, .inl v4)] [.inl s0] (p_X12_fits_b139 r24 v0 v1 v2 v4 s0) := by
  unfold p_X12_fits_b139
  refine s_istoren (lv' := [(3, .inl s0), (0, .inr (.inr v0)), (1, .inl v1), (2, .inl v2), (4, .inl v4)]) dX12_fits_139 (Nat.le_of_ble_eq_true rfl) rfl ?_
  refine s_n0 (fun y1 hy1 => ?_)
  refine s_iinc (j := 4) (v := y1) (d := 1) (lv' := [(4, .inl y1), (3, .inl s0), (0, .inr (.inr v0)), (1, .inl v1), (2, .inl v2)]) dX12_fits_140 rfl (by decide) hy1 (Nat.le_of_ble_eq_true rfl) rfl ?_
  refine s_goto (tgt := 24) dX12_fits_143 (by decide) ?_
  exact Sim.sub [2, 3, 4, 1, 0] rfl (hr24 v0 v1 v2 s0 y1)
set_option maxRecDepth 20000 in
theorem sim_X12_fits_b138 (l : Launch) (r24 : Option Nat → Int32 → Int32 → Int32 → Int32 → ZM Int32) (hr24 : ∀ (v0 : Option Nat) (v1 : Int32) (v2 : Int32) (v3 : Int32) (v4 : Int32), Sim (M_X12_fits l) (zFin zcI) 24 [(0, .inr (.inr v0)), (1, .inl v1), (2, .inl v2), (3, .inl v3), (4, .inl v4)] [] (r24 v0 v1 v2 v3 v4)) (v0 : Option Nat) (v1 : Int32) (v2 : Int32) (v4 : Int32) : Sim (M_X12_fits l) (zFin zcI) 138 [(0, .inr (.inr v0)), (1, .inl v1), (2, .inl v2), (4, .inl v4)] [] (p_X12_fits_b138 r24 v0 v1 v2 v4) := by
  unfold p_X12_fits_b138
  refine s_iconst (v := 0) dX12_fits_138 (by decide) ?_
  exact Sim.sub [0, 1, 2, 3] rfl (sim_X12_fits_b139 l r24 hr24 v0 v1 v2 v4 0)
set_option maxRecDepth 20000 in
theorem sim_X12_fits_b134 (l : Launch) (r24 : Option Nat → Int32 → Int32 → Int32 → Int32 → ZM Int32) (hr24 : ∀ (v0 : Option Nat) (v1 : Int32) (v2 : Int32) (v3 : Int32) (v4 : Int32), Sim (M_X12_fits l) (zFin zcI) 24 [(0, .inr (.inr v0)), (1, .inl v1), (2, .inl v2), (3, .inl v3), (4, .inl v4)] [] (r24 v0 v1 v2 v3 v4)) (v0 : Option Nat) (v1 : Int32) (v2 : Int32) (v4 : Int32) : Sim (M_X12_fits l) (zFin zcI) 134 [(0, .inr (.inr v0)), (1, .inl v1), (2, .inl v2), (4, .inl v4)] [] (p_X12_fits_b134 r24 v0 v1 v2 v4) := by
  unfold p_X12_fits_b134
  refine s_iconst (v := 1) dX12_fits_134 (by decide) ?_
  refine s_goto (tgt := 139) dX12_fits_135 (by decide) ?_
  exact Sim.sub [0, 1, 2, 3] rfl (sim_X12_fits_b139 l r24 hr24 v0 v1 v2 v4 1)
set_option maxRecDepth 20000 in
theorem sim_X12_fits_c24 (l : Launch) (r24 : Option Nat → Int32 → Int32 → Int32 → Int32 → ZM Int32) (hr24 : ∀ (v0 : Option Nat) (v1 : Int32) (v2 : Int32) (v3 : Int32) (v4 : Int32), Sim (M_X12_fits l) (zFin zcI) 24 [(0, .inr (.inr v0)), (1, .inl v1), (2, .inl v2), (3, .inl v3), (4, .inl v4)] [] (r24 v0 v1 v2 v3 v4)) (v0 : Option Nat) (v1 : Int32) (v2 : Int32) (v3 : Int32) (v4 : Int32) : Sim (M_X12_fits l) (zFin zcI) 24 [(0, .inr (.inr v0)), (1, .inl v1), (2, .inl v2), (3, .inl v3), (4, .inl v4)] [] (p_X12_fits_c24 r24 v0 v1 v2 v3 v4) := by
  unfold p_X12_fits_c24
  refine s_iload (j := 4) dX12_fits_24 rfl ?_
  refine s_aloadn (j := 0) dX12_fits_26 rfl ?_
  refine s_getR (k := 29) cls_13 (by decide) rfl dX12_fits_27 w_1377 rfl (fun x2 => ?_)
  refine s_iloadn (j := 1) dX12_fits_30 rfl ?_
  refine s_iald dX12_fits_31 (fun x3 => ?_)
  refine s_icmp_ge (tgt := 146) dX12_fits_32 (by decide) ?_ ?_
  · refine s_iloadn (j := 3) dX12_fits_146 rfl ?_
    exact s_zret dX12_fits_147 rfl
  · refine s_iloadn (j := 3) dX12_fits_35 rfl ?_
    refine s_if_eq (tgt := 146) dX12_fits_36 (by decide) ?_ ?_
    · refine s_iloadn (j := 3) dX12_fits_146 rfl ?_
      exact s_zret dX12_fits_147 rfl
    · refine s_aloadn (j := 0) dX12_fits_39 rfl ?_
      refine s_getR (k := 27) cls_13 (by decide) rfl dX12_fits_40 w_1375 rfl (fun x4 => ?_)
      refine s_iconst (v := 3) dX12_fits_43 (by decide) ?_
      refine s_iloadn (j := 1) dX12_fits_44 rfl ?_
      refine s_imul dX12_fits_45 ?_
      refine s_iload (j := 4) dX12_fits_46 rfl ?_
      refine s_iadd dX12_fits_48 ?_
      refine s_iald dX12_fits_49 (fun x5 => ?_)
      refine s_iconst (v := 1) dX12_fits_50 (by decide) ?_
      refine s_isub dX12_fits_51 ?_
      refine s_nI (fun y6 => ?_)
      refine s_istore (lv' := [(5, .inl y6), (0, .inr (.inr v0)), (1, .inl v1), (2, .inl v2), (3, .inl v3), (4, .inl v4)]) dX12_fits_52 (Nat.le_of_ble_eq_true rfl) rfl ?_
      refine s_aloadn (j := 1) dX12_fits_54 rfl ?_
      refine s_getR (k := 43) cls_13 (by decide) rfl dX12_fits_55 w_1391 rfl (fun x7 => ?_)
      refine s_iloadn (j := 3) dX12_fits_58 rfl ?_
      refine s_iload (j := 5) dX12_fits_59 rfl ?_
      refine s_iadd dX12_fits_61 ?_
      refine s_iald dX12_fits_62 (fun x8 => ?_)
      refine s_aloadn (j := 1) dX12_fits_63 rfl ?_
      refine s_getR (k := 43) cls_13 (by decide) rfl dX12_fits_64 w_1391 rfl (fun x9 => ?_)
      refine s_iloadn (j := 3) dX12_fits_67 rfl ?_
      refine s_iald dX12_fits_68 (fun x10 => ?_)
      refine s_icmp_ne (tgt := 138) dX12_fits_69 (by decide) ?_ ?_
      · exact Sim.sub [1, 2, 3, 5] rfl (sim_X12_fits_b138 l r24 hr24 v0 v1 v2 v4)
      · refine s_iload (j := 0) dX12_fits_72 rfl ?_
        refine s_iconst (v := (-1)) dX12_fits_74 (by decide) ?_
        refine s_icmp_ne (tgt := 105) dX12_fits_75 (by decide) ?_ ?_
        · refine s_aloadn (j := 1) dX12_fits_105 rfl ?_
          refine s_getR (k := 46) cls_13 (by decide) rfl dX12_fits_106 w_1394 rfl (fun x11 => ?_)
          refine s_iloadn (j := 3) dX12_fits_109 rfl ?_
          refine s_iload (j := 5) dX12_fits_110 rfl ?_
          refine s_iadd dX12_fits_112 ?_
          refine s_iald dX12_fits_113 (fun x12 => ?_)
          refine s_iconst (v := (-1)) dX12_fits_114 (by decide) ?_
          refine s_icmp_eq (tgt := 138) dX12_fits_115 (by decide) ?_ ?_
          · exact Sim.sub [1, 2, 3, 5] rfl (sim_X12_fits_b138 l r24 hr24 v0 v1 v2 v4)
          · refine s_aloadn (j := 1) dX12_fits_118 rfl ?_
            refine s_getR (k := 46) cls_13 (by decide) rfl dX12_fits_119 w_1394 rfl (fun x13 => ?_)
            refine s_iloadn (j := 3) dX12_fits_122 rfl ?_
            refine s_iload (j := 5) dX12_fits_123 rfl ?_
            refine s_iadd dX12_fits_125 ?_
            refine s_iald dX12_fits_126 (fun x14 => ?_)
            refine s_iconst (v := 2) dX12_fits_127 (by decide) ?_
            refine s_idiv dX12_fits_128 (by decide) ?_
            refine s_iload (j := 0) dX12_fits_129 rfl ?_
            refine s_icmp_ne (tgt := 138) dX12_fits_131 (by decide) ?_ ?_
            · exact Sim.sub [1, 2, 3, 5] rfl (sim_X12_fits_b138 l r24 hr24 v0 v1 v2 v4)
            · exact Sim.sub [1, 2, 3, 5] rfl (sim_X12_fits_b134 l r24 hr24 v0 v1 v2 v4)
        · refine s_aloadn (j := 1) dX12_fits_78 rfl ?_
          refine s_getR (k := 44) cls_13 (by decide) rfl dX12_fits_79 w_1392 rfl (fun x15 => ?_)
          refine s_iloadn (j := 3) dX12_fits_82 rfl ?_
          refine s_iload (j := 5) dX12_fits_83 rfl ?_
          refine s_iadd dX12_fits_85 ?_
          refine s_lald dX12_fits_86 (fun x16 => ?_)
          refine s_aloadn (j := 1) dX12_fits_87 rfl ?_
          refine s_getR (k := 28) cls_13 (by decide) rfl dX12_fits_88 w_1376 rfl (fun x17 => ?_)
          refine s_iconst (v := 3) dX12_fits_91 (by decide) ?_
          refine s_iloadn (j := 2) dX12_fits_92 rfl ?_
          refine s_imul dX12_fits_93 ?_
          refine s_iload (j := 5) dX12_fits_94 rfl ?_
          refine s_iadd dX12_fits_96 ?_
          refine s_lald dX12_fits_97 (fun x18 => ?_)
          refine s_lcmp dX12_fits_98 ?_
          refine s_if_ne (tgt := 138) dX12_fits_99 (by decide) ?_ ?_
          · exact Sim.sub [1, 2, 3, 5] rfl (sim_X12_fits_b138 l r24 hr24 v0 v1 v2 v4)
          · refine s_goto (tgt := 134) dX12_fits_102 (by decide) ?_
            exact Sim.sub [1, 2, 3, 5] rfl (sim_X12_fits_b134 l r24 hr24 v0 v1 v2 v4)
theorem sim_X12_fits_l24 (l : Launch) : ∀ (n : Nat) (v0 : Option Nat) (v1 : Int32) (v2 : Int32) (v3 : Int32) (v4 : Int32), Sim (M_X12_fits l) (zFin zcI) 24 [(0, .inr (.inr v0)), (1, .inl v1), (2, .inl v2), (3, .inl v3), (4, .inl v4)] [] (p_X12_fits_l24 n v0 v1 v2 v3 v4)
  | 0, _, _, _, _, _ => s_fl
  | n + 1, v0, v1, v2, v3, v4 => sim_X12_fits_c24 l (p_X12_fits_l24 n) (sim_X12_fits_l24 l n) v0 v1 v2 v3 v4
set_option maxRecDepth 20000 in
theorem sim_X12_fits_b20 (l : Launch) (v0 : Option Nat) (v1 : Int32) (v2 : Int32) (s0 : Int32) : Sim (M_X12_fits l) (zFin zcI) 20 [(0, .inr (.inr v0)), (1, .inl v1), (2, .inl v2)] [.inl s0] (p_X12_fits_b20 v0 v1 v2 s0) := by
  unfold p_X12_fits_b20
  refine s_istoren (lv' := [(3, .inl s0), (0, .inr (.inr v0)), (1, .inl v1), (2, .inl v2)]) dX12_fits_20 (Nat.le_of_ble_eq_true rfl) rfl ?_
  refine s_iconst (v := 0) dX12_fits_21 (by decide) ?_
  refine s_istore (lv' := [(4, .inl 0), (3, .inl s0), (0, .inr (.inr v0)), (1, .inl v1), (2, .inl v2)]) dX12_fits_22 (Nat.le_of_ble_eq_true rfl) rfl ?_
  exact Sim.sub [2, 3, 4, 1, 0] rfl (sim_X12_fits_l24 l zFuel v0 v1 v2 s0 0)
set_option maxRecDepth 20000 in
theorem sim_X12_fits (l : Launch) (v0 : Option Nat) (v1 : Int32) (v2 : Int32) : Sim (M_X12_fits l) (zFin zcI) 0 [(0, .inr (.inr v0)), (1, .inl v1), (2, .inl v2)] [] (p_X12_fits v0 v1 v2) := by
  unfold p_X12_fits
  refine s_iloadn (j := 2) dX12_fits_0 rfl ?_
  refine s_aloadn (j := 0) dX12_fits_1 rfl ?_
  refine s_getR (k := 29) cls_13 (by decide) rfl dX12_fits_2 w_1377 rfl (fun x19 => ?_)
  refine s_iloadn (j := 1) dX12_fits_5 rfl ?_
  refine s_iald dX12_fits_6 (fun x20 => ?_)
  refine s_iadd dX12_fits_7 ?_
  refine s_aloadn (j := 0) dX12_fits_8 rfl ?_
  refine s_getI (k := 40) cls_13 (by decide) rfl dX12_fits_9 w_1388 rfl (fun x21 => ?_)
  refine s_icmp_gt (tgt := 19) dX12_fits_12 (by decide) ?_ ?_
  · refine s_iconst (v := 0) dX12_fits_19 (by decide) ?_
    exact Sim.sub [0, 1, 2] rfl (sim_X12_fits_b20 l v0 v1 v2 0)
  · refine s_iconst (v := 1) dX12_fits_15 (by decide) ?_
    refine s_goto (tgt := 20) dX12_fits_16 (by decide) ?_
    exact Sim.sub [0, 1, 2] rfl (sim_X12_fits_b20 l v0 v1 v2 1)
theorem met_X12_fits (l : Launch) (v0 : Option Nat) (v1 : Int32) (v2 : Int32) : zMet l yX12_fits cX12_fits 6 (some .boolean) 0 0 [.inr (.inr v0), .inl v1, .inl v2] zcI (p_X12_fits v0 v1 v2) :=
  zMet.of (by decide +kernel) (Nat.le_of_ble_eq_true rfl) rfl (sim_X12_fits l v0 v1 v2)
def p_X12_takesStyles_b98 (r25 : Option Nat → Int32 → ZM Unit) (v0 : Option Nat) (s0 : Int32) (s1 : Int32) : ZM Unit :=
  z_n ((s0 + s1) : Int32) fun y1 => r25 v0 y1
def p_X12_takesStyles_b78 (r25 : Option Nat → Int32 → ZM Unit) (v0 : Option Nat) (v1 : Int32) (v2 : Int32) (s0 : Option Nat) (s1 : Int32) (s2 : Int32) : ZM Unit :=
  z_b (z_sI s0 s1 s2) fun _ => z_b (z_gI 13 26 v0) fun x2 => if x2 ≤ v2 then (p_X12_takesStyles_b98 r25 v0 v1 1)
  else (z_b (z_gR 13 29 v0) fun x3 => z_b (z_aI x3 v2) fun x4 => p_X12_takesStyles_b98 r25 v0 v1 x4)
def p_X12_takesStyles_b58 (r25 : Option Nat → Int32 → ZM Unit) (v0 : Option Nat) (v1 : Int32) (v2 : Int32) : ZM Unit :=
  z_b (z_gR 13 48 v0) fun x5 => z_b (z_gI 13 26 v0) fun x6 => if x6 ≤ v2 then (p_X12_takesStyles_b78 r25 v0 v1 v2 x5 v1 0)
  else (p_X12_takesStyles_b78 r25 v0 v1 v2 x5 v1 (v2 + 1))
def p_X12_takesStyles_c35 (r25 : Option Nat → Int32 → ZM Unit) (r35 : Option Nat → Int32 → Int32 → ZM Unit) (v0 : Option Nat) (v1 : Int32) (v2 : Int32) : ZM Unit :=
  z_b (z_gI 13 26 v0) fun x7 => if x7 ≤ v2 then (p_X12_takesStyles_b58 r25 v0 v1 v2)
  else (z_b (z_vr 13 v0 (p_X12_fits v0 v2 v1)) fun x8 => if ¬ x8 = 0 then (p_X12_takesStyles_b58 r25 v0 v1 v2)
  else (z_n (v2 + 1 : Int32) fun y9 => r35 v0 v1 y9))
def p_X12_takesStyles_l35 (r25 : Option Nat → Int32 → ZM Unit) : Nat → Option Nat → Int32 → Int32 → ZM Unit
  | 0, _, _, _ => z_fl
  | n + 1, v0, v1, v2 => p_X12_takesStyles_c35 r25 (p_X12_takesStyles_l35 r25 n) v0 v1 v2
def p_X12_takesStyles_c25 (r25 : Option Nat → Int32 → ZM Unit) (v0 : Option Nat) (v1 : Int32) : ZM Unit :=
  z_b (z_gI 13 40 v0) fun x10 => if x10 ≤ v1 then (z_rt ())
  else (p_X12_takesStyles_l35 r25 zFuel v0 v1 0)
def p_X12_takesStyles_l25 : Nat → Option Nat → Int32 → ZM Unit
  | 0, _, _ => z_fl
  | n + 1, v0, v1 => p_X12_takesStyles_c25 (p_X12_takesStyles_l25 n) v0 v1
def p_X12_takesStyles_c4 (r4 : Option Nat → Int32 → Int32 → ZM Unit) (v0 : Option Nat) (v1 : Int32) (v2 : Int32) : ZM Unit :=
  z_b (z_gI 13 40 v0) fun x11 => if x11 ≤ v2 then (p_X12_takesStyles_l25 zFuel v0 v1)
  else (z_b (z_gR 13 48 v0) fun x12 => z_b (z_sI x12 v2 0) fun _ => z_n (v2 + 1 : Int32) fun y13 => r4 v0 v1 y13)
def p_X12_takesStyles_l4 : Nat → Option Nat → Int32 → Int32 → ZM Unit
  | 0, _, _, _ => z_fl
  | n + 1, v0, v1, v2 => p_X12_takesStyles_c4 (p_X12_takesStyles_l4 n) v0 v1 v2
def p_X12_takesStyles (v0 : Option Nat) : ZM Unit :=
  p_X12_takesStyles_l4 zFuel v0 0 0
abbrev M_X12_takesStyles (l : Launch) : ZMe := (l, "SpellScribeModel", cX12_takesStyles, 3, 1, 25, none, "takesStyles", [])
set_option maxRecDepth 20000 in
theorem sim_X12_takesStyles_b98 (l : Launch) (r25 : Option Nat → Int32 → ZM Unit) (hr25 : ∀ (v0 : Option Nat) (v1 : Int32), Sim (M_X12_takesStyles l) (zFin zcV) 25 [(0, .inr (.inr v0)), (1, .inl v1)] [] (r25 v0 v1)) (v0 : Option Nat) (s0 : Int32) (s1 : Int32) : Sim (M_X12_takesStyles l) (zFin zcV) 98 [(0, .inr (.inr v0))] [.inl s1, .inl s0] (p_X12_takesStyles_b98 r25 v0 s0 s1) := by
  unfold p_X12_takesStyles_b98
  refine s_iadd dX12_takesStyles_98 ?_
  refine s_nI (fun y1 => ?_)
  refine s_istoren (lv' := [(1, .inl y1), (0, .inr (.inr v0))]) dX12_takesStyles_99 (Nat.le_of_ble_eq_true rfl) rfl ?_
  refine s_goto (tgt := 25) dX12_takesStyles_100 (by decide) ?_
  exact Sim.sub [1, 0] rfl (hr25 v0 y1)
set_option maxRecDepth 20000 in
theorem sim_X12_takesStyles_b78 (l : Launch) (r25 : Option Nat → Int32 → ZM Unit) (hr25 : ∀ (v0 : Option Nat) (v1 : Int32), Sim (M_X12_takesStyles l) (zFin zcV) 25 [(0, .inr (.inr v0)), (1, .inl v1)] [] (r25 v0 v1)) (v0 : Option Nat) (v1 : Int32) (v2 : Int32) (s0 : Option Nat) (s1 : Int32) (s2 : Int32) : Sim (M_X12_takesStyles l) (zFin zcV) 78 [(0, .inr (.inr v0)), (1, .inl v1), (2, .inl v2)] [.inl s2, .inl s1, .inr (.inr s0)] (p_X12_takesStyles_b78 r25 v0 v1 v2 s0 s1 s2) := by
  unfold p_X12_takesStyles_b78
  refine s_iast dX12_takesStyles_78 ?_
  refine s_iloadn (j := 1) dX12_takesStyles_79 rfl ?_
  refine s_iloadn (j := 2) dX12_takesStyles_80 rfl ?_
  refine s_aloadn (j := 0) dX12_takesStyles_81 rfl ?_
  refine s_getI (k := 26) cls_13 (by decide) rfl dX12_takesStyles_82 w_1374 rfl (fun x2 => ?_)
  refine s_icmp_ge (tgt := 97) dX12_takesStyles_85 (by decide) ?_ ?_
  · refine s_iconst (v := 1) dX12_takesStyles_97 (by decide) ?_
    exact Sim.sub [0] rfl (sim_X12_takesStyles_b98 l r25 hr25 v0 v1 1)
  · refine s_aloadn (j := 0) dX12_takesStyles_88 rfl ?_
    refine s_getR (k := 29) cls_13 (by decide) rfl dX12_takesStyles_89 w_1377 rfl (fun x3 => ?_)
    refine s_iloadn (j := 2) dX12_takesStyles_92 rfl ?_
    refine s_iald dX12_takesStyles_93 (fun x4 => ?_)
    refine s_goto (tgt := 98) dX12_takesStyles_94 (by decide) ?_
    exact Sim.sub [0] rfl (sim_X12_takesStyles_b98 l r25 hr25 v0 v1 x4)
set_option maxRecDepth 20000 in
theorem sim_X12_takesStyles_b58 (l : Launch) (r25 : Option Nat → Int32 → ZM Unit) (hr25 : ∀ (v0 : Option Nat) (v1 : Int32), Sim (M_X12_takesStyles l) (zFin zcV) 25 [(0, .inr (.inr v0)), (1, .inl v1)] [] (r25 v0 v1)) (v0 : Option Nat) (v1 : Int32) (v2 : Int32) : Sim (M_X12_takesStyles l) (zFin zcV) 58 [(0, .inr (.inr v0)), (1, .inl v1), (2, .inl v2)] [] (p_X12_takesStyles_b58 r25 v0 v1 v2) := by
  unfold p_X12_takesStyles_b58
  refine s_aloadn (j := 0) dX12_takesStyles_58 rfl ?_
  refine s_getR (k := 48) cls_13 (by decide) rfl dX12_takesStyles_59 w_1396 rfl (fun x5 => ?_)
  refine s_iloadn (j := 1) dX12_takesStyles_62 rfl ?_
  refine s_iloadn (j := 2) dX12_takesStyles_63 rfl ?_
  refine s_aloadn (j := 0) dX12_takesStyles_64 rfl ?_
  refine s_getI (k := 26) cls_13 (by decide) rfl dX12_takesStyles_65 w_1374 rfl (fun x6 => ?_)
  refine s_icmp_ge (tgt := 77) dX12_takesStyles_68 (by decide) ?_ ?_
  · refine s_iconst (v := 0) dX12_takesStyles_77 (by decide) ?_
    exact Sim.sub [0, 1, 2] rfl (sim_X12_takesStyles_b78 l r25 hr25 v0 v1 v2 x5 v1 0)
  · refine s_iloadn (j := 2) dX12_takesStyles_71 rfl ?_
    refine s_iconst (v := 1) dX12_takesStyles_72 (by decide) ?_
    refine s_iadd dX12_takesStyles_73 ?_
    refine s_goto (tgt := 78) dX12_takesStyles_74 (by decide) ?_
    exact Sim.sub [0, 1, 2] rfl (sim_X12_takesStyles_b78 l r25 hr25 v0 v1 v2 x5 v1 (v2 + 1))
set_option maxRecDepth 20000 in
theorem sim_X12_takesStyles_c35 (l : Launch) (r25 : Option Nat → Int32 → ZM Unit) (r35 : Option Nat → Int32 → Int32 → ZM Unit) (hr25 : ∀ (v0 : Option Nat) (v1 : Int32), Sim (M_X12_takesStyles l) (zFin zcV) 25 [(0, .inr (.inr v0)), (1, .inl v1)] [] (r25 v0 v1)) (hr35 : ∀ (v0 : Option Nat) (v1 : Int32) (v2 : Int32), Sim (M_X12_takesStyles l) (zFin zcV) 35 [(0, .inr (.inr v0)), (1, .inl v1), (2, .inl v2)] [] (r35 v0 v1 v2)) (v0 : Option Nat) (v1 : Int32) (v2 : Int32) : Sim (M_X12_takesStyles l) (zFin zcV) 35 [(0, .inr (.inr v0)), (1, .inl v1), (2, .inl v2)] [] (p_X12_takesStyles_c35 r25 r35 v0 v1 v2) := by
  unfold p_X12_takesStyles_c35
  refine s_iloadn (j := 2) dX12_takesStyles_35 rfl ?_
  refine s_aloadn (j := 0) dX12_takesStyles_36 rfl ?_
  refine s_getI (k := 26) cls_13 (by decide) rfl dX12_takesStyles_37 w_1374 rfl (fun x7 => ?_)
  refine s_icmp_ge (tgt := 58) dX12_takesStyles_40 (by decide) ?_ ?_
  · exact Sim.sub [0, 1, 2] rfl (sim_X12_takesStyles_b58 l r25 hr25 v0 v1 v2)
  · refine s_aloadn (j := 0) dX12_takesStyles_43 rfl ?_
    refine s_iloadn (j := 2) dX12_takesStyles_44 rfl ?_
    refine s_iloadn (j := 1) dX12_takesStyles_45 rfl ?_
    refine s_cVI (rest := []) (met_X12_fits l v0 v2 v1) cls_13 mth_X12_fits rfl dX12_takesStyles_46 w_1678 w_1680 wp_62 ⟨Nat.le_of_ble_eq_true rfl, Nat.le_of_ble_eq_true rfl⟩ (Nat.le_of_ble_eq_true rfl) rfl (fun x8 => ?_)
    refine s_if_ne (tgt := 58) dX12_takesStyles_49 (by decide) ?_ ?_
    · exact Sim.sub [0, 1, 2] rfl (sim_X12_takesStyles_b58 l r25 hr25 v0 v1 v2)
    · refine s_n0 (fun y9 hy9 => ?_)
      refine s_iinc (j := 2) (v := y9) (d := 1) (lv' := [(2, .inl y9), (0, .inr (.inr v0)), (1, .inl v1)]) dX12_takesStyles_52 rfl (by decide) hy9 (Nat.le_of_ble_eq_true rfl) rfl ?_
      refine s_goto (tgt := 35) dX12_takesStyles_55 (by decide) ?_
      exact Sim.sub [1, 2, 0] rfl (hr35 v0 v1 y9)
theorem sim_X12_takesStyles_l35 (l : Launch) (r25 : Option Nat → Int32 → ZM Unit) (hr25 : ∀ (v0 : Option Nat) (v1 : Int32), Sim (M_X12_takesStyles l) (zFin zcV) 25 [(0, .inr (.inr v0)), (1, .inl v1)] [] (r25 v0 v1)) : ∀ (n : Nat) (v0 : Option Nat) (v1 : Int32) (v2 : Int32), Sim (M_X12_takesStyles l) (zFin zcV) 35 [(0, .inr (.inr v0)), (1, .inl v1), (2, .inl v2)] [] (p_X12_takesStyles_l35 r25 n v0 v1 v2)
  | 0, _, _, _ => s_fl
  | n + 1, v0, v1, v2 => sim_X12_takesStyles_c35 l r25 (p_X12_takesStyles_l35 r25 n) hr25 (sim_X12_takesStyles_l35 l r25 hr25 n) v0 v1 v2
set_option maxRecDepth 20000 in
theorem sim_X12_takesStyles_c25 (l : Launch) (r25 : Option Nat → Int32 → ZM Unit) (hr25 : ∀ (v0 : Option Nat) (v1 : Int32), Sim (M_X12_takesStyles l) (zFin zcV) 25 [(0, .inr (.inr v0)), (1, .inl v1)] [] (r25 v0 v1)) (v0 : Option Nat) (v1 : Int32) : Sim (M_X12_takesStyles l) (zFin zcV) 25 [(0, .inr (.inr v0)), (1, .inl v1)] [] (p_X12_takesStyles_c25 r25 v0 v1) := by
  unfold p_X12_takesStyles_c25
  refine s_iloadn (j := 1) dX12_takesStyles_25 rfl ?_
  refine s_aloadn (j := 0) dX12_takesStyles_26 rfl ?_
  refine s_getI (k := 40) cls_13 (by decide) rfl dX12_takesStyles_27 w_1388 rfl (fun x10 => ?_)
  refine s_icmp_ge (tgt := 103) dX12_takesStyles_30 (by decide) ?_ ?_
  · exact s_vret dX12_takesStyles_103 rfl
  · refine s_iconst (v := 0) dX12_takesStyles_33 (by decide) ?_
    refine s_istoren (lv' := [(2, .inl 0), (0, .inr (.inr v0)), (1, .inl v1)]) dX12_takesStyles_34 (Nat.le_of_ble_eq_true rfl) rfl ?_
    exact Sim.sub [1, 2, 0] rfl (sim_X12_takesStyles_l35 l r25 hr25 zFuel v0 v1 0)
theorem sim_X12_takesStyles_l25 (l : Launch) : ∀ (n : Nat) (v0 : Option Nat) (v1 : Int32), Sim (M_X12_takesStyles l) (zFin zcV) 25 [(0, .inr (.inr v0)), (1, .inl v1)] [] (p_X12_takesStyles_l25 n v0 v1)
  | 0, _, _ => s_fl
  | n + 1, v0, v1 => sim_X12_takesStyles_c25 l (p_X12_takesStyles_l25 n) (sim_X12_takesStyles_l25 l n) v0 v1
set_option maxRecDepth 20000 in
theorem sim_X12_takesStyles_c4 (l : Launch) (r4 : Option Nat → Int32 → Int32 → ZM Unit) (hr4 : ∀ (v0 : Option Nat) (v1 : Int32) (v2 : Int32), Sim (M_X12_takesStyles l) (zFin zcV) 4 [(0, .inr (.inr v0)), (1, .inl v1), (2, .inl v2)] [] (r4 v0 v1 v2)) (v0 : Option Nat) (v1 : Int32) (v2 : Int32) : Sim (M_X12_takesStyles l) (zFin zcV) 4 [(0, .inr (.inr v0)), (1, .inl v1), (2, .inl v2)] [] (p_X12_takesStyles_c4 r4 v0 v1 v2) := by
  unfold p_X12_takesStyles_c4
  refine s_iloadn (j := 2) dX12_takesStyles_4 rfl ?_
  refine s_aloadn (j := 0) dX12_takesStyles_5 rfl ?_
  refine s_getI (k := 40) cls_13 (by decide) rfl dX12_takesStyles_6 w_1388 rfl (fun x11 => ?_)
  refine s_icmp_ge (tgt := 25) dX12_takesStyles_9 (by decide) ?_ ?_
  · exact Sim.sub [0, 1] rfl (sim_X12_takesStyles_l25 l zFuel v0 v1)
  · refine s_aloadn (j := 0) dX12_takesStyles_12 rfl ?_
    refine s_getR (k := 48) cls_13 (by decide) rfl dX12_takesStyles_13 w_1396 rfl (fun x12 => ?_)
    refine s_iloadn (j := 2) dX12_takesStyles_16 rfl ?_
    refine s_iconst (v := 0) dX12_takesStyles_17 (by decide) ?_
    refine s_iast dX12_takesStyles_18 ?_
    refine s_n0 (fun y13 hy13 => ?_)
    refine s_iinc (j := 2) (v := y13) (d := 1) (lv' := [(2, .inl y13), (0, .inr (.inr v0)), (1, .inl v1)]) dX12_takesStyles_19 rfl (by decide) hy13 (Nat.le_of_ble_eq_true rfl) rfl ?_
    refine s_goto (tgt := 4) dX12_takesStyles_22 (by decide) ?_
    exact Sim.sub [1, 2, 0] rfl (hr4 v0 v1 y13)
theorem sim_X12_takesStyles_l4 (l : Launch) : ∀ (n : Nat) (v0 : Option Nat) (v1 : Int32) (v2 : Int32), Sim (M_X12_takesStyles l) (zFin zcV) 4 [(0, .inr (.inr v0)), (1, .inl v1), (2, .inl v2)] [] (p_X12_takesStyles_l4 n v0 v1 v2)
  | 0, _, _, _ => s_fl
  | n + 1, v0, v1, v2 => sim_X12_takesStyles_c4 l (p_X12_takesStyles_l4 n) (sim_X12_takesStyles_l4 l n) v0 v1 v2
set_option maxRecDepth 20000 in
theorem sim_X12_takesStyles (l : Launch) (v0 : Option Nat) : Sim (M_X12_takesStyles l) (zFin zcV) 0 [(0, .inr (.inr v0))] [] (p_X12_takesStyles v0) := by
  unfold p_X12_takesStyles
  refine s_iconst (v := 0) dX12_takesStyles_0 (by decide) ?_
  refine s_istoren (lv' := [(1, .inl 0), (0, .inr (.inr v0))]) dX12_takesStyles_1 (Nat.le_of_ble_eq_true rfl) rfl ?_
  refine s_iconst (v := 0) dX12_takesStyles_2 (by decide) ?_
  refine s_istoren (lv' := [(2, .inl 0), (1, .inl 0), (0, .inr (.inr v0))]) dX12_takesStyles_3 (Nat.le_of_ble_eq_true rfl) rfl ?_
  exact Sim.sub [2, 1, 0] rfl (sim_X12_takesStyles_l4 l zFuel v0 0 0)
theorem met_X12_takesStyles (l : Launch) (v0 : Option Nat) : zMet l yX12_takesStyles cX12_takesStyles 3 none 1 25 [.inr (.inr v0)] zcV (p_X12_takesStyles v0) :=
  zMet.of (by decide +kernel) (Nat.le_of_ble_eq_true rfl) rfl (sim_X12_takesStyles l v0)
def p_X12_reads_b40 (v0 : Option Nat) : ZM Unit :=
  z_b (z_vr 13 v0 (p_X12_chooses v0)) fun _ => z_b (z_vr 13 v0 (p_X12_takesStyles v0)) fun _ => z_rt ()
def p_X12_reads_c10 (r10 : Option Nat → Int32 → ZM Unit) (v0 : Option Nat) (v1 : Int32) : ZM Unit :=
  z_b (z_gI 13 40 v0) fun x1 => if x1 ≤ v1 then (p_X12_reads_b40 v0)
  else (z_b (z_gR 13 45 v0) fun x2 => z_b (z_gR 13 44 v0) fun x3 => z_b (z_aL x3 v1) fun x4 => z_b (z_vr 13 v0 (p_X12_readingsOf v0 x4)) fun x5 => z_b (z_sI x2 v1 x5) fun _ => z_n (v1 + 1 : Int32) fun y6 => r10 v0 y6)
def p_X12_reads_l10 : Nat → Option Nat → Int32 → ZM Unit
  | 0, _, _ => z_fl
  | n + 1, v0, v1 => p_X12_reads_c10 (p_X12_reads_l10 n) v0 v1
def p_X12_reads (v0 : Option Nat) : ZM Unit :=
  z_b (z_vr 13 v0 (p_X12_makes v0)) fun _ => z_b (z_vr 13 v0 (p_X12_finds v0)) fun _ => p_X12_reads_l10 zFuel v0 0
abbrev M_X12_reads (l : Launch) : ZMe := (l, "SpellScribeModel", cX12_reads, 2, 6, 159, none, "reads", [])
set_option maxRecDepth 20000 in
theorem sim_X12_reads_b40 (l : Launch) (v0 : Option Nat) : Sim (M_X12_reads l) (zFin zcV) 40 [(0, .inr (.inr v0))] [] (p_X12_reads_b40 v0) := by
  unfold p_X12_reads_b40
  refine s_aloadn (j := 0) dX12_reads_40 rfl ?_
  refine s_cVV (rest := []) (met_X12_chooses l v0) cls_13 mth_X12_chooses rfl dX12_reads_41 w_1654 w_1656 wp_56 ⟨Nat.le_of_ble_eq_true rfl, Nat.le_of_ble_eq_true rfl⟩ (Nat.le_of_ble_eq_true rfl) rfl ?_
  refine s_aloadn (j := 0) dX12_reads_44 rfl ?_
  refine s_cVV (rest := []) (met_X12_takesStyles l v0) cls_13 mth_X12_takesStyles rfl dX12_reads_45 w_1674 w_1676 wp_61 ⟨Nat.le_of_ble_eq_true rfl, Nat.le_of_ble_eq_true rfl⟩ (Nat.le_of_ble_eq_true rfl) rfl ?_
  exact s_vret dX12_reads_48 rfl
set_option maxRecDepth 20000 in
theorem sim_X12_reads_c10 (l : Launch) (r10 : Option Nat → Int32 → ZM Unit) (hr10 : ∀ (v0 : Option Nat) (v1 : Int32), Sim (M_X12_reads l) (zFin zcV) 10 [(0, .inr (.inr v0)), (1, .inl v1)] [] (r10 v0 v1)) (v0 : Option Nat) (v1 : Int32) : Sim (M_X12_reads l) (zFin zcV) 10 [(0, .inr (.inr v0)), (1, .inl v1)] [] (p_X12_reads_c10 r10 v0 v1) := by
  unfold p_X12_reads_c10
  refine s_iloadn (j := 1) dX12_reads_10 rfl ?_
  refine s_aloadn (j := 0) dX12_reads_11 rfl ?_
  refine s_getI (k := 40) cls_13 (by decide) rfl dX12_reads_12 w_1388 rfl (fun x1 => ?_)
  refine s_icmp_ge (tgt := 40) dX12_reads_15 (by decide) ?_ ?_
  · exact Sim.sub [0] rfl (sim_X12_reads_b40 l v0)
  · refine s_aloadn (j := 0) dX12_reads_18 rfl ?_
    refine s_getR (k := 45) cls_13 (by decide) rfl dX12_reads_19 w_1393 rfl (fun x2 => ?_)
    refine s_iloadn (j := 1) dX12_reads_22 rfl ?_
    refine s_aloadn (j := 0) dX12_reads_23 rfl ?_
    refine s_aloadn (j := 0) dX12_reads_24 rfl ?_
    refine s_getR (k := 44) cls_13 (by decide) rfl dX12_reads_25 w_1392 rfl (fun x3 => ?_)
    refine s_iloadn (j := 1) dX12_reads_28 rfl ?_
    refine s_lald dX12_reads_29 (fun x4 => ?_)
    refine s_cVI (rest := [.inl v1, .inr (.inr x2)]) (met_X12_readingsOf l v0 x4) cls_13 mth_X12_readingsOf rfl dX12_reads_30 w_1639 w_1641 wp_53 ⟨Nat.le_of_ble_eq_true rfl, Nat.le_of_ble_eq_true rfl⟩ (Nat.le_of_ble_eq_true rfl) rfl (fun x5 => ?_)
    refine s_iast dX12_reads_33 ?_
    refine s_n0 (fun y6 hy6 => ?_)
    refine s_iinc (j := 1) (v := y6) (d := 1) (lv' := [(1, .inl y6), (0, .inr (.inr v0))]) dX12_reads_34 rfl (by decide) hy6 (Nat.le_of_ble_eq_true rfl) rfl ?_
    refine s_goto (tgt := 10) dX12_reads_37 (by decide) ?_
    exact Sim.sub [1, 0] rfl (hr10 v0 y6)
theorem sim_X12_reads_l10 (l : Launch) : ∀ (n : Nat) (v0 : Option Nat) (v1 : Int32), Sim (M_X12_reads l) (zFin zcV) 10 [(0, .inr (.inr v0)), (1, .inl v1)] [] (p_X12_reads_l10 n v0 v1)
  | 0, _, _ => s_fl
  | n + 1, v0, v1 => sim_X12_reads_c10 l (p_X12_reads_l10 n) (sim_X12_reads_l10 l n) v0 v1
set_option maxRecDepth 20000 in
theorem sim_X12_reads (l : Launch) (v0 : Option Nat) : Sim (M_X12_reads l) (zFin zcV) 0 [(0, .inr (.inr v0))] [] (p_X12_reads v0) := by
  unfold p_X12_reads
  refine s_aloadn (j := 0) dX12_reads_0 rfl ?_
  refine s_cVV (rest := []) (met_X12_makes l v0) cls_13 mth_X12_makes rfl dX12_reads_1 w_1593 w_1595 wp_46 ⟨Nat.le_of_ble_eq_true rfl, Nat.le_of_ble_eq_true rfl⟩ (Nat.le_of_ble_eq_true rfl) rfl ?_
  refine s_aloadn (j := 0) dX12_reads_4 rfl ?_
  refine s_cVV (rest := []) (met_X12_finds l v0) cls_13 mth_X12_finds rfl dX12_reads_5 w_1632 w_1634 wp_52 ⟨Nat.le_of_ble_eq_true rfl, Nat.le_of_ble_eq_true rfl⟩ (Nat.le_of_ble_eq_true rfl) rfl ?_
  refine s_iconst (v := 0) dX12_reads_8 (by decide) ?_
  refine s_istoren (lv' := [(1, .inl 0), (0, .inr (.inr v0))]) dX12_reads_9 (Nat.le_of_ble_eq_true rfl) rfl ?_
  exact Sim.sub [1, 0] rfl (sim_X12_reads_l10 l zFuel v0 0)
theorem met_X12_reads (l : Launch) (v0 : Option Nat) : zMet l yX12_reads cX12_reads 2 none 6 159 [.inr (.inr v0)] zcV (p_X12_reads v0) :=
  zMet.of (by decide +kernel) (Nat.le_of_ble_eq_true rfl) rfl (sim_X12_reads l v0)
def p_X12_hasWord_b24 (v0 : Option Nat) (s0 : Option Nat) (s1 : Int32) : ZM Int32 :=
  z_b (z_pI 13 58 s0 s1) fun _ => z_b (z_gI 13 58 v0) fun x1 => if ¬ x1 = 0 then (z_rz 0)
  else (z_rz 1)
def p_X12_hasWord (v0 : Option Nat) (v1 : Int32) : ZM Int32 :=
  z_b (z_vr 13 v0 (p_X12_reads v0)) fun _ => z_b (z_gI 13 40 v0) fun x2 => z_b (p_X12_in v1 0 (x2 - 1)) fun x3 => if x3 = 0 then (p_X12_hasWord_b24 v0 v0 1)
  else (p_X12_hasWord_b24 v0 v0 0)
abbrev M_X12_hasWord (l : Launch) : ZMe := (l, "SpellScribeModel", cX12_hasWord, 2, 7, 180, (some .boolean), "hasWord", [])
set_option maxRecDepth 20000 in
theorem sim_X12_hasWord_b24 (l : Launch) (v0 : Option Nat) (s0 : Option Nat) (s1 : Int32) : Sim (M_X12_hasWord l) (zFin zcI) 24 [(0, .inr (.inr v0))] [.inl s1, .inr (.inr s0)] (p_X12_hasWord_b24 v0 s0 s1) := by
  unfold p_X12_hasWord_b24
  refine s_putI (k := 58) cls_13 (by decide) rfl rfl rfl dX12_hasWord_24 w_1406 rfl ?_
  refine s_aloadn (j := 0) dX12_hasWord_27 rfl ?_
  refine s_getI (k := 58) cls_13 (by decide) rfl dX12_hasWord_28 w_1406 rfl (fun x1 => ?_)
  refine s_if_ne (tgt := 38) dX12_hasWord_31 (by decide) ?_ ?_
  · refine s_iconst (v := 0) dX12_hasWord_38 (by decide) ?_
    exact s_zret dX12_hasWord_39 rfl
  · refine s_iconst (v := 1) dX12_hasWord_34 (by decide) ?_
    refine s_goto (tgt := 39) dX12_hasWord_35 (by decide) ?_
    exact s_zret dX12_hasWord_39 rfl
set_option maxRecDepth 20000 in
theorem sim_X12_hasWord (l : Launch) (v0 : Option Nat) (v1 : Int32) : Sim (M_X12_hasWord l) (zFin zcI) 0 [(0, .inr (.inr v0)), (1, .inl v1)] [] (p_X12_hasWord v0 v1) := by
  unfold p_X12_hasWord
  refine s_aloadn (j := 0) dX12_hasWord_0 rfl ?_
  refine s_cVV (rest := []) (met_X12_reads l v0) cls_13 mth_X12_reads rfl dX12_hasWord_1 w_1589 w_1591 wp_45 ⟨Nat.le_of_ble_eq_true rfl, Nat.le_of_ble_eq_true rfl⟩ (Nat.le_of_ble_eq_true rfl) rfl ?_
  refine s_aloadn (j := 0) dX12_hasWord_4 rfl ?_
  refine s_iloadn (j := 1) dX12_hasWord_5 rfl ?_
  refine s_iconst (v := 0) dX12_hasWord_6 (by decide) ?_
  refine s_aloadn (j := 0) dX12_hasWord_7 rfl ?_
  refine s_getI (k := 40) cls_13 (by decide) rfl dX12_hasWord_8 w_1388 rfl (fun x2 => ?_)
  refine s_iconst (v := 1) dX12_hasWord_11 (by decide) ?_
  refine s_isub dX12_hasWord_12 ?_
  refine s_cSI (rest := [.inr (.inr v0)]) (met_X12_in l v1 0 (x2 - 1)) mth_X12_in rfl dX12_hasWord_13 w_1535 w_1536 ⟨Nat.le_of_ble_eq_true rfl, Nat.le_of_ble_eq_true rfl⟩ (Nat.le_of_ble_eq_true rfl) rfl (fun x3 => ?_)
  refine s_if_eq (tgt := 23) dX12_hasWord_16 (by decide) ?_ ?_
  · refine s_iconst (v := 1) dX12_hasWord_23 (by decide) ?_
    exact Sim.sub [0] rfl (sim_X12_hasWord_b24 l v0 v0 1)
  · refine s_iconst (v := 0) dX12_hasWord_19 (by decide) ?_
    refine s_goto (tgt := 24) dX12_hasWord_20 (by decide) ?_
    exact Sim.sub [0] rfl (sim_X12_hasWord_b24 l v0 v0 0)
theorem met_X12_hasWord (l : Launch) (v0 : Option Nat) (v1 : Int32) : zMet l yX12_hasWord cX12_hasWord 2 (some .boolean) 7 180 [.inr (.inr v0), .inl v1] zcI (p_X12_hasWord v0 v1) :=
  zMet.of (by decide +kernel) (Nat.le_of_ble_eq_true rfl) rfl (sim_X12_hasWord l v0 v1)
def p_X12_ignore_b178 (v0 : Option Nat) (v2 : Int32) : ZM Int32 :=
  z_b (z_gR 13 24 v0) fun x1 => z_b (z_aI x1 v2) fun x2 => z_rt x2
def p_X12_ignore_b131 (v0 : Option Nat) (v1 : Int32) (v2 : Int32) : ZM Int32 :=
  z_b (z_gR 13 24 v0) fun x3 => z_b (z_aI x3 v2) fun x4 => z_b (z_sI x3 v2 (x4 + 1)) fun _ => z_b (z_gR 13 24 v0) fun x5 => z_b (z_aI x5 v2) fun x6 => if x6 < 3 then (p_X12_ignore_b178 v0 v2)
  else (z_b (z_gI 13 17 v0) fun x7 => if 10 ≤ x7 then (p_X12_ignore_b178 v0 v2)
  else (z_b (z_gR 13 44 v0) fun x8 => z_b (z_aL x8 v1) fun x9 => z_b (z_vr 13 v0 (p_X12_owns v0 x9 0)) fun _ => z_b (z_gR 13 24 v0) fun x10 => z_b (z_sI x10 v2 0) fun _ => p_X12_ignore_b178 v0 v2))
def p_X12_ignore_b94 (v0 : Option Nat) (v1 : Int32) (v2 : Int32) : ZM Int32 :=
  z_b (z_gI 13 22 v0) fun x11 => if ¬ v2 = x11 then (p_X12_ignore_b131 v0 v1 v2)
  else (z_b (z_gR 13 23 v0) fun x12 => z_b (z_gR 13 44 v0) fun x13 => z_b (z_aL x13 v1) fun x14 => z_b (z_sL x12 v2 x14) fun _ => z_b (z_gR 13 24 v0) fun x15 => z_b (z_sI x15 v2 0) fun _ => z_b (z_gI 13 22 v0) fun x16 => z_b (z_pI 13 22 v0 (x16 + 1)) fun _ => p_X12_ignore_b131 v0 v1 v2)
def p_X12_ignore_c64 (r64 : Option Nat → Int32 → Int32 → ZM Int32) (v0 : Option Nat) (v1 : Int32) (v2 : Int32) : ZM Int32 :=
  z_b (z_gI 13 22 v0) fun x17 => if x17 ≤ v2 then (p_X12_ignore_b94 v0 v1 v2)
  else (z_b (z_gR 13 23 v0) fun x18 => z_b (z_aL x18 v2) fun x19 => z_b (z_gR 13 44 v0) fun x20 => z_b (z_aL x20 v1) fun x21 => if (lg_cmp x19 x21) = 0 then (p_X12_ignore_b94 v0 v1 v2)
  else (z_n (v2 + 1 : Int32) fun y22 => r64 v0 v1 y22))
def p_X12_ignore_l64 : Nat → Option Nat → Int32 → Int32 → ZM Int32
  | 0, _, _, _ => z_fl
  | n + 1, v0, v1, v2 => p_X12_ignore_c64 (p_X12_ignore_l64 n) v0 v1 v2
def p_X12_ignore_b50 (v0 : Option Nat) (v1 : Int32) (s0 : Option Nat) (s1 : Int32) : ZM Int32 :=
  z_b (z_pI 13 58 s0 s1) fun _ => z_b (z_gI 13 58 v0) fun x23 => if x23 ≤ 0 then (p_X12_ignore_l64 zFuel v0 v1 0)
  else (z_rt 0)
def p_X12_ignore_b45 (v0 : Option Nat) (v1 : Int32) (s0 : Option Nat) : ZM Int32 :=
  p_X12_ignore_b50 v0 v1 s0 2
def p_X12_ignore (v0 : Option Nat) (v1 : Int32) : ZM Int32 :=
  z_b (z_vr 13 v0 (p_X12_hasWord v0 v1)) fun x24 => if ¬ x24 = 0 then (z_b (z_gR 13 45 v0) fun x25 => z_b (z_aI x25 v1) fun x26 => if ¬ x26 = 0 then (p_X12_ignore_b45 v0 v1 v0)
  else (z_b (z_gR 13 44 v0) fun x27 => z_b (z_aL x27 v1) fun x28 => if (lg_cmp x28 0) = 0 then (p_X12_ignore_b45 v0 v1 v0)
  else (z_b (z_gR 13 44 v0) fun x29 => z_b (z_aL x29 v1) fun x30 => z_b (z_vr 13 v0 (p_X12_barOf v0 x30)) fun x31 => if x31 = (-1) then (p_X12_ignore_b50 v0 v1 v0 0)
  else (p_X12_ignore_b45 v0 v1 v0))))
  else (z_rt 0)
abbrev M_X12_ignore (l : Launch) : ZMe := (l, "SpellScribeModel", cX12_ignore, 3, 8, 201, (some .int), "ignore", [])
set_option maxRecDepth 20000 in
theorem sim_X12_ignore_b178 (l : Launch) (v0 : Option Nat) (v2 : Int32) : Sim (M_X12_ignore l) (zFin zcI) 178 [(0, .inr (.inr v0)), (2, .inl v2)] [] (p_X12_ignore_b178 v0 v2) := by
  unfold p_X12_ignore_b178
  refine s_aloadn (j := 0) dX12_ignore_178 rfl ?_
  refine s_getR (k := 24) cls_13 (by decide) rfl dX12_ignore_179 w_1372 rfl (fun x1 => ?_)
  refine s_iloadn (j := 1) dX12_ignore_182 rfl ?_
  refine s_iald dX12_ignore_183 (fun x2 => ?_)
  exact s_iret dX12_ignore_184 rfl
set_option maxRecDepth 20000 in
theorem sim_X12_ignore_b131 (l : Launch) (v0 : Option Nat) (v1 : Int32) (v2 : Int32) : Sim (M_X12_ignore l) (zFin zcI) 131 [(0, .inr (.inr v0)), (1, .inl v1), (2, .inl v2)] [] (p_X12_ignore_b131 v0 v1 v2) := by
  unfold p_X12_ignore_b131
  refine s_aloadn (j := 0) dX12_ignore_131 rfl ?_
  refine s_getR (k := 24) cls_13 (by decide) rfl dX12_ignore_132 w_1372 rfl (fun x3 => ?_)
  refine s_iloadn (j := 2) dX12_ignore_135 rfl ?_
  refine s_dup2RI dX12_ignore_136 ?_
  refine s_iald dX12_ignore_137 (fun x4 => ?_)
  refine s_iconst (v := 1) dX12_ignore_138 (by decide) ?_
  refine s_iadd dX12_ignore_139 ?_
  refine s_iast dX12_ignore_140 ?_
  refine s_aloadn (j := 0) dX12_ignore_141 rfl ?_
  refine s_getR (k := 24) cls_13 (by decide) rfl dX12_ignore_142 w_1372 rfl (fun x5 => ?_)
  refine s_iloadn (j := 2) dX12_ignore_145 rfl ?_
  refine s_iald dX12_ignore_146 (fun x6 => ?_)
  refine s_iconst (v := 3) dX12_ignore_147 (by decide) ?_
  refine s_icmp_lt (tgt := 178) dX12_ignore_148 (by decide) ?_ ?_
  · exact Sim.sub [0, 2] rfl (sim_X12_ignore_b178 l v0 v2)
  · refine s_aloadn (j := 0) dX12_ignore_151 rfl ?_
    refine s_getI (k := 17) cls_13 (by decide) rfl dX12_ignore_152 w_1365 rfl (fun x7 => ?_)
    refine s_bipush (v := 10) dX12_ignore_155 (by decide) ?_
    refine s_icmp_ge (tgt := 178) dX12_ignore_157 (by decide) ?_ ?_
    · exact Sim.sub [0, 2] rfl (sim_X12_ignore_b178 l v0 v2)
    · refine s_aloadn (j := 0) dX12_ignore_160 rfl ?_
      refine s_aloadn (j := 0) dX12_ignore_161 rfl ?_
      refine s_getR (k := 44) cls_13 (by decide) rfl dX12_ignore_162 w_1392 rfl (fun x8 => ?_)
      refine s_iloadn (j := 1) dX12_ignore_165 rfl ?_
      refine s_lald dX12_ignore_166 (fun x9 => ?_)
      refine s_iconst (v := 0) dX12_ignore_167 (by decide) ?_
      refine s_cVV (rest := []) (met_X12_owns l v0 x9 0) cls_13 mth_X12_owns rfl dX12_ignore_168 w_1569 w_1571 wp_42 ⟨Nat.le_of_ble_eq_true rfl, Nat.le_of_ble_eq_true rfl⟩ (Nat.le_of_ble_eq_true rfl) rfl ?_
      refine s_aloadn (j := 0) dX12_ignore_171 rfl ?_
      refine s_getR (k := 24) cls_13 (by decide) rfl dX12_ignore_172 w_1372 rfl (fun x10 => ?_)
      refine s_iloadn (j := 2) dX12_ignore_175 rfl ?_
      refine s_iconst (v := 0) dX12_ignore_176 (by decide) ?_
      refine s_iast dX12_ignore_177 ?_
      exact Sim.sub [0, 2] rfl (sim_X12_ignore_b178 l v0 v2)
set_option maxRecDepth 20000 in
theorem sim_X12_ignore_b94 (l : Launch) (v0 : Option Nat) (v1 : Int32) (v2 : Int32) : Sim (M_X12_ignore l) (zFin zcI) 94 [(0, .inr (.inr v0)), (1, .inl v1), (2, .inl v2)] [] (p_X12_ignore_b94 v0 v1 v2) := by
  unfold p_X12_ignore_b94
  refine s_iloadn (j := 2) dX12_ignore_94 rfl ?_
  refine s_aloadn (j := 0) dX12_ignore_95 rfl ?_
  refine s_getI (k := 22) cls_13 (by decide) rfl dX12_ignore_96 w_1370 rfl (fun x11 => ?_)
  refine s_icmp_ne (tgt := 131) dX12_ignore_99 (by decide) ?_ ?_
  · exact Sim.sub [0, 1, 2] rfl (sim_X12_ignore_b131 l v0 v1 v2)
  · refine s_aloadn (j := 0) dX12_ignore_102 rfl ?_
    refine s_getR (k := 23) cls_13 (by decide) rfl dX12_ignore_103 w_1371 rfl (fun x12 => ?_)
    refine s_iloadn (j := 2) dX12_ignore_106 rfl ?_
    refine s_aloadn (j := 0) dX12_ignore_107 rfl ?_
    refine s_getR (k := 44) cls_13 (by decide) rfl dX12_ignore_108 w_1392 rfl (fun x13 => ?_)
    refine s_iloadn (j := 1) dX12_ignore_111 rfl ?_
    refine s_lald dX12_ignore_112 (fun x14 => ?_)
    refine s_last dX12_ignore_113 ?_
    refine s_aloadn (j := 0) dX12_ignore_114 rfl ?_
    refine s_getR (k := 24) cls_13 (by decide) rfl dX12_ignore_115 w_1372 rfl (fun x15 => ?_)
    refine s_iloadn (j := 2) dX12_ignore_118 rfl ?_
    refine s_iconst (v := 0) dX12_ignore_119 (by decide) ?_
    refine s_iast dX12_ignore_120 ?_
    refine s_aloadn (j := 0) dX12_ignore_121 rfl ?_
    refine s_dupR dX12_ignore_122 ?_
    refine s_getI (k := 22) cls_13 (by decide) rfl dX12_ignore_123 w_1370 rfl (fun x16 => ?_)
    refine s_iconst (v := 1) dX12_ignore_126 (by decide) ?_
    refine s_iadd dX12_ignore_127 ?_
    refine s_putI (k := 22) cls_13 (by decide) rfl rfl rfl dX12_ignore_128 w_1370 rfl ?_
    exact Sim.sub [0, 1, 2] rfl (sim_X12_ignore_b131 l v0 v1 v2)
set_option maxRecDepth 20000 in
theorem sim_X12_ignore_c64 (l : Launch) (r64 : Option Nat → Int32 → Int32 → ZM Int32) (hr64 : ∀ (v0 : Option Nat) (v1 : Int32) (v2 : Int32), Sim (M_X12_ignore l) (zFin zcI) 64 [(0, .inr (.inr v0)), (1, .inl v1), (2, .inl v2)] [] (r64 v0 v1 v2)) (v0 : Option Nat) (v1 : Int32) (v2 : Int32) : Sim (M_X12_ignore l) (zFin zcI) 64 [(0, .inr (.inr v0)), (1, .inl v1), (2, .inl v2)] [] (p_X12_ignore_c64 r64 v0 v1 v2) := by
  unfold p_X12_ignore_c64
  refine s_iloadn (j := 2) dX12_ignore_64 rfl ?_
  refine s_aloadn (j := 0) dX12_ignore_65 rfl ?_
  refine s_getI (k := 22) cls_13 (by decide) rfl dX12_ignore_66 w_1370 rfl (fun x17 => ?_)
  refine s_icmp_ge (tgt := 94) dX12_ignore_69 (by decide) ?_ ?_
  · exact Sim.sub [0, 1, 2] rfl (sim_X12_ignore_b94 l v0 v1 v2)
  · refine s_aloadn (j := 0) dX12_ignore_72 rfl ?_
    refine s_getR (k := 23) cls_13 (by decide) rfl dX12_ignore_73 w_1371 rfl (fun x18 => ?_)
    refine s_iloadn (j := 2) dX12_ignore_76 rfl ?_
    refine s_lald dX12_ignore_77 (fun x19 => ?_)
    refine s_aloadn (j := 0) dX12_ignore_78 rfl ?_
    refine s_getR (k := 44) cls_13 (by decide) rfl dX12_ignore_79 w_1392 rfl (fun x20 => ?_)
    refine s_iloadn (j := 1) dX12_ignore_82 rfl ?_
    refine s_lald dX12_ignore_83 (fun x21 => ?_)
    refine s_lcmp dX12_ignore_84 ?_
    refine s_if_eq (tgt := 94) dX12_ignore_85 (by decide) ?_ ?_
    · exact Sim.sub [0, 1, 2] rfl (sim_X12_ignore_b94 l v0 v1 v2)
    · refine s_n0 (fun y22 hy22 => ?_)
      refine s_iinc (j := 2) (v := y22) (d := 1) (lv' := [(2, .inl y22), (0, .inr (.inr v0)), (1, .inl v1)]) dX12_ignore_88 rfl (by decide) hy22 (Nat.le_of_ble_eq_true rfl) rfl ?_
      refine s_goto (tgt := 64) dX12_ignore_91 (by decide) ?_
      exact Sim.sub [1, 2, 0] rfl (hr64 v0 v1 y22)
theorem sim_X12_ignore_l64 (l : Launch) : ∀ (n : Nat) (v0 : Option Nat) (v1 : Int32) (v2 : Int32), Sim (M_X12_ignore l) (zFin zcI) 64 [(0, .inr (.inr v0)), (1, .inl v1), (2, .inl v2)] [] (p_X12_ignore_l64 n v0 v1 v2)
  | 0, _, _, _ => s_fl
  | n + 1, v0, v1, v2 => sim_X12_ignore_c64 l (p_X12_ignore_l64 n) (sim_X12_ignore_l64 l n) v0 v1 v2
set_option maxRecDepth 20000 in
theorem sim_X12_ignore_b50 (l : Launch) (v0 : Option Nat) (v1 : Int32) (s0 : Option Nat) (s1 : Int32) : Sim (M_X12_ignore l) (zFin zcI) 50 [(0, .inr (.inr v0)), (1, .inl v1)] [.inl s1, .inr (.inr s0)] (p_X12_ignore_b50 v0 v1 s0 s1) := by
  unfold p_X12_ignore_b50
  refine s_putI (k := 58) cls_13 (by decide) rfl rfl rfl dX12_ignore_50 w_1406 rfl ?_
  refine s_aloadn (j := 0) dX12_ignore_53 rfl ?_
  refine s_getI (k := 58) cls_13 (by decide) rfl dX12_ignore_54 w_1406 rfl (fun x23 => ?_)
  refine s_if_le (tgt := 62) dX12_ignore_57 (by decide) ?_ ?_
  · refine s_iconst (v := 0) dX12_ignore_62 (by decide) ?_
    refine s_istoren (lv' := [(2, .inl 0), (0, .inr (.inr v0)), (1, .inl v1)]) dX12_ignore_63 (Nat.le_of_ble_eq_true rfl) rfl ?_
    exact Sim.sub [1, 2, 0] rfl (sim_X12_ignore_l64 l zFuel v0 v1 0)
  · refine s_iconst (v := 0) dX12_ignore_60 (by decide) ?_
    exact s_iret dX12_ignore_61 rfl
set_option maxRecDepth 20000 in
theorem sim_X12_ignore_b45 (l : Launch) (v0 : Option Nat) (v1 : Int32) (s0 : Option Nat) : Sim (M_X12_ignore l) (zFin zcI) 45 [(0, .inr (.inr v0)), (1, .inl v1)] [.inr (.inr s0)] (p_X12_ignore_b45 v0 v1 s0) := by
  unfold p_X12_ignore_b45
  refine s_iconst (v := 2) dX12_ignore_45 (by decide) ?_
  refine s_goto (tgt := 50) dX12_ignore_46 (by decide) ?_
  exact Sim.sub [0, 1] rfl (sim_X12_ignore_b50 l v0 v1 s0 2)
set_option maxRecDepth 20000 in
theorem sim_X12_ignore (l : Launch) (v0 : Option Nat) (v1 : Int32) : Sim (M_X12_ignore l) (zFin zcI) 0 [(0, .inr (.inr v0)), (1, .inl v1)] [] (p_X12_ignore v0 v1) := by
  unfold p_X12_ignore
  refine s_aloadn (j := 0) dX12_ignore_0 rfl ?_
  refine s_iloadn (j := 1) dX12_ignore_1 rfl ?_
  refine s_cVI (rest := []) (met_X12_hasWord l v0 v1) cls_13 mth_X12_hasWord rfl dX12_ignore_2 w_1585 w_1587 wp_44 ⟨Nat.le_of_ble_eq_true rfl, Nat.le_of_ble_eq_true rfl⟩ (Nat.le_of_ble_eq_true rfl) rfl (fun x24 => ?_)
  refine s_if_ne (tgt := 10) dX12_ignore_5 (by decide) ?_ ?_
  · refine s_aloadn (j := 0) dX12_ignore_10 rfl ?_
    refine s_aloadn (j := 0) dX12_ignore_11 rfl ?_
    refine s_getR (k := 45) cls_13 (by decide) rfl dX12_ignore_12 w_1393 rfl (fun x25 => ?_)
    refine s_iloadn (j := 1) dX12_ignore_15 rfl ?_
    refine s_iald dX12_ignore_16 (fun x26 => ?_)
    refine s_if_ne (tgt := 45) dX12_ignore_17 (by decide) ?_ ?_
    · exact Sim.sub [0, 1] rfl (sim_X12_ignore_b45 l v0 v1 v0)
    · refine s_aloadn (j := 0) dX12_ignore_20 rfl ?_
      refine s_getR (k := 44) cls_13 (by decide) rfl dX12_ignore_21 w_1392 rfl (fun x27 => ?_)
      refine s_iloadn (j := 1) dX12_ignore_24 rfl ?_
      refine s_lald dX12_ignore_25 (fun x28 => ?_)
      refine s_lconst (v := 0) dX12_ignore_26 (by decide) ?_
      refine s_lcmp dX12_ignore_27 ?_
      refine s_if_eq (tgt := 45) dX12_ignore_28 (by decide) ?_ ?_
      · exact Sim.sub [0, 1] rfl (sim_X12_ignore_b45 l v0 v1 v0)
      · refine s_aloadn (j := 0) dX12_ignore_31 rfl ?_
        refine s_aloadn (j := 0) dX12_ignore_32 rfl ?_
        refine s_getR (k := 44) cls_13 (by decide) rfl dX12_ignore_33 w_1392 rfl (fun x29 => ?_)
        refine s_iloadn (j := 1) dX12_ignore_36 rfl ?_
        refine s_lald dX12_ignore_37 (fun x30 => ?_)
        refine s_cVI (rest := [.inr (.inr v0)]) (met_X12_barOf l v0 x30) cls_13 mth_X12_barOf rfl dX12_ignore_38 w_1573 w_1575 wp_43 ⟨Nat.le_of_ble_eq_true rfl, Nat.le_of_ble_eq_true rfl⟩ (Nat.le_of_ble_eq_true rfl) rfl (fun x31 => ?_)
        refine s_iconst (v := (-1)) dX12_ignore_41 (by decide) ?_
        refine s_icmp_eq (tgt := 49) dX12_ignore_42 (by decide) ?_ ?_
        · refine s_iconst (v := 0) dX12_ignore_49 (by decide) ?_
          exact Sim.sub [0, 1] rfl (sim_X12_ignore_b50 l v0 v1 v0 0)
        · exact Sim.sub [0, 1] rfl (sim_X12_ignore_b45 l v0 v1 v0)
  · refine s_iconst (v := 0) dX12_ignore_8 (by decide) ?_
    exact s_iret dX12_ignore_9 rfl
theorem met_X12_ignore (l : Launch) (v0 : Option Nat) (v1 : Int32) : zMet l yX12_ignore cX12_ignore 3 (some .int) 8 201 [.inr (.inr v0), .inl v1] zcI (p_X12_ignore v0 v1) :=
  zMet.of (by decide +kernel) (Nat.le_of_ble_eq_true rfl) rfl (sim_X12_ignore l v0 v1)
def p_X12_tell_b33 (v0 : Option Nat) (v1 : Int32) (v2 : Int32) (v3 : Int32) (s0 : Option Nat) (s1 : Int32) : ZM Int32 :=
  z_b (z_pI 13 58 s0 s1) fun _ => z_b (z_gI 13 58 v0) fun x1 => if x1 ≤ 0 then (z_b (z_gR 13 25 v0) fun x2 => z_b (z_aI x2 ((4 * v1) + v2)) fun x3 => z_b (z_gR 13 25 v0) fun x4 => z_b (z_sI x4 ((4 * v1) + v2) v3) fun _ => z_rt x3)
  else (z_rt 0)
def p_X12_tell_b32 (v0 : Option Nat) (v1 : Int32) (v2 : Int32) (v3 : Int32) (s0 : Option Nat) : ZM Int32 :=
  p_X12_tell_b33 v0 v1 v2 v3 s0 1
def p_X12_tell (v0 : Option Nat) (v1 : Int32) (v2 : Int32) (v3 : Int32) : ZM Int32 :=
  z_b (p_X12_in v1 0 3) fun x5 => if x5 = 0 then (p_X12_tell_b32 v0 v1 v2 v3 v0)
  else (z_b (p_X12_in v2 0 3) fun x6 => if x6 = 0 then (p_X12_tell_b32 v0 v1 v2 v3 v0)
  else (z_b (p_X12_in v3 0 2) fun x7 => if x7 = 0 then (p_X12_tell_b32 v0 v1 v2 v3 v0)
  else (p_X12_tell_b33 v0 v1 v2 v3 v0 0)))
abbrev M_X12_tell (l : Launch) : ZMe := (l, "SpellScribeModel", cX12_tell, 5, 1, 22, (some .int), "tell", [])
set_option maxRecDepth 20000 in
theorem sim_X12_tell_b33 (l : Launch) (v0 : Option Nat) (v1 : Int32) (v2 : Int32) (v3 : Int32) (s0 : Option Nat) (s1 : Int32) : Sim (M_X12_tell l) (zFin zcI) 33 [(0, .inr (.inr v0)), (1, .inl v1), (2, .inl v2), (3, .inl v3)] [.inl s1, .inr (.inr s0)] (p_X12_tell_b33 v0 v1 v2 v3 s0 s1) := by
  unfold p_X12_tell_b33
  refine s_putI (k := 58) cls_13 (by decide) rfl rfl rfl dX12_tell_33 w_1406 rfl ?_
  refine s_aloadn (j := 0) dX12_tell_36 rfl ?_
  refine s_getI (k := 58) cls_13 (by decide) rfl dX12_tell_37 w_1406 rfl (fun x1 => ?_)
  refine s_if_le (tgt := 45) dX12_tell_40 (by decide) ?_ ?_
  · refine s_aloadn (j := 0) dX12_tell_45 rfl ?_
    refine s_getR (k := 25) cls_13 (by decide) rfl dX12_tell_46 w_1373 rfl (fun x2 => ?_)
    refine s_iconst (v := 4) dX12_tell_49 (by decide) ?_
    refine s_iloadn (j := 1) dX12_tell_50 rfl ?_
    refine s_imul dX12_tell_51 ?_
    refine s_iloadn (j := 2) dX12_tell_52 rfl ?_
    refine s_iadd dX12_tell_53 ?_
    refine s_iald dX12_tell_54 (fun x3 => ?_)
    refine s_istore (lv' := [(4, .inl x3), (0, .inr (.inr v0)), (1, .inl v1), (2, .inl v2), (3, .inl v3)]) dX12_tell_55 (Nat.le_of_ble_eq_true rfl) rfl ?_
    refine s_aloadn (j := 1) dX12_tell_57 rfl ?_
    refine s_getR (k := 25) cls_13 (by decide) rfl dX12_tell_58 w_1373 rfl (fun x4 => ?_)
    refine s_iconst (v := 4) dX12_tell_61 (by decide) ?_
    refine s_iloadn (j := 2) dX12_tell_62 rfl ?_
    refine s_imul dX12_tell_63 ?_
    refine s_iloadn (j := 3) dX12_tell_64 rfl ?_
    refine s_iadd dX12_tell_65 ?_
    refine s_iloadn (j := 4) dX12_tell_66 rfl ?_
    refine s_iast dX12_tell_67 ?_
    refine s_iload (j := 0) dX12_tell_68 rfl ?_
    exact s_iret dX12_tell_70 rfl
  · refine s_iconst (v := 0) dX12_tell_43 (by decide) ?_
    exact s_iret dX12_tell_44 rfl
set_option maxRecDepth 20000 in
theorem sim_X12_tell_b32 (l : Launch) (v0 : Option Nat) (v1 : Int32) (v2 : Int32) (v3 : Int32) (s0 : Option Nat) : Sim (M_X12_tell l) (zFin zcI) 32 [(0, .inr (.inr v0)), (1, .inl v1), (2, .inl v2), (3, .inl v3)] [.inr (.inr s0)] (p_X12_tell_b32 v0 v1 v2 v3 s0) := by
  unfold p_X12_tell_b32
  refine s_iconst (v := 1) dX12_tell_32 (by decide) ?_
  exact Sim.sub [0, 1, 2, 3] rfl (sim_X12_tell_b33 l v0 v1 v2 v3 s0 1)
set_option maxRecDepth 20000 in
theorem sim_X12_tell (l : Launch) (v0 : Option Nat) (v1 : Int32) (v2 : Int32) (v3 : Int32) : Sim (M_X12_tell l) (zFin zcI) 0 [(0, .inr (.inr v0)), (1, .inl v1), (2, .inl v2), (3, .inl v3)] [] (p_X12_tell v0 v1 v2 v3) := by
  unfold p_X12_tell
  refine s_aloadn (j := 0) dX12_tell_0 rfl ?_
  refine s_iloadn (j := 1) dX12_tell_1 rfl ?_
  refine s_iconst (v := 0) dX12_tell_2 (by decide) ?_
  refine s_iconst (v := 3) dX12_tell_3 (by decide) ?_
  refine s_cSI (rest := [.inr (.inr v0)]) (met_X12_in l v1 0 3) mth_X12_in rfl dX12_tell_4 w_1535 w_1536 ⟨Nat.le_of_ble_eq_true rfl, Nat.le_of_ble_eq_true rfl⟩ (Nat.le_of_ble_eq_true rfl) rfl (fun x5 => ?_)
  refine s_if_eq (tgt := 32) dX12_tell_7 (by decide) ?_ ?_
  · exact Sim.sub [0, 1, 2, 3] rfl (sim_X12_tell_b32 l v0 v1 v2 v3 v0)
  · refine s_iloadn (j := 2) dX12_tell_10 rfl ?_
    refine s_iconst (v := 0) dX12_tell_11 (by decide) ?_
    refine s_iconst (v := 3) dX12_tell_12 (by decide) ?_
    refine s_cSI (rest := [.inr (.inr v0)]) (met_X12_in l v2 0 3) mth_X12_in rfl dX12_tell_13 w_1535 w_1536 ⟨Nat.le_of_ble_eq_true rfl, Nat.le_of_ble_eq_true rfl⟩ (Nat.le_of_ble_eq_true rfl) rfl (fun x6 => ?_)
    refine s_if_eq (tgt := 32) dX12_tell_16 (by decide) ?_ ?_
    · exact Sim.sub [0, 1, 2, 3] rfl (sim_X12_tell_b32 l v0 v1 v2 v3 v0)
    · refine s_iloadn (j := 3) dX12_tell_19 rfl ?_
      refine s_iconst (v := 0) dX12_tell_20 (by decide) ?_
      refine s_iconst (v := 2) dX12_tell_21 (by decide) ?_
      refine s_cSI (rest := [.inr (.inr v0)]) (met_X12_in l v3 0 2) mth_X12_in rfl dX12_tell_22 w_1535 w_1536 ⟨Nat.le_of_ble_eq_true rfl, Nat.le_of_ble_eq_true rfl⟩ (Nat.le_of_ble_eq_true rfl) rfl (fun x7 => ?_)
      refine s_if_eq (tgt := 32) dX12_tell_25 (by decide) ?_ ?_
      · exact Sim.sub [0, 1, 2, 3] rfl (sim_X12_tell_b32 l v0 v1 v2 v3 v0)
      · refine s_iconst (v := 0) dX12_tell_28 (by decide) ?_
        refine s_goto (tgt := 33) dX12_tell_29 (by decide) ?_
        exact Sim.sub [0, 1, 2, 3] rfl (sim_X12_tell_b33 l v0 v1 v2 v3 v0 0)
theorem met_X12_tell (l : Launch) (v0 : Option Nat) (v1 : Int32) (v2 : Int32) (v3 : Int32) : zMet l yX12_tell cX12_tell 5 (some .int) 1 22 [.inr (.inr v0), .inl v1, .inl v2, .inl v3] zcI (p_X12_tell v0 v1 v2 v3) :=
  zMet.of (by decide +kernel) (Nat.le_of_ble_eq_true rfl) rfl (sim_X12_tell l v0 v1 v2 v3)
def p_X12_item_b116 (v0 : Option Nat) (s0 : Option Nat) (s1 : Int64) : ZM Int32 :=
  z_b (z_pL 13 0 s0 s1) fun _ => z_b (z_gR 13 29 v0) fun x1 => z_b (z_aI x1 8) fun x2 => z_b (z_sI x1 8 (x2 + 1)) fun _ => z_b (z_gR 13 29 v0) fun x3 => z_b (z_aI x3 8) fun x4 => z_rt x4
def p_X12_item_b101 (v0 : Option Nat) (v1 : Int32) (s0 : Option Nat) (s1 : Int32) (s2 : Int64) : ZM Int32 :=
  z_b (z_sL s0 s1 s2) fun _ => if ¬ v1 = (-1) then (z_b (z_gL 13 0 v0) fun x5 => p_X12_item_b116 v0 v0 x5)
  else (p_X12_item_b116 v0 v0 0)
def p_X12_item_b44 (v0 : Option Nat) (v1 : Int32) (s0 : Option Nat) (s1 : Int32) : ZM Int32 :=
  z_b (z_pI 13 58 s0 s1) fun _ => z_b (z_gI 13 58 v0) fun x6 => if x6 ≤ 0 then (z_b (z_gR 13 27 v0) fun x7 => z_b (z_gR 13 29 v0) fun x8 => z_b (z_aI x8 8) fun x9 => z_b (z_sI x7 (24 + x9) (v1 + 1)) fun _ => z_b (z_gR 13 28 v0) fun x10 => z_b (z_gR 13 29 v0) fun x11 => z_b (z_aI x11 8) fun x12 => if ¬ v1 = (-1) then (p_X12_item_b101 v0 v1 x10 (24 + x12) 0)
  else (z_b (z_gL 13 0 v0) fun x13 => p_X12_item_b101 v0 v1 x10 (24 + x12) x13))
  else (z_rt 0)
def p_X12_item_b39 (v0 : Option Nat) (v1 : Int32) (s0 : Option Nat) : ZM Int32 :=
  p_X12_item_b44 v0 v1 s0 2
def p_X12_item_b43 (v0 : Option Nat) (v1 : Int32) (s0 : Option Nat) : ZM Int32 :=
  p_X12_item_b44 v0 v1 s0 0
def p_X12_item (v0 : Option Nat) (v1 : Int32) : ZM Int32 :=
  z_b (p_X12_in v1 (-1) 3) fun x14 => if ¬ x14 = 0 then (z_b (z_gR 13 29 v0) fun x15 => z_b (z_aI x15 8) fun x16 => if x16 = 3 then (p_X12_item_b39 v0 v1 v0)
  else (if ¬ v1 = (-1) then (p_X12_item_b43 v0 v1 v0)
  else (z_b (z_gL 13 0 v0) fun x17 => if ¬ (lg_cmp x17 0) = 0 then (p_X12_item_b43 v0 v1 v0)
  else (p_X12_item_b39 v0 v1 v0))))
  else (p_X12_item_b44 v0 v1 v0 1)
abbrev M_X12_item (l : Launch) : ZMe := (l, "SpellScribeModel", cX12_item, 2, 1, 22, (some .int), "item", [])
set_option maxRecDepth 20000 in
theorem sim_X12_item_b116 (l : Launch) (v0 : Option Nat) (s0 : Option Nat) (s1 : Int64) : Sim (M_X12_item l) (zFin zcI) 116 [(0, .inr (.inr v0))] [.inr (.inl s1), .inr (.inr s0)] (p_X12_item_b116 v0 s0 s1) := by
  unfold p_X12_item_b116
  refine s_putL (k := 0) cls_13 (by decide) rfl rfl rfl dX12_item_116 w_1348 rfl ?_
  refine s_aloadn (j := 0) dX12_item_119 rfl ?_
  refine s_getR (k := 29) cls_13 (by decide) rfl dX12_item_120 w_1377 rfl (fun x1 => ?_)
  refine s_bipush (v := 8) dX12_item_123 (by decide) ?_
  refine s_dup2RI dX12_item_125 ?_
  refine s_iald dX12_item_126 (fun x2 => ?_)
  refine s_iconst (v := 1) dX12_item_127 (by decide) ?_
  refine s_iadd dX12_item_128 ?_
  refine s_iast dX12_item_129 ?_
  refine s_aloadn (j := 0) dX12_item_130 rfl ?_
  refine s_getR (k := 29) cls_13 (by decide) rfl dX12_item_131 w_1377 rfl (fun x3 => ?_)
  refine s_bipush (v := 8) dX12_item_134 (by decide) ?_
  refine s_iald dX12_item_136 (fun x4 => ?_)
  exact s_iret dX12_item_137 rfl
set_option maxRecDepth 20000 in
theorem sim_X12_item_b101 (l : Launch) (v0 : Option Nat) (v1 : Int32) (s0 : Option Nat) (s1 : Int32) (s2 : Int64) : Sim (M_X12_item l) (zFin zcI) 101 [(0, .inr (.inr v0)), (1, .inl v1)] [.inr (.inl s2), .inl s1, .inr (.inr s0)] (p_X12_item_b101 v0 v1 s0 s1 s2) := by
  unfold p_X12_item_b101
  refine s_last dX12_item_101 ?_
  refine s_aloadn (j := 0) dX12_item_102 rfl ?_
  refine s_iloadn (j := 1) dX12_item_103 rfl ?_
  refine s_iconst (v := (-1)) dX12_item_104 (by decide) ?_
  refine s_icmp_ne (tgt := 112) dX12_item_105 (by decide) ?_ ?_
  · refine s_aloadn (j := 0) dX12_item_112 rfl ?_
    refine s_getL (k := 0) cls_13 (by decide) rfl dX12_item_113 w_1348 rfl (fun x5 => ?_)
    exact Sim.sub [0] rfl (sim_X12_item_b116 l v0 v0 x5)
  · refine s_lconst (v := 0) dX12_item_108 (by decide) ?_
    refine s_goto (tgt := 116) dX12_item_109 (by decide) ?_
    exact Sim.sub [0] rfl (sim_X12_item_b116 l v0 v0 0)
set_option maxRecDepth 20000 in
theorem sim_X12_item_b44 (l : Launch) (v0 : Option Nat) (v1 : Int32) (s0 : Option Nat) (s1 : Int32) : Sim (M_X12_item l) (zFin zcI) 44 [(0, .inr (.inr v0)), (1, .inl v1)] [.inl s1, .inr (.inr s0)] (p_X12_item_b44 v0 v1 s0 s1) := by
  unfold p_X12_item_b44
  refine s_putI (k := 58) cls_13 (by decide) rfl rfl rfl dX12_item_44 w_1406 rfl ?_
  refine s_aloadn (j := 0) dX12_item_47 rfl ?_
  refine s_getI (k := 58) cls_13 (by decide) rfl dX12_item_48 w_1406 rfl (fun x6 => ?_)
  refine s_if_le (tgt := 56) dX12_item_51 (by decide) ?_ ?_
  · refine s_aloadn (j := 0) dX12_item_56 rfl ?_
    refine s_getR (k := 27) cls_13 (by decide) rfl dX12_item_57 w_1375 rfl (fun x7 => ?_)
    refine s_bipush (v := 24) dX12_item_60 (by decide) ?_
    refine s_aloadn (j := 0) dX12_item_62 rfl ?_
    refine s_getR (k := 29) cls_13 (by decide) rfl dX12_item_63 w_1377 rfl (fun x8 => ?_)
    refine s_bipush (v := 8) dX12_item_66 (by decide) ?_
    refine s_iald dX12_item_68 (fun x9 => ?_)
    refine s_iadd dX12_item_69 ?_
    refine s_iloadn (j := 1) dX12_item_70 rfl ?_
    refine s_iconst (v := 1) dX12_item_71 (by decide) ?_
    refine s_iadd dX12_item_72 ?_
    refine s_iast dX12_item_73 ?_
    refine s_aloadn (j := 0) dX12_item_74 rfl ?_
    refine s_getR (k := 28) cls_13 (by decide) rfl dX12_item_75 w_1376 rfl (fun x10 => ?_)
    refine s_bipush (v := 24) dX12_item_78 (by decide) ?_
    refine s_aloadn (j := 0) dX12_item_80 rfl ?_
    refine s_getR (k := 29) cls_13 (by decide) rfl dX12_item_81 w_1377 rfl (fun x11 => ?_)
    refine s_bipush (v := 8) dX12_item_84 (by decide) ?_
    refine s_iald dX12_item_86 (fun x12 => ?_)
    refine s_iadd dX12_item_87 ?_
    refine s_iloadn (j := 1) dX12_item_88 rfl ?_
    refine s_iconst (v := (-1)) dX12_item_89 (by decide) ?_
    refine s_icmp_ne (tgt := 100) dX12_item_90 (by decide) ?_ ?_
    · refine s_lconst (v := 0) dX12_item_100 (by decide) ?_
      exact Sim.sub [0, 1] rfl (sim_X12_item_b101 l v0 v1 x10 (24 + x12) 0)
    · refine s_aloadn (j := 0) dX12_item_93 rfl ?_
      refine s_getL (k := 0) cls_13 (by decide) rfl dX12_item_94 w_1348 rfl (fun x13 => ?_)
      refine s_goto (tgt := 101) dX12_item_97 (by decide) ?_
      exact Sim.sub [0, 1] rfl (sim_X12_item_b101 l v0 v1 x10 (24 + x12) x13)
  · refine s_iconst (v := 0) dX12_item_54 (by decide) ?_
    exact s_iret dX12_item_55 rfl
set_option maxRecDepth 20000 in
theorem sim_X12_item_b39 (l : Launch) (v0 : Option Nat) (v1 : Int32) (s0 : Option Nat) : Sim (M_X12_item l) (zFin zcI) 39 [(0, .inr (.inr v0)), (1, .inl v1)] [.inr (.inr s0)] (p_X12_item_b39 v0 v1 s0) := by
  unfold p_X12_item_b39
  refine s_iconst (v := 2) dX12_item_39 (by decide) ?_
  refine s_goto (tgt := 44) dX12_item_40 (by decide) ?_
  exact Sim.sub [0, 1] rfl (sim_X12_item_b44 l v0 v1 s0 2)
set_option maxRecDepth 20000 in
theorem sim_X12_item_b43 (l : Launch) (v0 : Option Nat) (v1 : Int32) (s0 : Option Nat) : Sim (M_X12_item l) (zFin zcI) 43 [(0, .inr (.inr v0)), (1, .inl v1)] [.inr (.inr s0)] (p_X12_item_b43 v0 v1 s0) := by
  unfold p_X12_item_b43
  refine s_iconst (v := 0) dX12_item_43 (by decide) ?_
  exact Sim.sub [0, 1] rfl (sim_X12_item_b44 l v0 v1 s0 0)
set_option maxRecDepth 20000 in
theorem sim_X12_item (l : Launch) (v0 : Option Nat) (v1 : Int32) : Sim (M_X12_item l) (zFin zcI) 0 [(0, .inr (.inr v0)), (1, .inl v1)] [] (p_X12_item v0 v1) := by
  unfold p_X12_item
  refine s_aloadn (j := 0) dX12_item_0 rfl ?_
  refine s_iloadn (j := 1) dX12_item_1 rfl ?_
  refine s_iconst (v := (-1)) dX12_item_2 (by decide) ?_
  refine s_iconst (v := 3) dX12_item_3 (by decide) ?_
  refine s_cSI (rest := [.inr (.inr v0)]) (met_X12_in l v1 (-1) 3) mth_X12_in rfl dX12_item_4 w_1535 w_1536 ⟨Nat.le_of_ble_eq_true rfl, Nat.le_of_ble_eq_true rfl⟩ (Nat.le_of_ble_eq_true rfl) rfl (fun x14 => ?_)
  refine s_if_ne (tgt := 14) dX12_item_7 (by decide) ?_ ?_
  · refine s_aloadn (j := 0) dX12_item_14 rfl ?_
    refine s_getR (k := 29) cls_13 (by decide) rfl dX12_item_15 w_1377 rfl (fun x15 => ?_)
    refine s_bipush (v := 8) dX12_item_18 (by decide) ?_
    refine s_iald dX12_item_20 (fun x16 => ?_)
    refine s_iconst (v := 3) dX12_item_21 (by decide) ?_
    refine s_icmp_eq (tgt := 39) dX12_item_22 (by decide) ?_ ?_
    · exact Sim.sub [0, 1] rfl (sim_X12_item_b39 l v0 v1 v0)
    · refine s_iloadn (j := 1) dX12_item_25 rfl ?_
      refine s_iconst (v := (-1)) dX12_item_26 (by decide) ?_
      refine s_icmp_ne (tgt := 43) dX12_item_27 (by decide) ?_ ?_
      · exact Sim.sub [0, 1] rfl (sim_X12_item_b43 l v0 v1 v0)
      · refine s_aloadn (j := 0) dX12_item_30 rfl ?_
        refine s_getL (k := 0) cls_13 (by decide) rfl dX12_item_31 w_1348 rfl (fun x17 => ?_)
        refine s_lconst (v := 0) dX12_item_34 (by decide) ?_
        refine s_lcmp dX12_item_35 ?_
        refine s_if_ne (tgt := 43) dX12_item_36 (by decide) ?_ ?_
        · exact Sim.sub [0, 1] rfl (sim_X12_item_b43 l v0 v1 v0)
        · exact Sim.sub [0, 1] rfl (sim_X12_item_b39 l v0 v1 v0)
  · refine s_iconst (v := 1) dX12_item_10 (by decide) ?_
    refine s_goto (tgt := 44) dX12_item_11 (by decide) ?_
    exact Sim.sub [0, 1] rfl (sim_X12_item_b44 l v0 v1 v0 1)
theorem met_X12_item (l : Launch) (v0 : Option Nat) (v1 : Int32) : zMet l yX12_item cX12_item 2 (some .int) 1 22 [.inr (.inr v0), .inl v1] zcI (p_X12_item v0 v1) :=
  zMet.of (by decide +kernel) (Nat.le_of_ble_eq_true rfl) rfl (sim_X12_item l v0 v1)
def p_X12_style_b124 (v0 : Option Nat) (v1 : Int32) : ZM Int32 :=
  z_b (z_gR 13 29 v0) fun x1 => z_b (z_gI 13 26 v0) fun x2 => z_b (z_gR 13 29 v0) fun x3 => z_b (z_aI x3 8) fun x4 => z_b (z_sI x1 x2 x4) fun _ => z_b (z_gR 13 30 v0) fun x5 => z_b (z_gI 13 26 v0) fun x6 => z_b (z_sI x5 x6 v1) fun _ => z_b (z_gR 13 31 v0) fun x7 => z_b (z_gI 13 26 v0) fun x8 => z_b (z_gL 13 0 v0) fun x9 => z_b (z_sL x7 x8 x9) fun _ => z_b (z_gI 13 26 v0) fun x10 => z_b (z_pI 13 26 v0 (x10 + 1)) fun _ => z_b (z_gR 13 29 v0) fun x11 => z_b (z_sI x11 8 0) fun _ => z_b (z_pL 13 0 v0 0) fun _ => z_b (z_gI 13 26 v0) fun x12 => z_rt (x12 - 1)
def p_X12_style_c69 (r69 : Option Nat → Int32 → Int32 → ZM Int32) (v0 : Option Nat) (v1 : Int32) (v2 : Int32) : ZM Int32 :=
  if 3 ≤ v2 then (p_X12_style_b124 v0 v1)
  else (z_b (z_gR 13 27 v0) fun x13 => z_b (z_gI 13 26 v0) fun x14 => z_b (z_gR 13 27 v0) fun x15 => z_b (z_aI x15 (24 + v2)) fun x16 => z_b (z_sI x13 ((3 * x14) + v2) x16) fun _ => z_b (z_gR 13 28 v0) fun x17 => z_b (z_gI 13 26 v0) fun x18 => z_b (z_gR 13 28 v0) fun x19 => z_b (z_aL x19 (24 + v2)) fun x20 => z_b (z_sL x17 ((3 * x18) + v2) x20) fun _ => z_n (v2 + 1 : Int32) fun y21 => r69 v0 v1 y21)
def p_X12_style_l69 : Nat → Option Nat → Int32 → Int32 → ZM Int32
  | 0, _, _, _ => z_fl
  | n + 1, v0, v1, v2 => p_X12_style_c69 (p_X12_style_l69 n) v0 v1 v2
def p_X12_style_b55 (v0 : Option Nat) (v1 : Int32) (s0 : Option Nat) (s1 : Int32) : ZM Int32 :=
  z_b (z_pI 13 58 s0 s1) fun _ => z_b (z_gI 13 58 v0) fun x22 => if x22 ≤ 0 then (p_X12_style_l69 zFuel v0 v1 0)
  else (z_rt 0)
def p_X12_style_b29 (v0 : Option Nat) (v1 : Int32) (s0 : Option Nat) : ZM Int32 :=
  p_X12_style_b55 v0 v1 s0 1
def p_X12_style (v0 : Option Nat) (v1 : Int32) : ZM Int32 :=
  z_b (z_gR 13 29 v0) fun x23 => z_b (z_aI x23 8) fun x24 => if x24 = 0 then (p_X12_style_b29 v0 v1 v0)
  else (z_b (z_gL 13 0 v0) fun x25 => if (lg_cmp x25 0) = 0 then (p_X12_style_b29 v0 v1 v0)
  else (z_b (z_gI 13 26 v0) fun x26 => if ¬ x26 = 8 then (z_b (z_gR 13 29 v0) fun x27 => z_b (z_aI x27 8) fun x28 => z_b (p_X12_in v1 0 (x28 - 1)) fun x29 => if ¬ x29 = 0 then (p_X12_style_b55 v0 v1 v0 0)
  else (p_X12_style_b55 v0 v1 v0 2))
  else (p_X12_style_b29 v0 v1 v0)))
abbrev M_X12_style (l : Launch) : ZMe := (l, "SpellScribeModel", cX12_style, 3, 1, 22, (some .int), "style", [])
set_option maxRecDepth 20000 in
theorem sim_X12_style_b124 (l : Launch) (v0 : Option Nat) (v1 : Int32) : Sim (M_X12_style l) (zFin zcI) 124 [(0, .inr (.inr v0)), (1, .inl v1)] [] (p_X12_style_b124 v0 v1) := by
  unfold p_X12_style_b124
  refine s_aloadn (j := 0) dX12_style_124 rfl ?_
  refine s_getR (k := 29) cls_13 (by decide) rfl dX12_style_125 w_1377 rfl (fun x1 => ?_)
  refine s_aloadn (j := 0) dX12_style_128 rfl ?_
  refine s_getI (k := 26) cls_13 (by decide) rfl dX12_style_129 w_1374 rfl (fun x2 => ?_)
  refine s_aloadn (j := 0) dX12_style_132 rfl ?_
  refine s_getR (k := 29) cls_13 (by decide) rfl dX12_style_133 w_1377 rfl (fun x3 => ?_)
  refine s_bipush (v := 8) dX12_style_136 (by decide) ?_
  refine s_iald dX12_style_138 (fun x4 => ?_)
  refine s_iast dX12_style_139 ?_
  refine s_aloadn (j := 0) dX12_style_140 rfl ?_
  refine s_getR (k := 30) cls_13 (by decide) rfl dX12_style_141 w_1378 rfl (fun x5 => ?_)
  refine s_aloadn (j := 0) dX12_style_144 rfl ?_
  refine s_getI (k := 26) cls_13 (by decide) rfl dX12_style_145 w_1374 rfl (fun x6 => ?_)
  refine s_iloadn (j := 1) dX12_style_148 rfl ?_
  refine s_iast dX12_style_149 ?_
  refine s_aloadn (j := 0) dX12_style_150 rfl ?_
  refine s_getR (k := 31) cls_13 (by decide) rfl dX12_style_151 w_1379 rfl (fun x7 => ?_)
  refine s_aloadn (j := 0) dX12_style_154 rfl ?_
  refine s_getI (k := 26) cls_13 (by decide) rfl dX12_style_155 w_1374 rfl (fun x8 => ?_)
  refine s_aloadn (j := 0) dX12_style_158 rfl ?_
  refine s_getL (k := 0) cls_13 (by decide) rfl dX12_style_159 w_1348 rfl (fun x9 => ?_)
  refine s_last dX12_style_162 ?_
  refine s_aloadn (j := 0) dX12_style_163 rfl ?_
  refine s_dupR dX12_style_164 ?_
  refine s_getI (k := 26) cls_13 (by decide) rfl dX12_style_165 w_1374 rfl (fun x10 => ?_)
  refine s_iconst (v := 1) dX12_style_168 (by decide) ?_
  refine s_iadd dX12_style_169 ?_
  refine s_putI (k := 26) cls_13 (by decide) rfl rfl rfl dX12_style_170 w_1374 rfl ?_
  refine s_aloadn (j := 0) dX12_style_173 rfl ?_
  refine s_getR (k := 29) cls_13 (by decide) rfl dX12_style_174 w_1377 rfl (fun x11 => ?_)
  refine s_bipush (v := 8) dX12_style_177 (by decide) ?_
  refine s_iconst (v := 0) dX12_style_179 (by decide) ?_
  refine s_iast dX12_style_180 ?_
  refine s_aloadn (j := 0) dX12_style_181 rfl ?_
  refine s_lconst (v := 0) dX12_style_182 (by decide) ?_
  refine s_putL (k := 0) cls_13 (by decide) rfl rfl rfl dX12_style_183 w_1348 rfl ?_
  refine s_aloadn (j := 0) dX12_style_186 rfl ?_
  refine s_getI (k := 26) cls_13 (by decide) rfl dX12_style_187 w_1374 rfl (fun x12 => ?_)
  refine s_iconst (v := 1) dX12_style_190 (by decide) ?_
  refine s_isub dX12_style_191 ?_
  exact s_iret dX12_style_192 rfl
set_option maxRecDepth 20000 in
theorem sim_X12_style_c69 (l : Launch) (r69 : Option Nat → Int32 → Int32 → ZM Int32) (hr69 : ∀ (v0 : Option Nat) (v1 : Int32) (v2 : Int32), Sim (M_X12_style l) (zFin zcI) 69 [(0, .inr (.inr v0)), (1, .inl v1), (2, .inl v2)] [] (r69 v0 v1 v2)) (v0 : Option Nat) (v1 : Int32) (v2 : Int32) : Sim (M_X12_style l) (zFin zcI) 69 [(0, .inr (.inr v0)), (1, .inl v1), (2, .inl v2)] [] (p_X12_style_c69 r69 v0 v1 v2) := by
  unfold p_X12_style_c69
  refine s_iloadn (j := 2) dX12_style_69 rfl ?_
  refine s_iconst (v := 3) dX12_style_70 (by decide) ?_
  refine s_icmp_ge (tgt := 124) dX12_style_71 (by decide) ?_ ?_
  · exact Sim.sub [0, 1] rfl (sim_X12_style_b124 l v0 v1)
  · refine s_aloadn (j := 0) dX12_style_74 rfl ?_
    refine s_getR (k := 27) cls_13 (by decide) rfl dX12_style_75 w_1375 rfl (fun x13 => ?_)
    refine s_iconst (v := 3) dX12_style_78 (by decide) ?_
    refine s_aloadn (j := 0) dX12_style_79 rfl ?_
    refine s_getI (k := 26) cls_13 (by decide) rfl dX12_style_80 w_1374 rfl (fun x14 => ?_)
    refine s_imul dX12_style_83 ?_
    refine s_iloadn (j := 2) dX12_style_84 rfl ?_
    refine s_iadd dX12_style_85 ?_
    refine s_aloadn (j := 0) dX12_style_86 rfl ?_
    refine s_getR (k := 27) cls_13 (by decide) rfl dX12_style_87 w_1375 rfl (fun x15 => ?_)
    refine s_bipush (v := 24) dX12_style_90 (by decide) ?_
    refine s_iloadn (j := 2) dX12_style_92 rfl ?_
    refine s_iadd dX12_style_93 ?_
    refine s_iald dX12_style_94 (fun x16 => ?_)
    refine s_iast dX12_style_95 ?_
    refine s_aloadn (j := 0) dX12_style_96 rfl ?_
    refine s_getR (k := 28) cls_13 (by decide) rfl dX12_style_97 w_1376 rfl (fun x17 => ?_)
    refine s_iconst (v := 3) dX12_style_100 (by decide) ?_
    refine s_aloadn (j := 0) dX12_style_101 rfl ?_
    refine s_getI (k := 26) cls_13 (by decide) rfl dX12_style_102 w_1374 rfl (fun x18 => ?_)
    refine s_imul dX12_style_105 ?_
    refine s_iloadn (j := 2) dX12_style_106 rfl ?_
    refine s_iadd dX12_style_107 ?_
    refine s_aloadn (j := 0) dX12_style_108 rfl ?_
    refine s_getR (k := 28) cls_13 (by decide) rfl dX12_style_109 w_1376 rfl (fun x19 => ?_)
    refine s_bipush (v := 24) dX12_style_112 (by decide) ?_
    refine s_iloadn (j := 2) dX12_style_114 rfl ?_
    refine s_iadd dX12_style_115 ?_
    refine s_lald dX12_style_116 (fun x20 => ?_)
    refine s_last dX12_style_117 ?_
    refine s_n0 (fun y21 hy21 => ?_)
    refine s_iinc (j := 2) (v := y21) (d := 1) (lv' := [(2, .inl y21), (0, .inr (.inr v0)), (1, .inl v1)]) dX12_style_118 rfl (by decide) hy21 (Nat.le_of_ble_eq_true rfl) rfl ?_
    refine s_goto (tgt := 69) dX12_style_121 (by decide) ?_
    exact Sim.sub [1, 2, 0] rfl (hr69 v0 v1 y21)
theorem sim_X12_style_l69 (l : Launch) : ∀ (n : Nat) (v0 : Option Nat) (v1 : Int32) (v2 : Int32), Sim (M_X12_style l) (zFin zcI) 69 [(0, .inr (.inr v0)), (1, .inl v1), (2, .inl v2)] [] (p_X12_style_l69 n v0 v1 v2)
  | 0, _, _, _ => s_fl
  | n + 1, v0, v1, v2 => sim_X12_style_c69 l (p_X12_style_l69 n) (sim_X12_style_l69 l n) v0 v1 v2
set_option maxRecDepth 20000 in
theorem sim_X12_style_b55 (l : Launch) (v0 : Option Nat) (v1 : Int32) (s0 : Option Nat) (s1 : Int32) : Sim (M_X12_style l) (zFin zcI) 55 [(0, .inr (.inr v0)), (1, .inl v1)] [.inl s1, .inr (.inr s0)] (p_X12_style_b55 v0 v1 s0 s1) := by
  unfold p_X12_style_b55
  refine s_putI (k := 58) cls_13 (by decide) rfl rfl rfl dX12_style_55 w_1406 rfl ?_
  refine s_aloadn (j := 0) dX12_style_58 rfl ?_
  refine s_getI (k := 58) cls_13 (by decide) rfl dX12_style_59 w_1406 rfl (fun x22 => ?_)
  refine s_if_le (tgt := 67) dX12_style_62 (by decide) ?_ ?_
  · refine s_iconst (v := 0) dX12_style_67 (by decide) ?_
    refine s_istoren (lv' := [(2, .inl 0), (0, .inr (.inr v0)), (1, .inl v1)]) dX12_style_68 (Nat.le_of_ble_eq_true rfl) rfl ?_
    exact Sim.sub [1, 2, 0] rfl (sim_X12_style_l69 l zFuel v0 v1 0)
  · refine s_iconst (v := 0) dX12_style_65 (by decide) ?_
    exact s_iret dX12_style_66 rfl
set_option maxRecDepth 20000 in
theorem sim_X12_style_b29 (l : Launch) (v0 : Option Nat) (v1 : Int32) (s0 : Option Nat) : Sim (M_X12_style l) (zFin zcI) 29 [(0, .inr (.inr v0)), (1, .inl v1)] [.inr (.inr s0)] (p_X12_style_b29 v0 v1 s0) := by
  unfold p_X12_style_b29
  refine s_iconst (v := 1) dX12_style_29 (by decide) ?_
  refine s_goto (tgt := 55) dX12_style_30 (by decide) ?_
  exact Sim.sub [0, 1] rfl (sim_X12_style_b55 l v0 v1 s0 1)
set_option maxRecDepth 20000 in
theorem sim_X12_style (l : Launch) (v0 : Option Nat) (v1 : Int32) : Sim (M_X12_style l) (zFin zcI) 0 [(0, .inr (.inr v0)), (1, .inl v1)] [] (p_X12_style v0 v1) := by
  unfold p_X12_style
  refine s_aloadn (j := 0) dX12_style_0 rfl ?_
  refine s_aloadn (j := 0) dX12_style_1 rfl ?_
  refine s_getR (k := 29) cls_13 (by decide) rfl dX12_style_2 w_1377 rfl (fun x23 => ?_)
  refine s_bipush (v := 8) dX12_style_5 (by decide) ?_
  refine s_iald dX12_style_7 (fun x24 => ?_)
  refine s_if_eq (tgt := 29) dX12_style_8 (by decide) ?_ ?_
  · exact Sim.sub [0, 1] rfl (sim_X12_style_b29 l v0 v1 v0)
  · refine s_aloadn (j := 0) dX12_style_11 rfl ?_
    refine s_getL (k := 0) cls_13 (by decide) rfl dX12_style_12 w_1348 rfl (fun x25 => ?_)
    refine s_lconst (v := 0) dX12_style_15 (by decide) ?_
    refine s_lcmp dX12_style_16 ?_
    refine s_if_eq (tgt := 29) dX12_style_17 (by decide) ?_ ?_
    · exact Sim.sub [0, 1] rfl (sim_X12_style_b29 l v0 v1 v0)
    · refine s_aloadn (j := 0) dX12_style_20 rfl ?_
      refine s_getI (k := 26) cls_13 (by decide) rfl dX12_style_21 w_1374 rfl (fun x26 => ?_)
      refine s_bipush (v := 8) dX12_style_24 (by decide) ?_
      refine s_icmp_ne (tgt := 33) dX12_style_26 (by decide) ?_ ?_
      · refine s_iloadn (j := 1) dX12_style_33 rfl ?_
        refine s_iconst (v := 0) dX12_style_34 (by decide) ?_
        refine s_aloadn (j := 0) dX12_style_35 rfl ?_
        refine s_getR (k := 29) cls_13 (by decide) rfl dX12_style_36 w_1377 rfl (fun x27 => ?_)
        refine s_bipush (v := 8) dX12_style_39 (by decide) ?_
        refine s_iald dX12_style_41 (fun x28 => ?_)
        refine s_iconst (v := 1) dX12_style_42 (by decide) ?_
        refine s_isub dX12_style_43 ?_
        refine s_cSI (rest := [.inr (.inr v0)]) (met_X12_in l v1 0 (x28 - 1)) mth_X12_in rfl dX12_style_44 w_1535 w_1536 ⟨Nat.le_of_ble_eq_true rfl, Nat.le_of_ble_eq_true rfl⟩ (Nat.le_of_ble_eq_true rfl) rfl (fun x29 => ?_)
        refine s_if_ne (tgt := 54) dX12_style_47 (by decide) ?_ ?_
        · refine s_iconst (v := 0) dX12_style_54 (by decide) ?_
          exact Sim.sub [0, 1] rfl (sim_X12_style_b55 l v0 v1 v0 0)
        · refine s_iconst (v := 2) dX12_style_50 (by decide) ?_
          refine s_goto (tgt := 55) dX12_style_51 (by decide) ?_
          exact Sim.sub [0, 1] rfl (sim_X12_style_b55 l v0 v1 v0 2)
      · exact Sim.sub [0, 1] rfl (sim_X12_style_b29 l v0 v1 v0)
theorem met_X12_style (l : Launch) (v0 : Option Nat) (v1 : Int32) : zMet l yX12_style cX12_style 3 (some .int) 1 22 [.inr (.inr v0), .inl v1] zcI (p_X12_style v0 v1) :=
  zMet.of (by decide +kernel) (Nat.le_of_ble_eq_true rfl) rfl (sim_X12_style l v0 v1)
def p_X12_remembers_c10 (r10 : Option Nat → Int32 → ZM Unit) (v0 : Option Nat) (v1 : Int32) : ZM Unit :=
  z_b (z_gI 13 32 v0) fun x1 => if x1 ≤ v1 then (z_rt ())
  else (z_b (z_gR 13 55 v0) fun x2 => z_b (z_gR 13 33 v0) fun x3 => z_b (z_aI x3 v1) fun x4 => z_b (z_sI x2 v1 x4) fun _ => z_n (v1 + 1 : Int32) fun y5 => r10 v0 y5)
def p_X12_remembers_l10 : Nat → Option Nat → Int32 → ZM Unit
  | 0, _, _ => z_fl
  | n + 1, v0, v1 => p_X12_remembers_c10 (p_X12_remembers_l10 n) v0 v1
def p_X12_remembers (v0 : Option Nat) : ZM Unit :=
  z_b (z_gI 13 32 v0) fun x6 => z_b (z_pI 13 56 v0 x6) fun _ => p_X12_remembers_l10 zFuel v0 0
abbrev M_X12_remembers (l : Launch) : ZMe := (l, "SpellScribeModel", cX12_remembers, 2, 0, 0, none, "remembers", [])
set_option maxRecDepth 20000 in
theorem sim_X12_remembers_c10 (l : Launch) (r10 : Option Nat → Int32 → ZM Unit) (hr10 : ∀ (v0 : Option Nat) (v1 : Int32), Sim (M_X12_remembers l) (zFin zcV) 10 [(0, .inr (.inr v0)), (1, .inl v1)] [] (r10 v0 v1)) (v0 : Option Nat) (v1 : Int32) : Sim (M_X12_remembers l) (zFin zcV) 10 [(0, .inr (.inr v0)), (1, .inl v1)] [] (p_X12_remembers_c10 r10 v0 v1) := by
  unfold p_X12_remembers_c10
  refine s_iloadn (j := 1) dX12_remembers_10 rfl ?_
  refine s_aloadn (j := 0) dX12_remembers_11 rfl ?_
  refine s_getI (k := 32) cls_13 (by decide) rfl dX12_remembers_12 w_1380 rfl (fun x1 => ?_)
  refine s_icmp_ge (tgt := 36) dX12_remembers_15 (by decide) ?_ ?_
  · exact s_vret dX12_remembers_36 rfl
  · refine s_aloadn (j := 0) dX12_remembers_18 rfl ?_
    refine s_getR (k := 55) cls_13 (by decide) rfl dX12_remembers_19 w_1403 rfl (fun x2 => ?_)
    refine s_iloadn (j := 1) dX12_remembers_22 rfl ?_
    refine s_aloadn (j := 0) dX12_remembers_23 rfl ?_
    refine s_getR (k := 33) cls_13 (by decide) rfl dX12_remembers_24 w_1381 rfl (fun x3 => ?_)
    refine s_iloadn (j := 1) dX12_remembers_27 rfl ?_
    refine s_iald dX12_remembers_28 (fun x4 => ?_)
    refine s_iast dX12_remembers_29 ?_
    refine s_n0 (fun y5 hy5 => ?_)
    refine s_iinc (j := 1) (v := y5) (d := 1) (lv' := [(1, .inl y5), (0, .inr (.inr v0))]) dX12_remembers_30 rfl (by decide) hy5 (Nat.le_of_ble_eq_true rfl) rfl ?_
    refine s_goto (tgt := 10) dX12_remembers_33 (by decide) ?_
    exact Sim.sub [1, 0] rfl (hr10 v0 y5)
theorem sim_X12_remembers_l10 (l : Launch) : ∀ (n : Nat) (v0 : Option Nat) (v1 : Int32), Sim (M_X12_remembers l) (zFin zcV) 10 [(0, .inr (.inr v0)), (1, .inl v1)] [] (p_X12_remembers_l10 n v0 v1)
  | 0, _, _ => s_fl
  | n + 1, v0, v1 => sim_X12_remembers_c10 l (p_X12_remembers_l10 n) (sim_X12_remembers_l10 l n) v0 v1
set_option maxRecDepth 20000 in
theorem sim_X12_remembers (l : Launch) (v0 : Option Nat) : Sim (M_X12_remembers l) (zFin zcV) 0 [(0, .inr (.inr v0))] [] (p_X12_remembers v0) := by
  unfold p_X12_remembers
  refine s_aloadn (j := 0) dX12_remembers_0 rfl ?_
  refine s_aloadn (j := 0) dX12_remembers_1 rfl ?_
  refine s_getI (k := 32) cls_13 (by decide) rfl dX12_remembers_2 w_1380 rfl (fun x6 => ?_)
  refine s_putI (k := 56) cls_13 (by decide) rfl rfl rfl dX12_remembers_5 w_1404 rfl ?_
  refine s_iconst (v := 0) dX12_remembers_8 (by decide) ?_
  refine s_istoren (lv' := [(1, .inl 0), (0, .inr (.inr v0))]) dX12_remembers_9 (Nat.le_of_ble_eq_true rfl) rfl ?_
  exact Sim.sub [1, 0] rfl (sim_X12_remembers_l10 l zFuel v0 0)
theorem met_X12_remembers (l : Launch) (v0 : Option Nat) : zMet l yX12_remembers cX12_remembers 2 none 0 0 [.inr (.inr v0)] zcV (p_X12_remembers v0) :=
  zMet.of (by decide +kernel) (Nat.le_of_ble_eq_true rfl) rfl (sim_X12_remembers l v0)
def p_X12_endOf_b74 (r5 : Option Nat → Int32 → Int32 → Int32 → ZM Int32) (v0 : Option Nat) (v1 : Int32) (v4 : Int32) (s0 : Int32) : ZM Int32 :=
  z_n (v4 + 1 : Int32) fun y1 => r5 v0 v1 s0 y1
def p_X12_endOf_b73 (r5 : Option Nat → Int32 → Int32 → Int32 → ZM Int32) (v0 : Option Nat) (v1 : Int32) (v4 : Int32) : ZM Int32 :=
  p_X12_endOf_b74 r5 v0 v1 v4 0
def p_X12_endOf_b69 (r5 : Option Nat → Int32 → Int32 → Int32 → ZM Int32) (v0 : Option Nat) (v1 : Int32) (v4 : Int32) : ZM Int32 :=
  p_X12_endOf_b74 r5 v0 v1 v4 1
def p_X12_endOf_b51 (r5 : Option Nat → Int32 → Int32 → Int32 → ZM Int32) (v0 : Option Nat) (v1 : Int32) (v3 : Int32) (v4 : Int32) (v5 : Int32) : ZM Int32 :=
  if v3 = 0 then (p_X12_endOf_b73 r5 v0 v1 v4)
  else (if v5 = 0 then (p_X12_endOf_b69 r5 v0 v1 v4)
  else (z_b (z_aI v0 v4) fun x2 => if x2 = 62 then (p_X12_endOf_b73 r5 v0 v1 v4)
  else (p_X12_endOf_b69 r5 v0 v1 v4)))
def p_X12_endOf_b46 (v4 : Int32) : ZM Int32 :=
  z_rt (v4 + 1)
def p_X12_endOf_b32 (r5 : Option Nat → Int32 → Int32 → Int32 → ZM Int32) (v0 : Option Nat) (v1 : Int32) (v4 : Int32) (v5 : Int32) (s0 : Int32) : ZM Int32 :=
  if ¬ s0 = 0 then (p_X12_endOf_b51 r5 v0 v1 s0 v4 v5)
  else (z_b (z_aI v0 v4) fun x3 => if ¬ x3 = 46 then (p_X12_endOf_b51 r5 v0 v1 s0 v4 v5)
  else (p_X12_endOf_b46 v4))
def p_X12_endOf_b27 (r5 : Option Nat → Int32 → Int32 → Int32 → ZM Int32) (v0 : Option Nat) (v1 : Int32) (v4 : Int32) (v5 : Int32) : ZM Int32 :=
  p_X12_endOf_b32 r5 v0 v1 v4 v5 1
def p_X12_endOf_c5 (r5 : Option Nat → Int32 → Int32 → Int32 → ZM Int32) (v0 : Option Nat) (v1 : Int32) (v3 : Int32) (v4 : Int32) : ZM Int32 :=
  if v1 ≤ v4 then (z_rt v4)
  else (if ¬ v3 = 0 then (p_X12_endOf_b27 r5 v0 v1 v4 v3)
  else (z_b (z_aI v0 v4) fun x4 => if ¬ x4 = 60 then (p_X12_endOf_b32 r5 v0 v1 v4 v3 0)
  else (p_X12_endOf_b27 r5 v0 v1 v4 v3)))
def p_X12_endOf_l5 : Nat → Option Nat → Int32 → Int32 → Int32 → ZM Int32
  | 0, _, _, _, _ => z_fl
  | n + 1, v0, v1, v3, v4 => p_X12_endOf_c5 (p_X12_endOf_l5 n) v0 v1 v3 v4
def p_X12_endOf (v0 : Option Nat) (v1 : Int32) (v2 : Int32) : ZM Int32 :=
  p_X12_endOf_l5 zFuel v0 v1 0 v2
abbrev M_X12_endOf (l : Launch) : ZMe := (l, "SpellScribeModel", cX12_endOf, 6, 0, 0, (some .int), "endOf", [])
set_option maxRecDepth 20000 in
theorem sim_X12_endOf_b74 (l : Launch) (r5 : Option Nat → Int32 → Int32 → Int32 → ZM Int32) (hr5 : ∀ (v0 : Option Nat) (v1 : Int32) (v3 : Int32) (v4 : Int32), Sim (M_X12_endOf l) (zFin zcI) 5 [(0, .inr (.inr v0)), (1, .inl v1), (3, .inl v3), (4, .inl v4)] [] (r5 v0 v1 v3 v4)) (v0 : Option Nat) (v1 : Int32) (v4 : Int32) (s0 : Int32) : Sim (M_X12_endOf l) (zFin zcI) 74 [(0, .inr (.inr v0)), (1, .inl v1), (4, .inl v4)] [.inl s0] (p_X12_endOf_b74 r5 v0 v1 v4 s0) := by
  unfold p_X12_endOf_b74
  refine s_istoren (lv' := [(3, .inl s0), (0, .inr (.inr v0)), (1, .inl v1), (4, .inl v4)]) dX12_endOf_74 (Nat.le_of_ble_eq_true rfl) rfl ?_
  refine s_n0 (fun y1 hy1 => ?_)
  refine s_iinc (j := 3) (v := y1) (d := 1) (lv' := [(4, .inl y1), (3, .inl s0), (0, .inr (.inr v0)), (1, .inl v1)]) dX12_endOf_75 rfl (by decide) hy1 (Nat.le_of_ble_eq_true rfl) rfl ?_
  refine s_goto (tgt := 5) dX12_endOf_78 (by decide) ?_
  exact Sim.sub [2, 3, 1, 0] rfl (hr5 v0 v1 s0 y1)
set_option maxRecDepth 20000 in
theorem sim_X12_endOf_b73 (l : Launch) (r5 : Option Nat → Int32 → Int32 → Int32 → ZM Int32) (hr5 : ∀ (v0 : Option Nat) (v1 : Int32) (v3 : Int32) (v4 : Int32), Sim (M_X12_endOf l) (zFin zcI) 5 [(0, .inr (.inr v0)), (1, .inl v1), (3, .inl v3), (4, .inl v4)] [] (r5 v0 v1 v3 v4)) (v0 : Option Nat) (v1 : Int32) (v4 : Int32) : Sim (M_X12_endOf l) (zFin zcI) 73 [(0, .inr (.inr v0)), (1, .inl v1), (4, .inl v4)] [] (p_X12_endOf_b73 r5 v0 v1 v4) := by
  unfold p_X12_endOf_b73
  refine s_iconst (v := 0) dX12_endOf_73 (by decide) ?_
  exact Sim.sub [0, 1, 2] rfl (sim_X12_endOf_b74 l r5 hr5 v0 v1 v4 0)
set_option maxRecDepth 20000 in
theorem sim_X12_endOf_b69 (l : Launch) (r5 : Option Nat → Int32 → Int32 → Int32 → ZM Int32) (hr5 : ∀ (v0 : Option Nat) (v1 : Int32) (v3 : Int32) (v4 : Int32), Sim (M_X12_endOf l) (zFin zcI) 5 [(0, .inr (.inr v0)), (1, .inl v1), (3, .inl v3), (4, .inl v4)] [] (r5 v0 v1 v3 v4)) (v0 : Option Nat) (v1 : Int32) (v4 : Int32) : Sim (M_X12_endOf l) (zFin zcI) 69 [(0, .inr (.inr v0)), (1, .inl v1), (4, .inl v4)] [] (p_X12_endOf_b69 r5 v0 v1 v4) := by
  unfold p_X12_endOf_b69
  refine s_iconst (v := 1) dX12_endOf_69 (by decide) ?_
  refine s_goto (tgt := 74) dX12_endOf_70 (by decide) ?_
  exact Sim.sub [0, 1, 2] rfl (sim_X12_endOf_b74 l r5 hr5 v0 v1 v4 1)
set_option maxRecDepth 20000 in
theorem sim_X12_endOf_b51 (l : Launch) (r5 : Option Nat → Int32 → Int32 → Int32 → ZM Int32) (hr5 : ∀ (v0 : Option Nat) (v1 : Int32) (v3 : Int32) (v4 : Int32), Sim (M_X12_endOf l) (zFin zcI) 5 [(0, .inr (.inr v0)), (1, .inl v1), (3, .inl v3), (4, .inl v4)] [] (r5 v0 v1 v3 v4)) (v0 : Option Nat) (v1 : Int32) (v3 : Int32) (v4 : Int32) (v5 : Int32) : Sim (M_X12_endOf l) (zFin zcI) 51 [(0, .inr (.inr v0)), (1, .inl v1), (3, .inl v3), (4, .inl v4), (5, .inl v5)] [] (p_X12_endOf_b51 r5 v0 v1 v3 v4 v5) := by
  unfold p_X12_endOf_b51
  refine s_iloadn (j := 2) dX12_endOf_51 rfl ?_
  refine s_if_eq (tgt := 73) dX12_endOf_52 (by decide) ?_ ?_
  · exact Sim.sub [0, 1, 3] rfl (sim_X12_endOf_b73 l r5 hr5 v0 v1 v4)
  · refine s_iload (j := 4) dX12_endOf_55 rfl ?_
    refine s_if_eq (tgt := 69) dX12_endOf_57 (by decide) ?_ ?_
    · exact Sim.sub [0, 1, 3] rfl (sim_X12_endOf_b69 l r5 hr5 v0 v1 v4)
    · refine s_aloadn (j := 0) dX12_endOf_60 rfl ?_
      refine s_iload (j := 3) dX12_endOf_61 rfl ?_
      refine s_iald dX12_endOf_63 (fun x2 => ?_)
      refine s_bipush (v := 62) dX12_endOf_64 (by decide) ?_
      refine s_icmp_eq (tgt := 73) dX12_endOf_66 (by decide) ?_ ?_
      · exact Sim.sub [0, 1, 3] rfl (sim_X12_endOf_b73 l r5 hr5 v0 v1 v4)
      · exact Sim.sub [0, 1, 3] rfl (sim_X12_endOf_b69 l r5 hr5 v0 v1 v4)
set_option maxRecDepth 20000 in
theorem sim_X12_endOf_b46 (l : Launch) (v4 : Int32) : Sim (M_X12_endOf l) (zFin zcI) 46 [(4, .inl v4)] [] (p_X12_endOf_b46 v4) := by
  unfold p_X12_endOf_b46
  refine s_iload (j := 0) dX12_endOf_46 rfl ?_
  refine s_iconst (v := 1) dX12_endOf_48 (by decide) ?_
  refine s_iadd dX12_endOf_49 ?_
  exact s_iret dX12_endOf_50 rfl
set_option maxRecDepth 20000 in
theorem sim_X12_endOf_b32 (l : Launch) (r5 : Option Nat → Int32 → Int32 → Int32 → ZM Int32) (hr5 : ∀ (v0 : Option Nat) (v1 : Int32) (v3 : Int32) (v4 : Int32), Sim (M_X12_endOf l) (zFin zcI) 5 [(0, .inr (.inr v0)), (1, .inl v1), (3, .inl v3), (4, .inl v4)] [] (r5 v0 v1 v3 v4)) (v0 : Option Nat) (v1 : Int32) (v4 : Int32) (v5 : Int32) (s0 : Int32) : Sim (M_X12_endOf l) (zFin zcI) 32 [(0, .inr (.inr v0)), (1, .inl v1), (4, .inl v4), (5, .inl v5)] [.inl s0] (p_X12_endOf_b32 r5 v0 v1 v4 v5 s0) := by
  unfold p_X12_endOf_b32
  refine s_istoren (lv' := [(3, .inl s0), (0, .inr (.inr v0)), (1, .inl v1), (4, .inl v4), (5, .inl v5)]) dX12_endOf_32 (Nat.le_of_ble_eq_true rfl) rfl ?_
  refine s_iloadn (j := 0) dX12_endOf_33 rfl ?_
  refine s_if_ne (tgt := 51) dX12_endOf_34 (by decide) ?_ ?_
  · exact Sim.sub [1, 2, 0, 3, 4] rfl (sim_X12_endOf_b51 l r5 hr5 v0 v1 s0 v4 v5)
  · refine s_aloadn (j := 1) dX12_endOf_37 rfl ?_
    refine s_iload (j := 3) dX12_endOf_38 rfl ?_
    refine s_iald dX12_endOf_40 (fun x3 => ?_)
    refine s_bipush (v := 46) dX12_endOf_41 (by decide) ?_
    refine s_icmp_ne (tgt := 51) dX12_endOf_43 (by decide) ?_ ?_
    · exact Sim.sub [1, 2, 0, 3, 4] rfl (sim_X12_endOf_b51 l r5 hr5 v0 v1 s0 v4 v5)
    · exact Sim.sub [3] rfl (sim_X12_endOf_b46 l v4)
set_option maxRecDepth 20000 in
theorem sim_X12_endOf_b27 (l : Launch) (r5 : Option Nat → Int32 → Int32 → Int32 → ZM Int32) (hr5 : ∀ (v0 : Option Nat) (v1 : Int32) (v3 : Int32) (v4 : Int32), Sim (M_X12_endOf l) (zFin zcI) 5 [(0, .inr (.inr v0)), (1, .inl v1), (3, .inl v3), (4, .inl v4)] [] (r5 v0 v1 v3 v4)) (v0 : Option Nat) (v1 : Int32) (v4 : Int32) (v5 : Int32) : Sim (M_X12_endOf l) (zFin zcI) 27 [(0, .inr (.inr v0)), (1, .inl v1), (4, .inl v4), (5, .inl v5)] [] (p_X12_endOf_b27 r5 v0 v1 v4 v5) := by
  unfold p_X12_endOf_b27
  refine s_iconst (v := 1) dX12_endOf_27 (by decide) ?_
  refine s_goto (tgt := 32) dX12_endOf_28 (by decide) ?_
  exact Sim.sub [0, 1, 2, 3] rfl (sim_X12_endOf_b32 l r5 hr5 v0 v1 v4 v5 1)
set_option maxRecDepth 20000 in
theorem sim_X12_endOf_c5 (l : Launch) (r5 : Option Nat → Int32 → Int32 → Int32 → ZM Int32) (hr5 : ∀ (v0 : Option Nat) (v1 : Int32) (v3 : Int32) (v4 : Int32), Sim (M_X12_endOf l) (zFin zcI) 5 [(0, .inr (.inr v0)), (1, .inl v1), (3, .inl v3), (4, .inl v4)] [] (r5 v0 v1 v3 v4)) (v0 : Option Nat) (v1 : Int32) (v3 : Int32) (v4 : Int32) : Sim (M_X12_endOf l) (zFin zcI) 5 [(0, .inr (.inr v0)), (1, .inl v1), (3, .inl v3), (4, .inl v4)] [] (p_X12_endOf_c5 r5 v0 v1 v3 v4) := by
  unfold p_X12_endOf_c5
  refine s_iload (j := 3) dX12_endOf_5 rfl ?_
  refine s_iloadn (j := 1) dX12_endOf_7 rfl ?_
  refine s_icmp_ge (tgt := 81) dX12_endOf_8 (by decide) ?_ ?_
  · refine s_iload (j := 3) dX12_endOf_81 rfl ?_
    exact s_iret dX12_endOf_83 rfl
  · refine s_iloadn (j := 2) dX12_endOf_11 rfl ?_
    refine s_istore (lv' := [(5, .inl v3), (0, .inr (.inr v0)), (1, .inl v1), (3, .inl v3), (4, .inl v4)]) dX12_endOf_12 (Nat.le_of_ble_eq_true rfl) rfl ?_
    refine s_iloadn (j := 3) dX12_endOf_14 rfl ?_
    refine s_if_ne (tgt := 27) dX12_endOf_15 (by decide) ?_ ?_
    · exact Sim.sub [1, 2, 4, 0] rfl (sim_X12_endOf_b27 l r5 hr5 v0 v1 v4 v3)
    · refine s_aloadn (j := 1) dX12_endOf_18 rfl ?_
      refine s_iload (j := 4) dX12_endOf_19 rfl ?_
      refine s_iald dX12_endOf_21 (fun x4 => ?_)
      refine s_bipush (v := 60) dX12_endOf_22 (by decide) ?_
      refine s_icmp_ne (tgt := 31) dX12_endOf_24 (by decide) ?_ ?_
      · refine s_iconst (v := 0) dX12_endOf_31 (by decide) ?_
        exact Sim.sub [1, 2, 4, 0] rfl (sim_X12_endOf_b32 l r5 hr5 v0 v1 v4 v3 0)
      · exact Sim.sub [1, 2, 4, 0] rfl (sim_X12_endOf_b27 l r5 hr5 v0 v1 v4 v3)
theorem sim_X12_endOf_l5 (l : Launch) : ∀ (n : Nat) (v0 : Option Nat) (v1 : Int32) (v3 : Int32) (v4 : Int32), Sim (M_X12_endOf l) (zFin zcI) 5 [(0, .inr (.inr v0)), (1, .inl v1), (3, .inl v3), (4, .inl v4)] [] (p_X12_endOf_l5 n v0 v1 v3 v4)
  | 0, _, _, _, _ => s_fl
  | n + 1, v0, v1, v3, v4 => sim_X12_endOf_c5 l (p_X12_endOf_l5 n) (sim_X12_endOf_l5 l n) v0 v1 v3 v4
set_option maxRecDepth 20000 in
theorem sim_X12_endOf (l : Launch) (v0 : Option Nat) (v1 : Int32) (v2 : Int32) : Sim (M_X12_endOf l) (zFin zcI) 0 [(0, .inr (.inr v0)), (1, .inl v1), (2, .inl v2)] [] (p_X12_endOf v0 v1 v2) := by
  unfold p_X12_endOf
  refine s_iconst (v := 0) dX12_endOf_0 (by decide) ?_
  refine s_istoren (lv' := [(3, .inl 0), (0, .inr (.inr v0)), (1, .inl v1), (2, .inl v2)]) dX12_endOf_1 (Nat.le_of_ble_eq_true rfl) rfl ?_
  refine s_iloadn (j := 3) dX12_endOf_2 rfl ?_
  refine s_istore (lv' := [(4, .inl v2), (3, .inl 0), (0, .inr (.inr v0)), (1, .inl v1), (2, .inl v2)]) dX12_endOf_3 (Nat.le_of_ble_eq_true rfl) rfl ?_
  exact Sim.sub [2, 3, 1, 0] rfl (sim_X12_endOf_l5 l zFuel v0 v1 0 v2)
theorem met_X12_endOf (l : Launch) (v0 : Option Nat) (v1 : Int32) (v2 : Int32) : zMet l yX12_endOf cX12_endOf 6 (some .int) 0 0 [.inr (.inr v0), .inl v1, .inl v2] zcI (p_X12_endOf v0 v1 v2) :=
  zMet.of (by decide +kernel) (Nat.le_of_ble_eq_true rfl) rfl (sim_X12_endOf l v0 v1 v2)
def p_X12_like_b110 (r6 : Option Nat → Option Nat → Int32 → Int32 → Int32 → Int32 → Int32 → Int32 → ZM Int32) (v0 : Option Nat) (v1 : Option Nat) (v2 : Int32) (v3 : Int32) (v4 : Int32) (v5 : Int32) (v8 : Int32) (s0 : Int32) (s1 : Int32) : ZM Int32 :=
  z_n ((s0 + s1) : Int32) fun y1 => r6 v0 v1 v2 v3 v4 v5 y1 v8
def p_X12_like_b98 (r6 : Option Nat → Option Nat → Int32 → Int32 → Int32 → Int32 → Int32 → Int32 → ZM Int32) (v0 : Option Nat) (v1 : Option Nat) (v2 : Int32) (v3 : Int32) (v4 : Int32) (v5 : Int32) (v6 : Int32) (v8 : Int32) (v9 : Int32) : ZM Int32 :=
  if v9 = 0 then (p_X12_like_b110 r6 v0 v1 v2 v3 v4 v5 v8 v6 0)
  else (p_X12_like_b110 r6 v0 v1 v2 v3 v4 v5 v8 v6 1)
def p_X12_like_b90 (r6 : Option Nat → Option Nat → Int32 → Int32 → Int32 → Int32 → Int32 → Int32 → ZM Int32) (r50 : Option Nat → Option Nat → Int32 → Int32 → Int32 → Int32 → Int32 → Int32 → Int32 → Int32 → Int32 → ZM Int32) (v0 : Option Nat) (v1 : Option Nat) (v2 : Int32) (v3 : Int32) (v4 : Int32) (v5 : Int32) (v6 : Int32) (v7 : Int32) (v8 : Int32) (v10 : Int32) (s0 : Int32) : ZM Int32 :=
  z_n (v10 + 1 : Int32) fun y2 => r50 v0 v1 v2 v3 v4 v5 v6 v7 v8 s0 y2
def p_X12_like_c50 (r6 : Option Nat → Option Nat → Int32 → Int32 → Int32 → Int32 → Int32 → Int32 → ZM Int32) (r50 : Option Nat → Option Nat → Int32 → Int32 → Int32 → Int32 → Int32 → Int32 → Int32 → Int32 → Int32 → ZM Int32) (v0 : Option Nat) (v1 : Option Nat) (v2 : Int32) (v3 : Int32) (v4 : Int32) (v5 : Int32) (v6 : Int32) (v7 : Int32) (v8 : Int32) (v9 : Int32) (v10 : Int32) : ZM Int32 :=
  if (v5 - v4) ≤ v10 then (p_X12_like_b98 r6 v0 v1 v2 v3 v4 v5 v6 v8 v9)
  else (if v9 = 0 then (p_X12_like_b98 r6 v0 v1 v2 v3 v4 v5 v6 v8 v9)
  else (z_b (z_aI v1 (v7 + v10)) fun x3 => z_b (z_gR 13 33 v0) fun x4 => z_b (z_aI x4 (v4 + v10)) fun x5 => if ¬ x3 = x5 then (p_X12_like_b90 r6 r50 v0 v1 v2 v3 v4 v5 v6 v7 v8 v10 0)
  else (p_X12_like_b90 r6 r50 v0 v1 v2 v3 v4 v5 v6 v7 v8 v10 1)))
def p_X12_like_l50 (r6 : Option Nat → Option Nat → Int32 → Int32 → Int32 → Int32 → Int32 → Int32 → ZM Int32) : Nat → Option Nat → Option Nat → Int32 → Int32 → Int32 → Int32 → Int32 → Int32 → Int32 → Int32 → Int32 → ZM Int32
  | 0, _, _, _, _, _, _, _, _, _, _, _ => z_fl
  | n + 1, v0, v1, v2, v3, v4, v5, v6, v7, v8, v9, v10 => p_X12_like_c50 r6 (p_X12_like_l50 r6 n) v0 v1 v2 v3 v4 v5 v6 v7 v8 v9 v10
def p_X12_like_b45 (r6 : Option Nat → Option Nat → Int32 → Int32 → Int32 → Int32 → Int32 → Int32 → ZM Int32) (v0 : Option Nat) (v1 : Option Nat) (v2 : Int32) (v3 : Int32) (v4 : Int32) (v5 : Int32) (v6 : Int32) (v7 : Int32) (v8 : Int32) (s0 : Int32) : ZM Int32 :=
  p_X12_like_l50 r6 zFuel v0 v1 v2 v3 v4 v5 v6 v7 v8 s0 0
def p_X12_like_c6 (r6 : Option Nat → Option Nat → Int32 → Int32 → Int32 → Int32 → Int32 → Int32 → ZM Int32) (v0 : Option Nat) (v1 : Option Nat) (v2 : Int32) (v3 : Int32) (v4 : Int32) (v5 : Int32) (v6 : Int32) (v7 : Int32) : ZM Int32 :=
  if v2 ≤ v7 then (z_rt v6)
  else (if v3 ≤ v7 then (z_rt v6)
  else (z_b (p_X12_endOf v1 v2 v7) fun x6 => if ¬ (x6 - v7) = (v5 - v4) then (p_X12_like_b45 r6 v0 v1 v2 v3 v4 v5 v6 v7 x6 0)
  else (p_X12_like_b45 r6 v0 v1 v2 v3 v4 v5 v6 v7 x6 1)))
def p_X12_like_l6 : Nat → Option Nat → Option Nat → Int32 → Int32 → Int32 → Int32 → Int32 → Int32 → ZM Int32
  | 0, _, _, _, _, _, _, _, _ => z_fl
  | n + 1, v0, v1, v2, v3, v4, v5, v6, v7 => p_X12_like_c6 (p_X12_like_l6 n) v0 v1 v2 v3 v4 v5 v6 v7
def p_X12_like (v0 : Option Nat) (v1 : Option Nat) (v2 : Int32) (v3 : Int32) (v4 : Int32) (v5 : Int32) : ZM Int32 :=
  p_X12_like_l6 zFuel v0 v1 v2 v3 v4 v5 0 0
abbrev M_X12_like (l : Launch) : ZMe := (l, "SpellScribeModel", cX12_like, 11, 1, 25, (some .int), "like", [])
set_option maxRecDepth 20000 in
theorem sim_X12_like_b110 (l : Launch) (r6 : Option Nat → Option Nat → Int32 → Int32 → Int32 → Int32 → Int32 → Int32 → ZM Int32) (hr6 : ∀ (v0 : Option Nat) (v1 : Option Nat) (v2 : Int32) (v3 : Int32) (v4 : Int32) (v5 : Int32) (v6 : Int32) (v7 : Int32), Sim (M_X12_like l) (zFin zcI) 6 [(0, .inr (.inr v0)), (1, .inr (.inr v1)), (2, .inl v2), (3, .inl v3), (4, .inl v4), (5, .inl v5), (6, .inl v6), (7, .inl v7)] [] (r6 v0 v1 v2 v3 v4 v5 v6 v7)) (v0 : Option Nat) (v1 : Option Nat) (v2 : Int32) (v3 : Int32) (v4 : Int32) (v5 : Int32) (v8 : Int32) (s0 : Int32) (s1 : Int32) : Sim (M_X12_like l) (zFin zcI) 110 [(0, .inr (.inr v0)), (1, .inr (.inr v1)), (2, .inl v2), (3, .inl v3), (4, .inl v4), (5, .inl v5), (8, .inl v8)] [.inl s1, .inl s0] (p_X12_like_b110 r6 v0 v1 v2 v3 v4 v5 v8 s0 s1) := by
  unfold p_X12_like_b110
  refine s_iadd dX12_like_110 ?_
  refine s_nI (fun y1 => ?_)
  refine s_istore (lv' := [(6, .inl y1), (0, .inr (.inr v0)), (1, .inr (.inr v1)), (2, .inl v2), (3, .inl v3), (4, .inl v4), (5, .inl v5), (8, .inl v8)]) dX12_like_111 (Nat.le_of_ble_eq_true rfl) rfl ?_
  refine s_iload (j := 7) dX12_like_113 rfl ?_
  refine s_istore (lv' := [(7, .inl v8), (6, .inl y1), (0, .inr (.inr v0)), (1, .inr (.inr v1)), (2, .inl v2), (3, .inl v3), (4, .inl v4), (5, .inl v5), (8, .inl v8)]) dX12_like_115 (Nat.le_of_ble_eq_true rfl) rfl ?_
  refine s_goto (tgt := 6) dX12_like_117 (by decide) ?_
  exact Sim.sub [2, 3, 4, 5, 6, 7, 1, 0] rfl (hr6 v0 v1 v2 v3 v4 v5 y1 v8)
set_option maxRecDepth 20000 in
theorem sim_X12_like_b98 (l : Launch) (r6 : Option Nat → Option Nat → Int32 → Int32 → Int32 → Int32 → Int32 → Int32 → ZM Int32) (hr6 : ∀ (v0 : Option Nat) (v1 : Option Nat) (v2 : Int32) (v3 : Int32) (v4 : Int32) (v5 : Int32) (v6 : Int32) (v7 : Int32), Sim (M_X12_like l) (zFin zcI) 6 [(0, .inr (.inr v0)), (1, .inr (.inr v1)), (2, .inl v2), (3, .inl v3), (4, .inl v4), (5, .inl v5), (6, .inl v6), (7, .inl v7)] [] (r6 v0 v1 v2 v3 v4 v5 v6 v7)) (v0 : Option Nat) (v1 : Option Nat) (v2 : Int32) (v3 : Int32) (v4 : Int32) (v5 : Int32) (v6 : Int32) (v8 : Int32) (v9 : Int32) : Sim (M_X12_like l) (zFin zcI) 98 [(0, .inr (.inr v0)), (1, .inr (.inr v1)), (2, .inl v2), (3, .inl v3), (4, .inl v4), (5, .inl v5), (6, .inl v6), (8, .inl v8), (9, .inl v9)] [] (p_X12_like_b98 r6 v0 v1 v2 v3 v4 v5 v6 v8 v9) := by
  unfold p_X12_like_b98
  refine s_iload (j := 6) dX12_like_98 rfl ?_
  refine s_iload (j := 8) dX12_like_100 rfl ?_
  refine s_if_eq (tgt := 109) dX12_like_102 (by decide) ?_ ?_
  · refine s_iconst (v := 0) dX12_like_109 (by decide) ?_
    exact Sim.sub [0, 1, 2, 3, 4, 5, 7] rfl (sim_X12_like_b110 l r6 hr6 v0 v1 v2 v3 v4 v5 v8 v6 0)
  · refine s_iconst (v := 1) dX12_like_105 (by decide) ?_
    refine s_goto (tgt := 110) dX12_like_106 (by decide) ?_
    exact Sim.sub [0, 1, 2, 3, 4, 5, 7] rfl (sim_X12_like_b110 l r6 hr6 v0 v1 v2 v3 v4 v5 v8 v6 1)
set_option maxRecDepth 20000 in
theorem sim_X12_like_b90 (l : Launch) (r6 : Option Nat → Option Nat → Int32 → Int32 → Int32 → Int32 → Int32 → Int32 → ZM Int32) (r50 : Option Nat → Option Nat → Int32 → Int32 → Int32 → Int32 → Int32 → Int32 → Int32 → Int32 → Int32 → ZM Int32) (hr6 : ∀ (v0 : Option Nat) (v1 : Option Nat) (v2 : Int32) (v3 : Int32) (v4 : Int32) (v5 : Int32) (v6 : Int32) (v7 : Int32), Sim (M_X12_like l) (zFin zcI) 6 [(0, .inr (.inr v0)), (1, .inr (.inr v1)), (2, .inl v2), (3, .inl v3), (4, .inl v4), (5, .inl v5), (6, .inl v6), (7, .inl v7)] [] (r6 v0 v1 v2 v3 v4 v5 v6 v7)) (hr50 : ∀ (v0 : Option Nat) (v1 : Option Nat) (v2 : Int32) (v3 : Int32) (v4 : Int32) (v5 : Int32) (v6 : Int32) (v7 : Int32) (v8 : Int32) (v9 : Int32) (v10 : Int32), Sim (M_X12_like l) (zFin zcI) 50 [(0, .inr (.inr v0)), (1, .inr (.inr v1)), (2, .inl v2), (3, .inl v3), (4, .inl v4), (5, .inl v5), (6, .inl v6), (7, .inl v7), (8, .inl v8), (9, .inl v9), (10, .inl v10)] [] (r50 v0 v1 v2 v3 v4 v5 v6 v7 v8 v9 v10)) (v0 : Option Nat) (v1 : Option Nat) (v2 : Int32) (v3 : Int32) (v4 : Int32) (v5 : Int32) (v6 : Int32) (v7 : Int32) (v8 : Int32) (v10 : Int32) (s0 : Int32) : Sim (M_X12_like l) (zFin zcI) 90 [(0, .inr (.inr v0)), (1, .inr (.inr v1)), (2, .inl v2), (3, .inl v3), (4, .inl v4), (5, .inl v5), (6, .inl v6), (7, .inl v7), (8, .inl v8), (10, .inl v10)] [.inl s0] (p_X12_like_b90 r6 r50 v0 v1 v2 v3 v4 v5 v6 v7 v8 v10 s0) := by
  unfold p_X12_like_b90
  refine s_istore (lv' := [(9, .inl s0), (0, .inr (.inr v0)), (1, .inr (.inr v1)), (2, .inl v2), (3, .inl v3), (4, .inl v4), (5, .inl v5), (6, .inl v6), (7, .inl v7), (8, .inl v8), (10, .inl v10)]) dX12_like_90 (Nat.le_of_ble_eq_true rfl) rfl ?_
  refine s_n0 (fun y2 hy2 => ?_)
  refine s_iinc (j := 10) (v := y2) (d := 1) (lv' := [(10, .inl y2), (9, .inl s0), (0, .inr (.inr v0)), (1, .inr (.inr v1)), (2, .inl v2), (3, .inl v3), (4, .inl v4), (5, .inl v5), (6, .inl v6), (7, .inl v7), (8, .inl v8)]) dX12_like_92 rfl (by decide) hy2 (Nat.le_of_ble_eq_true rfl) rfl ?_
  refine s_goto (tgt := 50) dX12_like_95 (by decide) ?_
  exact Sim.sub [2, 3, 4, 5, 6, 7, 8, 9, 10, 1, 0] rfl (hr50 v0 v1 v2 v3 v4 v5 v6 v7 v8 s0 y2)
set_option maxRecDepth 20000 in
theorem sim_X12_like_c50 (l : Launch) (r6 : Option Nat → Option Nat → Int32 → Int32 → Int32 → Int32 → Int32 → Int32 → ZM Int32) (r50 : Option Nat → Option Nat → Int32 → Int32 → Int32 → Int32 → Int32 → Int32 → Int32 → Int32 → Int32 → ZM Int32) (hr6 : ∀ (v0 : Option Nat) (v1 : Option Nat) (v2 : Int32) (v3 : Int32) (v4 : Int32) (v5 : Int32) (v6 : Int32) (v7 : Int32), Sim (M_X12_like l) (zFin zcI) 6 [(0, .inr (.inr v0)), (1, .inr (.inr v1)), (2, .inl v2), (3, .inl v3), (4, .inl v4), (5, .inl v5), (6, .inl v6), (7, .inl v7)] [] (r6 v0 v1 v2 v3 v4 v5 v6 v7)) (hr50 : ∀ (v0 : Option Nat) (v1 : Option Nat) (v2 : Int32) (v3 : Int32) (v4 : Int32) (v5 : Int32) (v6 : Int32) (v7 : Int32) (v8 : Int32) (v9 : Int32) (v10 : Int32), Sim (M_X12_like l) (zFin zcI) 50 [(0, .inr (.inr v0)), (1, .inr (.inr v1)), (2, .inl v2), (3, .inl v3), (4, .inl v4), (5, .inl v5), (6, .inl v6), (7, .inl v7), (8, .inl v8), (9, .inl v9), (10, .inl v10)] [] (r50 v0 v1 v2 v3 v4 v5 v6 v7 v8 v9 v10)) (v0 : Option Nat) (v1 : Option Nat) (v2 : Int32) (v3 : Int32) (v4 : Int32) (v5 : Int32) (v6 : Int32) (v7 : Int32) (v8 : Int32) (v9 : Int32) (v10 : Int32) : Sim (M_X12_like l) (zFin zcI) 50 [(0, .inr (.inr v0)), (1, .inr (.inr v1)), (2, .inl v2), (3, .inl v3), (4, .inl v4), (5, .inl v5), (6, .inl v6), (7, .inl v7), (8, .inl v8), (9, .inl v9), (10, .inl v10)] [] (p_X12_like_c50 r6 r50 v0 v1 v2 v3 v4 v5 v6 v7 v8 v9 v10) := by
  unfold p_X12_like_c50
  refine s_iload (j := 10) dX12_like_50 rfl ?_
  refine s_iload (j := 5) dX12_like_52 rfl ?_
  refine s_iload (j := 4) dX12_like_54 rfl ?_
  refine s_isub dX12_like_56 ?_
  refine s_icmp_ge (tgt := 98) dX12_like_57 (by decide) ?_ ?_
  · exact Sim.sub [0, 1, 2, 3, 4, 5, 6, 8, 9] rfl (sim_X12_like_b98 l r6 hr6 v0 v1 v2 v3 v4 v5 v6 v8 v9)
  · refine s_iload (j := 9) dX12_like_60 rfl ?_
    refine s_if_eq (tgt := 98) dX12_like_62 (by decide) ?_ ?_
    · exact Sim.sub [0, 1, 2, 3, 4, 5, 6, 8, 9] rfl (sim_X12_like_b98 l r6 hr6 v0 v1 v2 v3 v4 v5 v6 v8 v9)
    · refine s_aloadn (j := 1) dX12_like_65 rfl ?_
      refine s_iload (j := 7) dX12_like_66 rfl ?_
      refine s_iload (j := 10) dX12_like_68 rfl ?_
      refine s_iadd dX12_like_70 ?_
      refine s_iald dX12_like_71 (fun x3 => ?_)
      refine s_aloadn (j := 0) dX12_like_72 rfl ?_
      refine s_getR (k := 33) cls_13 (by decide) rfl dX12_like_73 w_1381 rfl (fun x4 => ?_)
      refine s_iload (j := 4) dX12_like_76 rfl ?_
      refine s_iload (j := 10) dX12_like_78 rfl ?_
      refine s_iadd dX12_like_80 ?_
      refine s_iald dX12_like_81 (fun x5 => ?_)
      refine s_icmp_ne (tgt := 89) dX12_like_82 (by decide) ?_ ?_
      · refine s_iconst (v := 0) dX12_like_89 (by decide) ?_
        exact Sim.sub [0, 1, 2, 3, 4, 5, 6, 7, 8, 10] rfl (sim_X12_like_b90 l r6 r50 hr6 hr50 v0 v1 v2 v3 v4 v5 v6 v7 v8 v10 0)
      · refine s_iconst (v := 1) dX12_like_85 (by decide) ?_
        refine s_goto (tgt := 90) dX12_like_86 (by decide) ?_
        exact Sim.sub [0, 1, 2, 3, 4, 5, 6, 7, 8, 10] rfl (sim_X12_like_b90 l r6 r50 hr6 hr50 v0 v1 v2 v3 v4 v5 v6 v7 v8 v10 1)
theorem sim_X12_like_l50 (l : Launch) (r6 : Option Nat → Option Nat → Int32 → Int32 → Int32 → Int32 → Int32 → Int32 → ZM Int32) (hr6 : ∀ (v0 : Option Nat) (v1 : Option Nat) (v2 : Int32) (v3 : Int32) (v4 : Int32) (v5 : Int32) (v6 : Int32) (v7 : Int32), Sim (M_X12_like l) (zFin zcI) 6 [(0, .inr (.inr v0)), (1, .inr (.inr v1)), (2, .inl v2), (3, .inl v3), (4, .inl v4), (5, .inl v5), (6, .inl v6), (7, .inl v7)] [] (r6 v0 v1 v2 v3 v4 v5 v6 v7)) : ∀ (n : Nat) (v0 : Option Nat) (v1 : Option Nat) (v2 : Int32) (v3 : Int32) (v4 : Int32) (v5 : Int32) (v6 : Int32) (v7 : Int32) (v8 : Int32) (v9 : Int32) (v10 : Int32), Sim (M_X12_like l) (zFin zcI) 50 [(0, .inr (.inr v0)), (1, .inr (.inr v1)), (2, .inl v2), (3, .inl v3), (4, .inl v4), (5, .inl v5), (6, .inl v6), (7, .inl v7), (8, .inl v8), (9, .inl v9), (10, .inl v10)] [] (p_X12_like_l50 r6 n v0 v1 v2 v3 v4 v5 v6 v7 v8 v9 v10)
  | 0, _, _, _, _, _, _, _, _, _, _, _ => s_fl
  | n + 1, v0, v1, v2, v3, v4, v5, v6, v7, v8, v9, v10 => sim_X12_like_c50 l r6 (p_X12_like_l50 r6 n) hr6 (sim_X12_like_l50 l r6 hr6 n) v0 v1 v2 v3 v4 v5 v6 v7 v8 v9 v10
set_option maxRecDepth 20000 in
theorem sim_X12_like_b45 (l : Launch) (r6 : Option Nat → Option Nat → Int32 → Int32 → Int32 → Int32 → Int32 → Int32 → ZM Int32) (hr6 : ∀ (v0 : Option Nat) (v1 : Option Nat) (v2 : Int32) (v3 : Int32) (v4 : Int32) (v5 : Int32) (v6 : Int32) (v7 : Int32), Sim (M_X12_like l) (zFin zcI) 6 [(0, .inr (.inr v0)), (1, .inr (.inr v1)), (2, .inl v2), (3, .inl v3), (4, .inl v4), (5, .inl v5), (6, .inl v6), (7, .inl v7)] [] (r6 v0 v1 v2 v3 v4 v5 v6 v7)) (v0 : Option Nat) (v1 : Option Nat) (v2 : Int32) (v3 : Int32) (v4 : Int32) (v5 : Int32) (v6 : Int32) (v7 : Int32) (v8 : Int32) (s0 : Int32) : Sim (M_X12_like l) (zFin zcI) 45 [(0, .inr (.inr v0)), (1, .inr (.inr v1)), (2, .inl v2), (3, .inl v3), (4, .inl v4), (5, .inl v5), (6, .inl v6), (7, .inl v7), (8, .inl v8)] [.inl s0] (p_X12_like_b45 r6 v0 v1 v2 v3 v4 v5 v6 v7 v8 s0) := by
  unfold p_X12_like_b45
  refine s_istore (lv' := [(9, .inl s0), (0, .inr (.inr v0)), (1, .inr (.inr v1)), (2, .inl v2), (3, .inl v3), (4, .inl v4), (5, .inl v5), (6, .inl v6), (7, .inl v7), (8, .inl v8)]) dX12_like_45 (Nat.le_of_ble_eq_true rfl) rfl ?_
  refine s_iconst (v := 0) dX12_like_47 (by decide) ?_
  refine s_istore (lv' := [(10, .inl 0), (9, .inl s0), (0, .inr (.inr v0)), (1, .inr (.inr v1)), (2, .inl v2), (3, .inl v3), (4, .inl v4), (5, .inl v5), (6, .inl v6), (7, .inl v7), (8, .inl v8)]) dX12_like_48 (Nat.le_of_ble_eq_true rfl) rfl ?_
  exact Sim.sub [2, 3, 4, 5, 6, 7, 8, 9, 10, 1, 0] rfl (sim_X12_like_l50 l r6 hr6 zFuel v0 v1 v2 v3 v4 v5 v6 v7 v8 s0 0)
set_option maxRecDepth 20000 in
theorem sim_X12_like_c6 (l : Launch) (r6 : Option Nat → Option Nat → Int32 → Int32 → Int32 → Int32 → Int32 → Int32 → ZM Int32) (hr6 : ∀ (v0 : Option Nat) (v1 : Option Nat) (v2 : Int32) (v3 : Int32) (v4 : Int32) (v5 : Int32) (v6 : Int32) (v7 : Int32), Sim (M_X12_like l) (zFin zcI) 6 [(0, .inr (.inr v0)), (1, .inr (.inr v1)), (2, .inl v2), (3, .inl v3), (4, .inl v4), (5, .inl v5), (6, .inl v6), (7, .inl v7)] [] (r6 v0 v1 v2 v3 v4 v5 v6 v7)) (v0 : Option Nat) (v1 : Option Nat) (v2 : Int32) (v3 : Int32) (v4 : Int32) (v5 : Int32) (v6 : Int32) (v7 : Int32) : Sim (M_X12_like l) (zFin zcI) 6 [(0, .inr (.inr v0)), (1, .inr (.inr v1)), (2, .inl v2), (3, .inl v3), (4, .inl v4), (5, .inl v5), (6, .inl v6), (7, .inl v7)] [] (p_X12_like_c6 r6 v0 v1 v2 v3 v4 v5 v6 v7) := by
  unfold p_X12_like_c6
  refine s_iload (j := 7) dX12_like_6 rfl ?_
  refine s_iloadn (j := 2) dX12_like_8 rfl ?_
  refine s_icmp_ge (tgt := 120) dX12_like_9 (by decide) ?_ ?_
  · refine s_iload (j := 6) dX12_like_120 rfl ?_
    exact s_iret dX12_like_122 rfl
  · refine s_iload (j := 7) dX12_like_12 rfl ?_
    refine s_iloadn (j := 3) dX12_like_14 rfl ?_
    refine s_icmp_ge (tgt := 120) dX12_like_15 (by decide) ?_ ?_
    · refine s_iload (j := 6) dX12_like_120 rfl ?_
      exact s_iret dX12_like_122 rfl
    · refine s_aloadn (j := 1) dX12_like_18 rfl ?_
      refine s_iloadn (j := 2) dX12_like_19 rfl ?_
      refine s_iload (j := 7) dX12_like_20 rfl ?_
      refine s_cSI (rest := []) (met_X12_endOf l v1 v2 v7) mth_X12_endOf rfl dX12_like_22 w_1706 w_1707 ⟨Nat.le_of_ble_eq_true rfl, Nat.le_of_ble_eq_true rfl⟩ (Nat.le_of_ble_eq_true rfl) rfl (fun x6 => ?_)
      refine s_istore (lv' := [(8, .inl x6), (0, .inr (.inr v0)), (1, .inr (.inr v1)), (2, .inl v2), (3, .inl v3), (4, .inl v4), (5, .inl v5), (6, .inl v6), (7, .inl v7)]) dX12_like_25 (Nat.le_of_ble_eq_true rfl) rfl ?_
      refine s_iload (j := 0) dX12_like_27 rfl ?_
      refine s_iload (j := 8) dX12_like_29 rfl ?_
      refine s_isub dX12_like_31 ?_
      refine s_iload (j := 6) dX12_like_32 rfl ?_
      refine s_iload (j := 5) dX12_like_34 rfl ?_
      refine s_isub dX12_like_36 ?_
      refine s_icmp_ne (tgt := 44) dX12_like_37 (by decide) ?_ ?_
      · refine s_iconst (v := 0) dX12_like_44 (by decide) ?_
        exact Sim.sub [1, 2, 3, 4, 5, 6, 7, 8, 0] rfl (sim_X12_like_b45 l r6 hr6 v0 v1 v2 v3 v4 v5 v6 v7 x6 0)
      · refine s_iconst (v := 1) dX12_like_40 (by decide) ?_
        refine s_goto (tgt := 45) dX12_like_41 (by decide) ?_
        exact Sim.sub [1, 2, 3, 4, 5, 6, 7, 8, 0] rfl (sim_X12_like_b45 l r6 hr6 v0 v1 v2 v3 v4 v5 v6 v7 x6 1)
theorem sim_X12_like_l6 (l : Launch) : ∀ (n : Nat) (v0 : Option Nat) (v1 : Option Nat) (v2 : Int32) (v3 : Int32) (v4 : Int32) (v5 : Int32) (v6 : Int32) (v7 : Int32), Sim (M_X12_like l) (zFin zcI) 6 [(0, .inr (.inr v0)), (1, .inr (.inr v1)), (2, .inl v2), (3, .inl v3), (4, .inl v4), (5, .inl v5), (6, .inl v6), (7, .inl v7)] [] (p_X12_like_l6 n v0 v1 v2 v3 v4 v5 v6 v7)
  | 0, _, _, _, _, _, _, _, _ => s_fl
  | n + 1, v0, v1, v2, v3, v4, v5, v6, v7 => sim_X12_like_c6 l (p_X12_like_l6 n) (sim_X12_like_l6 l n) v0 v1 v2 v3 v4 v5 v6 v7
set_option maxRecDepth 20000 in
theorem sim_X12_like (l : Launch) (v0 : Option Nat) (v1 : Option Nat) (v2 : Int32) (v3 : Int32) (v4 : Int32) (v5 : Int32) : Sim (M_X12_like l) (zFin zcI) 0 [(0, .inr (.inr v0)), (1, .inr (.inr v1)), (2, .inl v2), (3, .inl v3), (4, .inl v4), (5, .inl v5)] [] (p_X12_like v0 v1 v2 v3 v4 v5) := by
  unfold p_X12_like
  refine s_iconst (v := 0) dX12_like_0 (by decide) ?_
  refine s_istore (lv' := [(6, .inl 0), (0, .inr (.inr v0)), (1, .inr (.inr v1)), (2, .inl v2), (3, .inl v3), (4, .inl v4), (5, .inl v5)]) dX12_like_1 (Nat.le_of_ble_eq_true rfl) rfl ?_
  refine s_iconst (v := 0) dX12_like_3 (by decide) ?_
  refine s_istore (lv' := [(7, .inl 0), (6, .inl 0), (0, .inr (.inr v0)), (1, .inr (.inr v1)), (2, .inl v2), (3, .inl v3), (4, .inl v4), (5, .inl v5)]) dX12_like_4 (Nat.le_of_ble_eq_true rfl) rfl ?_
  exact Sim.sub [2, 3, 4, 5, 6, 7, 1, 0] rfl (sim_X12_like_l6 l zFuel v0 v1 v2 v3 v4 v5 0 0)
theorem met_X12_like (l : Launch) (v0 : Option Nat) (v1 : Option Nat) (v2 : Int32) (v3 : Int32) (v4 : Int32) (v5 : Int32) : zMet l yX12_like cX12_like 11 (some .int) 1 25 [.inr (.inr v0), .inr (.inr v1), .inl v2, .inl v3, .inl v4, .inl v5] zcI (p_X12_like v0 v1 v2 v3 v4 v5) :=
  zMet.of (by decide +kernel) (Nat.le_of_ble_eq_true rfl) rfl (sim_X12_like l v0 v1 v2 v3 v4 v5)
def p_X12_checks_b120 (r8 : Option Nat → Int32 → Int32 → ZM Int32) (v0 : Option Nat) (v1 : Int32) (v3 : Int32) : ZM Int32 :=
  r8 v0 v1 v3
def p_X12_checks_b112 (r8 : Option Nat → Int32 → Int32 → ZM Int32) (r75 : Option Nat → Int32 → Int32 → Int32 → Int32 → Int32 → ZM Int32) (v0 : Option Nat) (v2 : Int32) (v3 : Int32) (v4 : Int32) (v5 : Int32) (s0 : Int32) (s1 : Int32) : ZM Int32 :=
  z_n ((s0 + s1) : Int32) fun y1 => z_n (v5 + 1 : Int32) fun y2 => r75 v0 y1 v2 v3 v4 y2
def p_X12_checks_b111 (r8 : Option Nat → Int32 → Int32 → ZM Int32) (r75 : Option Nat → Int32 → Int32 → Int32 → Int32 → Int32 → ZM Int32) (v0 : Option Nat) (v2 : Int32) (v3 : Int32) (v4 : Int32) (v5 : Int32) (s0 : Int32) : ZM Int32 :=
  p_X12_checks_b112 r8 r75 v0 v2 v3 v4 v5 s0 0
def p_X12_checks_c75 (r8 : Option Nat → Int32 → Int32 → ZM Int32) (r75 : Option Nat → Int32 → Int32 → Int32 → Int32 → Int32 → ZM Int32) (v0 : Option Nat) (v1 : Int32) (v2 : Int32) (v3 : Int32) (v4 : Int32) (v5 : Int32) : ZM Int32 :=
  z_b (z_gI 13 40 v0) fun x3 => if x3 ≤ v5 then (p_X12_checks_b120 r8 v0 v1 v3)
  else (if v4 = 0 then (p_X12_checks_b111 r8 r75 v0 v2 v3 v4 v5 v1)
  else (z_b (z_gR 13 41 v0) fun x4 => z_b (z_aI x4 v5) fun x5 => z_b (p_X12_in x5 v2 (v3 - 1)) fun x6 => if x6 = 0 then (p_X12_checks_b111 r8 r75 v0 v2 v3 v4 v5 v1)
  else (p_X12_checks_b112 r8 r75 v0 v2 v3 v4 v5 v1 1)))
def p_X12_checks_l75 (r8 : Option Nat → Int32 → Int32 → ZM Int32) : Nat → Option Nat → Int32 → Int32 → Int32 → Int32 → Int32 → ZM Int32
  | 0, _, _, _, _, _, _ => z_fl
  | n + 1, v0, v1, v2, v3, v4, v5 => p_X12_checks_c75 r8 (p_X12_checks_l75 r8 n) v0 v1 v2 v3 v4 v5
def p_X12_checks_b70 (r8 : Option Nat → Int32 → Int32 → ZM Int32) (v0 : Option Nat) (v1 : Int32) (v2 : Int32) (v3 : Int32) (s0 : Int32) : ZM Int32 :=
  p_X12_checks_l75 r8 zFuel v0 v1 v2 v3 s0 0
def p_X12_checks_c8 (r8 : Option Nat → Int32 → Int32 → ZM Int32) (v0 : Option Nat) (v1 : Int32) (v2 : Int32) : ZM Int32 :=
  z_b (z_gI 13 32 v0) fun x7 => if x7 ≤ v2 then (z_rt v1)
  else (z_b (z_gR 13 33 v0) fun x8 => z_b (z_gI 13 32 v0) fun x9 => z_b (p_X12_endOf x8 x9 v2) fun x10 => z_b (z_gR 13 33 v0) fun x11 => z_b (z_gI 13 32 v0) fun x12 => z_b (z_vr 13 v0 (p_X12_like v0 x11 x12 x10 v2 x10)) fun x13 => z_b (z_gR 13 55 v0) fun x14 => z_b (z_gI 13 56 v0) fun x15 => z_b (z_gI 13 56 v0) fun x16 => z_b (z_vr 13 v0 (p_X12_like v0 x14 x15 x16 v2 x10)) fun x17 => if x13 ≤ x17 then (p_X12_checks_b70 r8 v0 v1 v2 x10 0)
  else (p_X12_checks_b70 r8 v0 v1 v2 x10 1))
def p_X12_checks_l8 : Nat → Option Nat → Int32 → Int32 → ZM Int32
  | 0, _, _, _ => z_fl
  | n + 1, v0, v1, v2 => p_X12_checks_c8 (p_X12_checks_l8 n) v0 v1 v2
def p_X12_checks (v0 : Option Nat) : ZM Int32 :=
  z_b (z_vr 13 v0 (p_X12_finds v0)) fun _ => p_X12_checks_l8 zFuel v0 0 0
abbrev M_X12_checks (l : Launch) : ZMe := (l, "SpellScribeModel", cX12_checks, 6, 3, 69, (some .int), "checks", [])
set_option maxRecDepth 20000 in
theorem sim_X12_checks_b120 (l : Launch) (r8 : Option Nat → Int32 → Int32 → ZM Int32) (hr8 : ∀ (v0 : Option Nat) (v1 : Int32) (v2 : Int32), Sim (M_X12_checks l) (zFin zcI) 8 [(0, .inr (.inr v0)), (1, .inl v1), (2, .inl v2)] [] (r8 v0 v1 v2)) (v0 : Option Nat) (v1 : Int32) (v3 : Int32) : Sim (M_X12_checks l) (zFin zcI) 120 [(0, .inr (.inr v0)), (1, .inl v1), (3, .inl v3)] [] (p_X12_checks_b120 r8 v0 v1 v3) := by
  unfold p_X12_checks_b120
  refine s_iloadn (j := 2) dX12_checks_120 rfl ?_
  refine s_istoren (lv' := [(2, .inl v3), (0, .inr (.inr v0)), (1, .inl v1), (3, .inl v3)]) dX12_checks_121 (Nat.le_of_ble_eq_true rfl) rfl ?_
  refine s_goto (tgt := 8) dX12_checks_122 (by decide) ?_
  exact Sim.sub [1, 2, 0] rfl (hr8 v0 v1 v3)
set_option maxRecDepth 20000 in
theorem sim_X12_checks_b112 (l : Launch) (r8 : Option Nat → Int32 → Int32 → ZM Int32) (r75 : Option Nat → Int32 → Int32 → Int32 → Int32 → Int32 → ZM Int32) (hr8 : ∀ (v0 : Option Nat) (v1 : Int32) (v2 : Int32), Sim (M_X12_checks l) (zFin zcI) 8 [(0, .inr (.inr v0)), (1, .inl v1), (2, .inl v2)] [] (r8 v0 v1 v2)) (hr75 : ∀ (v0 : Option Nat) (v1 : Int32) (v2 : Int32) (v3 : Int32) (v4 : Int32) (v5 : Int32), Sim (M_X12_checks l) (zFin zcI) 75 [(0, .inr (.inr v0)), (1, .inl v1), (2, .inl v2), (3, .inl v3), (4, .inl v4), (5, .inl v5)] [] (r75 v0 v1 v2 v3 v4 v5)) (v0 : Option Nat) (v2 : Int32) (v3 : Int32) (v4 : Int32) (v5 : Int32) (s0 : Int32) (s1 : Int32) : Sim (M_X12_checks l) (zFin zcI) 112 [(0, .inr (.inr v0)), (2, .inl v2), (3, .inl v3), (4, .inl v4), (5, .inl v5)] [.inl s1, .inl s0] (p_X12_checks_b112 r8 r75 v0 v2 v3 v4 v5 s0 s1) := by
  unfold p_X12_checks_b112
  refine s_iadd dX12_checks_112 ?_
  refine s_nI (fun y1 => ?_)
  refine s_istoren (lv' := [(1, .inl y1), (0, .inr (.inr v0)), (2, .inl v2), (3, .inl v3), (4, .inl v4), (5, .inl v5)]) dX12_checks_113 (Nat.le_of_ble_eq_true rfl) rfl ?_
  refine s_n0 (fun y2 hy2 => ?_)
  refine s_iinc (j := 5) (v := y2) (d := 1) (lv' := [(5, .inl y2), (1, .inl y1), (0, .inr (.inr v0)), (2, .inl v2), (3, .inl v3), (4, .inl v4)]) dX12_checks_114 rfl (by decide) hy2 (Nat.le_of_ble_eq_true rfl) rfl ?_
  refine s_goto (tgt := 75) dX12_checks_117 (by decide) ?_
  exact Sim.sub [2, 1, 3, 4, 5, 0] rfl (hr75 v0 y1 v2 v3 v4 y2)
set_option maxRecDepth 20000 in
theorem sim_X12_checks_b111 (l : Launch) (r8 : Option Nat → Int32 → Int32 → ZM Int32) (r75 : Option Nat → Int32 → Int32 → Int32 → Int32 → Int32 → ZM Int32) (hr8 : ∀ (v0 : Option Nat) (v1 : Int32) (v2 : Int32), Sim (M_X12_checks l) (zFin zcI) 8 [(0, .inr (.inr v0)), (1, .inl v1), (2, .inl v2)] [] (r8 v0 v1 v2)) (hr75 : ∀ (v0 : Option Nat) (v1 : Int32) (v2 : Int32) (v3 : Int32) (v4 : Int32) (v5 : Int32), Sim (M_X12_checks l) (zFin zcI) 75 [(0, .inr (.inr v0)), (1, .inl v1), (2, .inl v2), (3, .inl v3), (4, .inl v4), (5, .inl v5)] [] (r75 v0 v1 v2 v3 v4 v5)) (v0 : Option Nat) (v2 : Int32) (v3 : Int32) (v4 : Int32) (v5 : Int32) (s0 : Int32) : Sim (M_X12_checks l) (zFin zcI) 111 [(0, .inr (.inr v0)), (2, .inl v2), (3, .inl v3), (4, .inl v4), (5, .inl v5)] [.inl s0] (p_X12_checks_b111 r8 r75 v0 v2 v3 v4 v5 s0) := by
  unfold p_X12_checks_b111
  refine s_iconst (v := 0) dX12_checks_111 (by decide) ?_
  exact Sim.sub [0, 1, 2, 3, 4] rfl (sim_X12_checks_b112 l r8 r75 hr8 hr75 v0 v2 v3 v4 v5 s0 0)
set_option maxRecDepth 20000 in
theorem sim_X12_checks_c75 (l : Launch) (r8 : Option Nat → Int32 → Int32 → ZM Int32) (r75 : Option Nat → Int32 → Int32 → Int32 → Int32 → Int32 → ZM Int32) (hr8 : ∀ (v0 : Option Nat) (v1 : Int32) (v2 : Int32), Sim (M_X12_checks l) (zFin zcI) 8 [(0, .inr (.inr v0)), (1, .inl v1), (2, .inl v2)] [] (r8 v0 v1 v2)) (hr75 : ∀ (v0 : Option Nat) (v1 : Int32) (v2 : Int32) (v3 : Int32) (v4 : Int32) (v5 : Int32), Sim (M_X12_checks l) (zFin zcI) 75 [(0, .inr (.inr v0)), (1, .inl v1), (2, .inl v2), (3, .inl v3), (4, .inl v4), (5, .inl v5)] [] (r75 v0 v1 v2 v3 v4 v5)) (v0 : Option Nat) (v1 : Int32) (v2 : Int32) (v3 : Int32) (v4 : Int32) (v5 : Int32) : Sim (M_X12_checks l) (zFin zcI) 75 [(0, .inr (.inr v0)), (1, .inl v1), (2, .inl v2), (3, .inl v3), (4, .inl v4), (5, .inl v5)] [] (p_X12_checks_c75 r8 r75 v0 v1 v2 v3 v4 v5) := by
  unfold p_X12_checks_c75
  refine s_iload (j := 5) dX12_checks_75 rfl ?_
  refine s_aloadn (j := 0) dX12_checks_77 rfl ?_
  refine s_getI (k := 40) cls_13 (by decide) rfl dX12_checks_78 w_1388 rfl (fun x3 => ?_)
  refine s_icmp_ge (tgt := 120) dX12_checks_81 (by decide) ?_ ?_
  · exact Sim.sub [0, 1, 3] rfl (sim_X12_checks_b120 l r8 hr8 v0 v1 v3)
  · refine s_iloadn (j := 1) dX12_checks_84 rfl ?_
    refine s_iload (j := 4) dX12_checks_85 rfl ?_
    refine s_if_eq (tgt := 111) dX12_checks_87 (by decide) ?_ ?_
    · exact Sim.sub [0, 2, 3, 4, 5] rfl (sim_X12_checks_b111 l r8 r75 hr8 hr75 v0 v2 v3 v4 v5 v1)
    · refine s_aloadn (j := 0) dX12_checks_90 rfl ?_
      refine s_getR (k := 41) cls_13 (by decide) rfl dX12_checks_91 w_1389 rfl (fun x4 => ?_)
      refine s_iload (j := 5) dX12_checks_94 rfl ?_
      refine s_iald dX12_checks_96 (fun x5 => ?_)
      refine s_iloadn (j := 2) dX12_checks_97 rfl ?_
      refine s_iloadn (j := 3) dX12_checks_98 rfl ?_
      refine s_iconst (v := 1) dX12_checks_99 (by decide) ?_
      refine s_isub dX12_checks_100 ?_
      refine s_cSI (rest := [.inl v1]) (met_X12_in l x5 v2 (v3 - 1)) mth_X12_in rfl dX12_checks_101 w_1535 w_1536 ⟨Nat.le_of_ble_eq_true rfl, Nat.le_of_ble_eq_true rfl⟩ (Nat.le_of_ble_eq_true rfl) rfl (fun x6 => ?_)
      refine s_if_eq (tgt := 111) dX12_checks_104 (by decide) ?_ ?_
      · exact Sim.sub [0, 2, 3, 4, 5] rfl (sim_X12_checks_b111 l r8 r75 hr8 hr75 v0 v2 v3 v4 v5 v1)
      · refine s_iconst (v := 1) dX12_checks_107 (by decide) ?_
        refine s_goto (tgt := 112) dX12_checks_108 (by decide) ?_
        exact Sim.sub [0, 2, 3, 4, 5] rfl (sim_X12_checks_b112 l r8 r75 hr8 hr75 v0 v2 v3 v4 v5 v1 1)
theorem sim_X12_checks_l75 (l : Launch) (r8 : Option Nat → Int32 → Int32 → ZM Int32) (hr8 : ∀ (v0 : Option Nat) (v1 : Int32) (v2 : Int32), Sim (M_X12_checks l) (zFin zcI) 8 [(0, .inr (.inr v0)), (1, .inl v1), (2, .inl v2)] [] (r8 v0 v1 v2)) : ∀ (n : Nat) (v0 : Option Nat) (v1 : Int32) (v2 : Int32) (v3 : Int32) (v4 : Int32) (v5 : Int32), Sim (M_X12_checks l) (zFin zcI) 75 [(0, .inr (.inr v0)), (1, .inl v1), (2, .inl v2), (3, .inl v3), (4, .inl v4), (5, .inl v5)] [] (p_X12_checks_l75 r8 n v0 v1 v2 v3 v4 v5)
  | 0, _, _, _, _, _, _ => s_fl
  | n + 1, v0, v1, v2, v3, v4, v5 => sim_X12_checks_c75 l r8 (p_X12_checks_l75 r8 n) hr8 (sim_X12_checks_l75 l r8 hr8 n) v0 v1 v2 v3 v4 v5
set_option maxRecDepth 20000 in
theorem sim_X12_checks_b70 (l : Launch) (r8 : Option Nat → Int32 → Int32 → ZM Int32) (hr8 : ∀ (v0 : Option Nat) (v1 : Int32) (v2 : Int32), Sim (M_X12_checks l) (zFin zcI) 8 [(0, .inr (.inr v0)), (1, .inl v1), (2, .inl v2)] [] (r8 v0 v1 v2)) (v0 : Option Nat) (v1 : Int32) (v2 : Int32) (v3 : Int32) (s0 : Int32) : Sim (M_X12_checks l) (zFin zcI) 70 [(0, .inr (.inr v0)), (1, .inl v1), (2, .inl v2), (3, .inl v3)] [.inl s0] (p_X12_checks_b70 r8 v0 v1 v2 v3 s0) := by
  unfold p_X12_checks_b70
  refine s_istore (lv' := [(4, .inl s0), (0, .inr (.inr v0)), (1, .inl v1), (2, .inl v2), (3, .inl v3)]) dX12_checks_70 (Nat.le_of_ble_eq_true rfl) rfl ?_
  refine s_iconst (v := 0) dX12_checks_72 (by decide) ?_
  refine s_istore (lv' := [(5, .inl 0), (4, .inl s0), (0, .inr (.inr v0)), (1, .inl v1), (2, .inl v2), (3, .inl v3)]) dX12_checks_73 (Nat.le_of_ble_eq_true rfl) rfl ?_
  exact Sim.sub [2, 3, 4, 5, 1, 0] rfl (sim_X12_checks_l75 l r8 hr8 zFuel v0 v1 v2 v3 s0 0)
set_option maxRecDepth 20000 in
theorem sim_X12_checks_c8 (l : Launch) (r8 : Option Nat → Int32 → Int32 → ZM Int32) (hr8 : ∀ (v0 : Option Nat) (v1 : Int32) (v2 : Int32), Sim (M_X12_checks l) (zFin zcI) 8 [(0, .inr (.inr v0)), (1, .inl v1), (2, .inl v2)] [] (r8 v0 v1 v2)) (v0 : Option Nat) (v1 : Int32) (v2 : Int32) : Sim (M_X12_checks l) (zFin zcI) 8 [(0, .inr (.inr v0)), (1, .inl v1), (2, .inl v2)] [] (p_X12_checks_c8 r8 v0 v1 v2) := by
  unfold p_X12_checks_c8
  refine s_iloadn (j := 2) dX12_checks_8 rfl ?_
  refine s_aloadn (j := 0) dX12_checks_9 rfl ?_
  refine s_getI (k := 32) cls_13 (by decide) rfl dX12_checks_10 w_1380 rfl (fun x7 => ?_)
  refine s_icmp_ge (tgt := 125) dX12_checks_13 (by decide) ?_ ?_
  · refine s_iloadn (j := 1) dX12_checks_125 rfl ?_
    exact s_iret dX12_checks_126 rfl
  · refine s_aloadn (j := 0) dX12_checks_16 rfl ?_
    refine s_getR (k := 33) cls_13 (by decide) rfl dX12_checks_17 w_1381 rfl (fun x8 => ?_)
    refine s_aloadn (j := 0) dX12_checks_20 rfl ?_
    refine s_getI (k := 32) cls_13 (by decide) rfl dX12_checks_21 w_1380 rfl (fun x9 => ?_)
    refine s_iloadn (j := 2) dX12_checks_24 rfl ?_
    refine s_cSI (rest := []) (met_X12_endOf l x8 x9 v2) mth_X12_endOf rfl dX12_checks_25 w_1706 w_1707 ⟨Nat.le_of_ble_eq_true rfl, Nat.le_of_ble_eq_true rfl⟩ (Nat.le_of_ble_eq_true rfl) rfl (fun x10 => ?_)
    refine s_istoren (lv' := [(3, .inl x10), (0, .inr (.inr v0)), (1, .inl v1), (2, .inl v2)]) dX12_checks_28 (Nat.le_of_ble_eq_true rfl) rfl ?_
    refine s_aloadn (j := 1) dX12_checks_29 rfl ?_
    refine s_aloadn (j := 1) dX12_checks_30 rfl ?_
    refine s_getR (k := 33) cls_13 (by decide) rfl dX12_checks_31 w_1381 rfl (fun x11 => ?_)
    refine s_aloadn (j := 1) dX12_checks_34 rfl ?_
    refine s_getI (k := 32) cls_13 (by decide) rfl dX12_checks_35 w_1380 rfl (fun x12 => ?_)
    refine s_iloadn (j := 0) dX12_checks_38 rfl ?_
    refine s_iloadn (j := 3) dX12_checks_39 rfl ?_
    refine s_iloadn (j := 0) dX12_checks_40 rfl ?_
    refine s_cVI (rest := []) (met_X12_like l v0 x11 x12 x10 v2 x10) cls_13 mth_X12_like rfl dX12_checks_41 w_1709 w_1711 wp_65 ⟨Nat.le_of_ble_eq_true rfl, Nat.le_of_ble_eq_true rfl⟩ (Nat.le_of_ble_eq_true rfl) rfl (fun x13 => ?_)
    refine s_aloadn (j := 1) dX12_checks_44 rfl ?_
    refine s_aloadn (j := 1) dX12_checks_45 rfl ?_
    refine s_getR (k := 55) cls_13 (by decide) rfl dX12_checks_46 w_1403 rfl (fun x14 => ?_)
    refine s_aloadn (j := 1) dX12_checks_49 rfl ?_
    refine s_getI (k := 56) cls_13 (by decide) rfl dX12_checks_50 w_1404 rfl (fun x15 => ?_)
    refine s_aloadn (j := 1) dX12_checks_53 rfl ?_
    refine s_getI (k := 56) cls_13 (by decide) rfl dX12_checks_54 w_1404 rfl (fun x16 => ?_)
    refine s_iloadn (j := 3) dX12_checks_57 rfl ?_
    refine s_iloadn (j := 0) dX12_checks_58 rfl ?_
    refine s_cVI (rest := [.inl x13]) (met_X12_like l v0 x14 x15 x16 v2 x10) cls_13 mth_X12_like rfl dX12_checks_59 w_1709 w_1711 wp_65 ⟨Nat.le_of_ble_eq_true rfl, Nat.le_of_ble_eq_true rfl⟩ (Nat.le_of_ble_eq_true rfl) rfl (fun x17 => ?_)
    refine s_icmp_le (tgt := 69) dX12_checks_62 (by decide) ?_ ?_
    · refine s_iconst (v := 0) dX12_checks_69 (by decide) ?_
      exact Sim.sub [1, 2, 3, 0] rfl (sim_X12_checks_b70 l r8 hr8 v0 v1 v2 x10 0)
    · refine s_iconst (v := 1) dX12_checks_65 (by decide) ?_
      refine s_goto (tgt := 70) dX12_checks_66 (by decide) ?_
      exact Sim.sub [1, 2, 3, 0] rfl (sim_X12_checks_b70 l r8 hr8 v0 v1 v2 x10 1)
theorem sim_X12_checks_l8 (l : Launch) : ∀ (n : Nat) (v0 : Option Nat) (v1 : Int32) (v2 : Int32), Sim (M_X12_checks l) (zFin zcI) 8 [(0, .inr (.inr v0)), (1, .inl v1), (2, .inl v2)] [] (p_X12_checks_l8 n v0 v1 v2)
  | 0, _, _, _ => s_fl
  | n + 1, v0, v1, v2 => sim_X12_checks_c8 l (p_X12_checks_l8 n) (sim_X12_checks_l8 l n) v0 v1 v2
set_option maxRecDepth 20000 in
theorem sim_X12_checks (l : Launch) (v0 : Option Nat) : Sim (M_X12_checks l) (zFin zcI) 0 [(0, .inr (.inr v0))] [] (p_X12_checks v0) := by
  unfold p_X12_checks
  refine s_aloadn (j := 0) dX12_checks_0 rfl ?_
  refine s_cVV (rest := []) (met_X12_finds l v0) cls_13 mth_X12_finds rfl dX12_checks_1 w_1632 w_1634 wp_52 ⟨Nat.le_of_ble_eq_true rfl, Nat.le_of_ble_eq_true rfl⟩ (Nat.le_of_ble_eq_true rfl) rfl ?_
  refine s_iconst (v := 0) dX12_checks_4 (by decide) ?_
  refine s_istoren (lv' := [(1, .inl 0), (0, .inr (.inr v0))]) dX12_checks_5 (Nat.le_of_ble_eq_true rfl) rfl ?_
  refine s_iconst (v := 0) dX12_checks_6 (by decide) ?_
  refine s_istoren (lv' := [(2, .inl 0), (1, .inl 0), (0, .inr (.inr v0))]) dX12_checks_7 (Nat.le_of_ble_eq_true rfl) rfl ?_
  exact Sim.sub [2, 1, 0] rfl (sim_X12_checks_l8 l zFuel v0 0 0)
theorem met_X12_checks (l : Launch) (v0 : Option Nat) : zMet l yX12_checks cX12_checks 6 (some .int) 3 69 [.inr (.inr v0)] zcI (p_X12_checks v0) :=
  zMet.of (by decide +kernel) (Nat.le_of_ble_eq_true rfl) rfl (sim_X12_checks l v0)
def p_X12_put_b126 (v0 : Option Nat) (v1 : Int32) (v2 : Int32) : ZM Int32 :=
  z_b (z_gR 13 33 v0) fun x1 => z_b (z_sI x1 v1 v2) fun _ => z_b (z_gI 13 32 v0) fun x2 => z_b (z_pI 13 32 v0 (x2 + 1)) fun _ => z_b (z_vr 13 v0 (p_X12_checks v0)) fun x3 => z_rt x3
def p_X12_put_c98 (r98 : Option Nat → Int32 → Int32 → Int32 → ZM Int32) (v0 : Option Nat) (v1 : Int32) (v2 : Int32) (v4 : Int32) : ZM Int32 :=
  if v4 ≤ v1 then (p_X12_put_b126 v0 v1 v2)
  else (z_b (z_gR 13 33 v0) fun x4 => z_b (z_gR 13 33 v0) fun x5 => z_b (z_aI x5 (v4 - 1)) fun x6 => z_b (z_sI x4 v4 x6) fun _ => z_n (v4 + (-1) : Int32) fun y7 => r98 v0 v1 v2 y7)
def p_X12_put_l98 : Nat → Option Nat → Int32 → Int32 → Int32 → ZM Int32
  | 0, _, _, _, _ => z_fl
  | n + 1, v0, v1, v2, v4 => p_X12_put_c98 (p_X12_put_l98 n) v0 v1 v2 v4
def p_X12_put_b76 (v0 : Option Nat) (v1 : Int32) (v2 : Int32) (s0 : Option Nat) (s1 : Int32) : ZM Int32 :=
  z_b (z_pI 13 58 s0 s1) fun _ => z_b (z_gI 13 58 v0) fun x8 => if x8 ≤ 0 then (z_b (z_vr 13 v0 (p_X12_remembers v0)) fun _ => z_b (z_gI 13 32 v0) fun x9 => p_X12_put_l98 zFuel v0 v1 v2 x9)
  else (z_rt 0)
def p_X12_put_b36 (v0 : Option Nat) (v1 : Int32) (v2 : Int32) (s0 : Int32) : ZM Int32 :=
  z_b (z_gI 13 32 v0) fun x10 => z_b (p_X12_in v1 0 x10) fun x11 => if ¬ x11 = 0 then (if ¬ s0 = 0 then (z_b (z_gI 13 32 v0) fun x12 => if ¬ x12 = 100 then (p_X12_put_b76 v0 v1 v2 v0 0)
  else (p_X12_put_b76 v0 v1 v2 v0 3))
  else (p_X12_put_b76 v0 v1 v2 v0 2))
  else (p_X12_put_b76 v0 v1 v2 v0 1)
def p_X12_put_b31 (v0 : Option Nat) (v1 : Int32) (v2 : Int32) : ZM Int32 :=
  p_X12_put_b36 v0 v1 v2 1
def p_X12_put (v0 : Option Nat) (v1 : Int32) (v2 : Int32) : ZM Int32 :=
  z_b (p_X12_isLetter v2) fun x13 => if ¬ x13 = 0 then (p_X12_put_b31 v0 v1 v2)
  else (if v2 = 32 then (p_X12_put_b31 v0 v1 v2)
  else (if v2 = 46 then (p_X12_put_b31 v0 v1 v2)
  else (if v2 = 60 then (p_X12_put_b31 v0 v1 v2)
  else (if ¬ v2 = 62 then (p_X12_put_b36 v0 v1 v2 0)
  else (p_X12_put_b31 v0 v1 v2)))))
abbrev M_X12_put (l : Launch) : ZMe := (l, "SpellScribeModel", cX12_put, 5, 4, 94, (some .int), "put", [])
set_option maxRecDepth 20000 in
theorem sim_X12_put_b126 (l : Launch) (v0 : Option Nat) (v1 : Int32) (v2 : Int32) : Sim (M_X12_put l) (zFin zcI) 126 [(0, .inr (.inr v0)), (1, .inl v1), (2, .inl v2)] [] (p_X12_put_b126 v0 v1 v2) := by
  unfold p_X12_put_b126
  refine s_aloadn (j := 0) dX12_put_126 rfl ?_
  refine s_getR (k := 33) cls_13 (by decide) rfl dX12_put_127 w_1381 rfl (fun x1 => ?_)
  refine s_iloadn (j := 1) dX12_put_130 rfl ?_
  refine s_iloadn (j := 2) dX12_put_131 rfl ?_
  refine s_iast dX12_put_132 ?_
  refine s_aloadn (j := 0) dX12_put_133 rfl ?_
  refine s_dupR dX12_put_134 ?_
  refine s_getI (k := 32) cls_13 (by decide) rfl dX12_put_135 w_1380 rfl (fun x2 => ?_)
  refine s_iconst (v := 1) dX12_put_138 (by decide) ?_
  refine s_iadd dX12_put_139 ?_
  refine s_putI (k := 32) cls_13 (by decide) rfl rfl rfl dX12_put_140 w_1380 rfl ?_
  refine s_aloadn (j := 0) dX12_put_143 rfl ?_
  refine s_cVI (rest := []) (met_X12_checks l v0) cls_13 mth_X12_checks rfl dX12_put_144 w_1702 w_1704 wp_64 ⟨Nat.le_of_ble_eq_true rfl, Nat.le_of_ble_eq_true rfl⟩ (Nat.le_of_ble_eq_true rfl) rfl (fun x3 => ?_)
  exact s_iret dX12_put_147 rfl
set_option maxRecDepth 20000 in
theorem sim_X12_put_c98 (l : Launch) (r98 : Option Nat → Int32 → Int32 → Int32 → ZM Int32) (hr98 : ∀ (v0 : Option Nat) (v1 : Int32) (v2 : Int32) (v4 : Int32), Sim (M_X12_put l) (zFin zcI) 98 [(0, .inr (.inr v0)), (1, .inl v1), (2, .inl v2), (4, .inl v4)] [] (r98 v0 v1 v2 v4)) (v0 : Option Nat) (v1 : Int32) (v2 : Int32) (v4 : Int32) : Sim (M_X12_put l) (zFin zcI) 98 [(0, .inr (.inr v0)), (1, .inl v1), (2, .inl v2), (4, .inl v4)] [] (p_X12_put_c98 r98 v0 v1 v2 v4) := by
  unfold p_X12_put_c98
  refine s_iload (j := 3) dX12_put_98 rfl ?_
  refine s_iloadn (j := 1) dX12_put_100 rfl ?_
  refine s_icmp_le (tgt := 126) dX12_put_101 (by decide) ?_ ?_
  · exact Sim.sub [0, 1, 2] rfl (sim_X12_put_b126 l v0 v1 v2)
  · refine s_aloadn (j := 0) dX12_put_104 rfl ?_
    refine s_getR (k := 33) cls_13 (by decide) rfl dX12_put_105 w_1381 rfl (fun x4 => ?_)
    refine s_iload (j := 3) dX12_put_108 rfl ?_
    refine s_aloadn (j := 0) dX12_put_110 rfl ?_
    refine s_getR (k := 33) cls_13 (by decide) rfl dX12_put_111 w_1381 rfl (fun x5 => ?_)
    refine s_iload (j := 3) dX12_put_114 rfl ?_
    refine s_iconst (v := 1) dX12_put_116 (by decide) ?_
    refine s_isub dX12_put_117 ?_
    refine s_iald dX12_put_118 (fun x6 => ?_)
    refine s_iast dX12_put_119 ?_
    refine s_n0 (fun y7 hy7 => ?_)
    refine s_iinc (j := 3) (v := y7) (d := (-1)) (lv' := [(4, .inl y7), (0, .inr (.inr v0)), (1, .inl v1), (2, .inl v2)]) dX12_put_120 rfl (by decide) hy7 (Nat.le_of_ble_eq_true rfl) rfl ?_
    refine s_goto (tgt := 98) dX12_put_123 (by decide) ?_
    exact Sim.sub [1, 2, 3, 0] rfl (hr98 v0 v1 v2 y7)
theorem sim_X12_put_l98 (l : Launch) : ∀ (n : Nat) (v0 : Option Nat) (v1 : Int32) (v2 : Int32) (v4 : Int32), Sim (M_X12_put l) (zFin zcI) 98 [(0, .inr (.inr v0)), (1, .inl v1), (2, .inl v2), (4, .inl v4)] [] (p_X12_put_l98 n v0 v1 v2 v4)
  | 0, _, _, _, _ => s_fl
  | n + 1, v0, v1, v2, v4 => sim_X12_put_c98 l (p_X12_put_l98 n) (sim_X12_put_l98 l n) v0 v1 v2 v4
set_option maxRecDepth 20000 in
theorem sim_X12_put_b76 (l : Launch) (v0 : Option Nat) (v1 : Int32) (v2 : Int32) (s0 : Option Nat) (s1 : Int32) : Sim (M_X12_put l) (zFin zcI) 76 [(0, .inr (.inr v0)), (1, .inl v1), (2, .inl v2)] [.inl s1, .inr (.inr s0)] (p_X12_put_b76 v0 v1 v2 s0 s1) := by
  unfold p_X12_put_b76
  refine s_putI (k := 58) cls_13 (by decide) rfl rfl rfl dX12_put_76 w_1406 rfl ?_
  refine s_aloadn (j := 0) dX12_put_79 rfl ?_
  refine s_getI (k := 58) cls_13 (by decide) rfl dX12_put_80 w_1406 rfl (fun x8 => ?_)
  refine s_if_le (tgt := 88) dX12_put_83 (by decide) ?_ ?_
  · refine s_aloadn (j := 0) dX12_put_88 rfl ?_
    refine s_cVV (rest := []) (met_X12_remembers l v0) cls_13 mth_X12_remembers rfl dX12_put_89 w_1698 w_1700 wp_63 ⟨Nat.le_of_ble_eq_true rfl, Nat.le_of_ble_eq_true rfl⟩ (Nat.le_of_ble_eq_true rfl) rfl ?_
    refine s_aloadn (j := 0) dX12_put_92 rfl ?_
    refine s_getI (k := 32) cls_13 (by decide) rfl dX12_put_93 w_1380 rfl (fun x9 => ?_)
    refine s_istore (lv' := [(4, .inl x9), (0, .inr (.inr v0)), (1, .inl v1), (2, .inl v2)]) dX12_put_96 (Nat.le_of_ble_eq_true rfl) rfl ?_
    exact Sim.sub [1, 2, 3, 0] rfl (sim_X12_put_l98 l zFuel v0 v1 v2 x9)
  · refine s_iconst (v := 0) dX12_put_86 (by decide) ?_
    exact s_iret dX12_put_87 rfl
set_option maxRecDepth 20000 in
theorem sim_X12_put_b36 (l : Launch) (v0 : Option Nat) (v1 : Int32) (v2 : Int32) (s0 : Int32) : Sim (M_X12_put l) (zFin zcI) 36 [(0, .inr (.inr v0)), (1, .inl v1), (2, .inl v2)] [.inl s0] (p_X12_put_b36 v0 v1 v2 s0) := by
  unfold p_X12_put_b36
  refine s_istoren (lv' := [(3, .inl s0), (0, .inr (.inr v0)), (1, .inl v1), (2, .inl v2)]) dX12_put_36 (Nat.le_of_ble_eq_true rfl) rfl ?_
  refine s_aloadn (j := 1) dX12_put_37 rfl ?_
  refine s_iloadn (j := 2) dX12_put_38 rfl ?_
  refine s_iconst (v := 0) dX12_put_39 (by decide) ?_
  refine s_aloadn (j := 1) dX12_put_40 rfl ?_
  refine s_getI (k := 32) cls_13 (by decide) rfl dX12_put_41 w_1380 rfl (fun x10 => ?_)
  refine s_cSI (rest := [.inr (.inr v0)]) (met_X12_in l v1 0 x10) mth_X12_in rfl dX12_put_44 w_1535 w_1536 ⟨Nat.le_of_ble_eq_true rfl, Nat.le_of_ble_eq_true rfl⟩ (Nat.le_of_ble_eq_true rfl) rfl (fun x11 => ?_)
  refine s_if_ne (tgt := 54) dX12_put_47 (by decide) ?_ ?_
  · refine s_iloadn (j := 0) dX12_put_54 rfl ?_
    refine s_if_ne (tgt := 62) dX12_put_55 (by decide) ?_ ?_
    · refine s_aloadn (j := 1) dX12_put_62 rfl ?_
      refine s_getI (k := 32) cls_13 (by decide) rfl dX12_put_63 w_1380 rfl (fun x12 => ?_)
      refine s_bipush (v := 100) dX12_put_66 (by decide) ?_
      refine s_icmp_ne (tgt := 75) dX12_put_68 (by decide) ?_ ?_
      · refine s_iconst (v := 0) dX12_put_75 (by decide) ?_
        exact Sim.sub [1, 2, 3] rfl (sim_X12_put_b76 l v0 v1 v2 v0 0)
      · refine s_iconst (v := 3) dX12_put_71 (by decide) ?_
        refine s_goto (tgt := 76) dX12_put_72 (by decide) ?_
        exact Sim.sub [1, 2, 3] rfl (sim_X12_put_b76 l v0 v1 v2 v0 3)
    · refine s_iconst (v := 2) dX12_put_58 (by decide) ?_
      refine s_goto (tgt := 76) dX12_put_59 (by decide) ?_
      exact Sim.sub [1, 2, 3] rfl (sim_X12_put_b76 l v0 v1 v2 v0 2)
  · refine s_iconst (v := 1) dX12_put_50 (by decide) ?_
    refine s_goto (tgt := 76) dX12_put_51 (by decide) ?_
    exact Sim.sub [1, 2, 3] rfl (sim_X12_put_b76 l v0 v1 v2 v0 1)
set_option maxRecDepth 20000 in
theorem sim_X12_put_b31 (l : Launch) (v0 : Option Nat) (v1 : Int32) (v2 : Int32) : Sim (M_X12_put l) (zFin zcI) 31 [(0, .inr (.inr v0)), (1, .inl v1), (2, .inl v2)] [] (p_X12_put_b31 v0 v1 v2) := by
  unfold p_X12_put_b31
  refine s_iconst (v := 1) dX12_put_31 (by decide) ?_
  refine s_goto (tgt := 36) dX12_put_32 (by decide) ?_
  exact Sim.sub [0, 1, 2] rfl (sim_X12_put_b36 l v0 v1 v2 1)
set_option maxRecDepth 20000 in
theorem sim_X12_put (l : Launch) (v0 : Option Nat) (v1 : Int32) (v2 : Int32) : Sim (M_X12_put l) (zFin zcI) 0 [(0, .inr (.inr v0)), (1, .inl v1), (2, .inl v2)] [] (p_X12_put v0 v1 v2) := by
  unfold p_X12_put
  refine s_iloadn (j := 2) dX12_put_0 rfl ?_
  refine s_cSI (rest := []) (met_X12_isLetter l v2) mth_X12_isLetter rfl dX12_put_1 w_1636 w_1637 ⟨Nat.le_of_ble_eq_true rfl, Nat.le_of_ble_eq_true rfl⟩ (Nat.le_of_ble_eq_true rfl) rfl (fun x13 => ?_)
  refine s_if_ne (tgt := 31) dX12_put_4 (by decide) ?_ ?_
  · exact Sim.sub [0, 1, 2] rfl (sim_X12_put_b31 l v0 v1 v2)
  · refine s_iloadn (j := 2) dX12_put_7 rfl ?_
    refine s_bipush (v := 32) dX12_put_8 (by decide) ?_
    refine s_icmp_eq (tgt := 31) dX12_put_10 (by decide) ?_ ?_
    · exact Sim.sub [0, 1, 2] rfl (sim_X12_put_b31 l v0 v1 v2)
    · refine s_iloadn (j := 2) dX12_put_13 rfl ?_
      refine s_bipush (v := 46) dX12_put_14 (by decide) ?_
      refine s_icmp_eq (tgt := 31) dX12_put_16 (by decide) ?_ ?_
      · exact Sim.sub [0, 1, 2] rfl (sim_X12_put_b31 l v0 v1 v2)
      · refine s_iloadn (j := 2) dX12_put_19 rfl ?_
        refine s_bipush (v := 60) dX12_put_20 (by decide) ?_
        refine s_icmp_eq (tgt := 31) dX12_put_22 (by decide) ?_ ?_
        · exact Sim.sub [0, 1, 2] rfl (sim_X12_put_b31 l v0 v1 v2)
        · refine s_iloadn (j := 2) dX12_put_25 rfl ?_
          refine s_bipush (v := 62) dX12_put_26 (by decide) ?_
          refine s_icmp_ne (tgt := 35) dX12_put_28 (by decide) ?_ ?_
          · refine s_iconst (v := 0) dX12_put_35 (by decide) ?_
            exact Sim.sub [0, 1, 2] rfl (sim_X12_put_b36 l v0 v1 v2 0)
          · exact Sim.sub [0, 1, 2] rfl (sim_X12_put_b31 l v0 v1 v2)
theorem met_X12_put (l : Launch) (v0 : Option Nat) (v1 : Int32) (v2 : Int32) : zMet l yX12_put cX12_put 5 (some .int) 4 94 [.inr (.inr v0), .inl v1, .inl v2] zcI (p_X12_put v0 v1 v2) :=
  zMet.of (by decide +kernel) (Nat.le_of_ble_eq_true rfl) rfl (sim_X12_put l v0 v1 v2)
def p_X12_take_b76 (v0 : Option Nat) : ZM Int32 :=
  z_b (z_vr 13 v0 (p_X12_checks v0)) fun x1 => z_rt x1
def p_X12_take_c48 (r48 : Option Nat → Int32 → ZM Int32) (v0 : Option Nat) (v2 : Int32) : ZM Int32 :=
  z_b (z_gI 13 32 v0) fun x2 => if x2 ≤ v2 then (p_X12_take_b76 v0)
  else (z_b (z_gR 13 33 v0) fun x3 => z_b (z_gR 13 33 v0) fun x4 => z_b (z_aI x4 (v2 + 1)) fun x5 => z_b (z_sI x3 v2 x5) fun _ => z_n (v2 + 1 : Int32) fun y6 => r48 v0 y6)
def p_X12_take_l48 : Nat → Option Nat → Int32 → ZM Int32
  | 0, _, _ => z_fl
  | n + 1, v0, v2 => p_X12_take_c48 (p_X12_take_l48 n) v0 v2
def p_X12_take_b20 (v0 : Option Nat) (v1 : Int32) (s0 : Option Nat) (s1 : Int32) : ZM Int32 :=
  z_b (z_pI 13 58 s0 s1) fun _ => z_b (z_gI 13 58 v0) fun x7 => if x7 ≤ 0 then (z_b (z_vr 13 v0 (p_X12_remembers v0)) fun _ => z_b (z_gI 13 32 v0) fun x8 => z_b (z_pI 13 32 v0 (x8 - 1)) fun _ => p_X12_take_l48 zFuel v0 v1)
  else (z_rt 0)
def p_X12_take (v0 : Option Nat) (v1 : Int32) : ZM Int32 :=
  z_b (z_gI 13 32 v0) fun x9 => z_b (p_X12_in v1 0 (x9 - 1)) fun x10 => if x10 = 0 then (p_X12_take_b20 v0 v1 v0 1)
  else (p_X12_take_b20 v0 v1 v0 0)
abbrev M_X12_take (l : Launch) : ZMe := (l, "SpellScribeModel", cX12_take, 3, 4, 94, (some .int), "take", [])
set_option maxRecDepth 20000 in
theorem sim_X12_take_b76 (l : Launch) (v0 : Option Nat) : Sim (M_X12_take l) (zFin zcI) 76 [(0, .inr (.inr v0))] [] (p_X12_take_b76 v0) := by
  unfold p_X12_take_b76
  refine s_aloadn (j := 0) dX12_take_76 rfl ?_
  refine s_cVI (rest := []) (met_X12_checks l v0) cls_13 mth_X12_checks rfl dX12_take_77 w_1702 w_1704 wp_64 ⟨Nat.le_of_ble_eq_true rfl, Nat.le_of_ble_eq_true rfl⟩ (Nat.le_of_ble_eq_true rfl) rfl (fun x1 => ?_)
  exact s_iret dX12_take_80 rfl
set_option maxRecDepth 20000 in
theorem sim_X12_take_c48 (l : Launch) (r48 : Option Nat → Int32 → ZM Int32) (hr48 : ∀ (v0 : Option Nat) (v2 : Int32), Sim (M_X12_take l) (zFin zcI) 48 [(0, .inr (.inr v0)), (2, .inl v2)] [] (r48 v0 v2)) (v0 : Option Nat) (v2 : Int32) : Sim (M_X12_take l) (zFin zcI) 48 [(0, .inr (.inr v0)), (2, .inl v2)] [] (p_X12_take_c48 r48 v0 v2) := by
  unfold p_X12_take_c48
  refine s_iloadn (j := 1) dX12_take_48 rfl ?_
  refine s_aloadn (j := 0) dX12_take_49 rfl ?_
  refine s_getI (k := 32) cls_13 (by decide) rfl dX12_take_50 w_1380 rfl (fun x2 => ?_)
  refine s_icmp_ge (tgt := 76) dX12_take_53 (by decide) ?_ ?_
  · exact Sim.sub [0] rfl (sim_X12_take_b76 l v0)
  · refine s_aloadn (j := 0) dX12_take_56 rfl ?_
    refine s_getR (k := 33) cls_13 (by decide) rfl dX12_take_57 w_1381 rfl (fun x3 => ?_)
    refine s_iloadn (j := 1) dX12_take_60 rfl ?_
    refine s_aloadn (j := 0) dX12_take_61 rfl ?_
    refine s_getR (k := 33) cls_13 (by decide) rfl dX12_take_62 w_1381 rfl (fun x4 => ?_)
    refine s_iloadn (j := 1) dX12_take_65 rfl ?_
    refine s_iconst (v := 1) dX12_take_66 (by decide) ?_
    refine s_iadd dX12_take_67 ?_
    refine s_iald dX12_take_68 (fun x5 => ?_)
    refine s_iast dX12_take_69 ?_
    refine s_n0 (fun y6 hy6 => ?_)
    refine s_iinc (j := 1) (v := y6) (d := 1) (lv' := [(2, .inl y6), (0, .inr (.inr v0))]) dX12_take_70 rfl (by decide) hy6 (Nat.le_of_ble_eq_true rfl) rfl ?_
    refine s_goto (tgt := 48) dX12_take_73 (by decide) ?_
    exact Sim.sub [1, 0] rfl (hr48 v0 y6)
theorem sim_X12_take_l48 (l : Launch) : ∀ (n : Nat) (v0 : Option Nat) (v2 : Int32), Sim (M_X12_take l) (zFin zcI) 48 [(0, .inr (.inr v0)), (2, .inl v2)] [] (p_X12_take_l48 n v0 v2)
  | 0, _, _ => s_fl
  | n + 1, v0, v2 => sim_X12_take_c48 l (p_X12_take_l48 n) (sim_X12_take_l48 l n) v0 v2
set_option maxRecDepth 20000 in
theorem sim_X12_take_b20 (l : Launch) (v0 : Option Nat) (v1 : Int32) (s0 : Option Nat) (s1 : Int32) : Sim (M_X12_take l) (zFin zcI) 20 [(0, .inr (.inr v0)), (1, .inl v1)] [.inl s1, .inr (.inr s0)] (p_X12_take_b20 v0 v1 s0 s1) := by
  unfold p_X12_take_b20
  refine s_putI (k := 58) cls_13 (by decide) rfl rfl rfl dX12_take_20 w_1406 rfl ?_
  refine s_aloadn (j := 0) dX12_take_23 rfl ?_
  refine s_getI (k := 58) cls_13 (by decide) rfl dX12_take_24 w_1406 rfl (fun x7 => ?_)
  refine s_if_le (tgt := 32) dX12_take_27 (by decide) ?_ ?_
  · refine s_aloadn (j := 0) dX12_take_32 rfl ?_
    refine s_cVV (rest := []) (met_X12_remembers l v0) cls_13 mth_X12_remembers rfl dX12_take_33 w_1698 w_1700 wp_63 ⟨Nat.le_of_ble_eq_true rfl, Nat.le_of_ble_eq_true rfl⟩ (Nat.le_of_ble_eq_true rfl) rfl ?_
    refine s_aloadn (j := 0) dX12_take_36 rfl ?_
    refine s_dupR dX12_take_37 ?_
    refine s_getI (k := 32) cls_13 (by decide) rfl dX12_take_38 w_1380 rfl (fun x8 => ?_)
    refine s_iconst (v := 1) dX12_take_41 (by decide) ?_
    refine s_isub dX12_take_42 ?_
    refine s_putI (k := 32) cls_13 (by decide) rfl rfl rfl dX12_take_43 w_1380 rfl ?_
    refine s_iloadn (j := 1) dX12_take_46 rfl ?_
    refine s_istoren (lv' := [(2, .inl v1), (0, .inr (.inr v0)), (1, .inl v1)]) dX12_take_47 (Nat.le_of_ble_eq_true rfl) rfl ?_
    exact Sim.sub [1, 0] rfl (sim_X12_take_l48 l zFuel v0 v1)
  · refine s_iconst (v := 0) dX12_take_30 (by decide) ?_
    exact s_iret dX12_take_31 rfl
set_option maxRecDepth 20000 in
theorem sim_X12_take (l : Launch) (v0 : Option Nat) (v1 : Int32) : Sim (M_X12_take l) (zFin zcI) 0 [(0, .inr (.inr v0)), (1, .inl v1)] [] (p_X12_take v0 v1) := by
  unfold p_X12_take
  refine s_aloadn (j := 0) dX12_take_0 rfl ?_
  refine s_iloadn (j := 1) dX12_take_1 rfl ?_
  refine s_iconst (v := 0) dX12_take_2 (by decide) ?_
  refine s_aloadn (j := 0) dX12_take_3 rfl ?_
  refine s_getI (k := 32) cls_13 (by decide) rfl dX12_take_4 w_1380 rfl (fun x9 => ?_)
  refine s_iconst (v := 1) dX12_take_7 (by decide) ?_
  refine s_isub dX12_take_8 ?_
  refine s_cSI (rest := [.inr (.inr v0)]) (met_X12_in l v1 0 (x9 - 1)) mth_X12_in rfl dX12_take_9 w_1535 w_1536 ⟨Nat.le_of_ble_eq_true rfl, Nat.le_of_ble_eq_true rfl⟩ (Nat.le_of_ble_eq_true rfl) rfl (fun x10 => ?_)
  refine s_if_eq (tgt := 19) dX12_take_12 (by decide) ?_ ?_
  · refine s_iconst (v := 1) dX12_take_19 (by decide) ?_
    exact Sim.sub [0, 1] rfl (sim_X12_take_b20 l v0 v1 v0 1)
  · refine s_iconst (v := 0) dX12_take_15 (by decide) ?_
    refine s_goto (tgt := 20) dX12_take_16 (by decide) ?_
    exact Sim.sub [0, 1] rfl (sim_X12_take_b20 l v0 v1 v0 0)
theorem met_X12_take (l : Launch) (v0 : Option Nat) (v1 : Int32) : zMet l yX12_take cX12_take 3 (some .int) 4 94 [.inr (.inr v0), .inl v1] zcI (p_X12_take v0 v1) :=
  zMet.of (by decide +kernel) (Nat.le_of_ble_eq_true rfl) rfl (sim_X12_take l v0 v1)
def p_X12_least (v0 : Int32) (v1 : Int32) : ZM Int32 :=
  if v1 ≤ v0 then (z_rt v1)
  else (z_rt v0)
abbrev M_X12_least (l : Launch) : ZMe := (l, "SpellScribeModel", cX12_least, 2, 0, 0, (some .int), "least", [])
set_option maxRecDepth 20000 in
theorem sim_X12_least (l : Launch) (v0 : Int32) (v1 : Int32) : Sim (M_X12_least l) (zFin zcI) 0 [(0, .inl v0), (1, .inl v1)] [] (p_X12_least v0 v1) := by
  unfold p_X12_least
  refine s_iloadn (j := 0) dX12_least_0 rfl ?_
  refine s_iloadn (j := 1) dX12_least_1 rfl ?_
  refine s_icmp_ge (tgt := 9) dX12_least_2 (by decide) ?_ ?_
  · refine s_iloadn (j := 1) dX12_least_9 rfl ?_
    exact s_iret dX12_least_10 rfl
  · refine s_iloadn (j := 0) dX12_least_5 rfl ?_
    refine s_goto (tgt := 10) dX12_least_6 (by decide) ?_
    exact s_iret dX12_least_10 rfl
theorem met_X12_least (l : Launch) (v0 : Int32) (v1 : Int32) : zMet l yX12_least cX12_least 2 (some .int) 0 0 [.inl v0, .inl v1] zcI (p_X12_least v0 v1) :=
  zMet.of (by decide +kernel) (Nat.le_of_ble_eq_true rfl) rfl (sim_X12_least l v0 v1)
