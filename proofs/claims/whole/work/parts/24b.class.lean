def p_X9_firstWordOf (v0 : Option Nat) (v1 : Int32) : ZM Int32 :=
  z_b (z_gR 10 5 v0) fun x1 => z_b (z_vr 5 x1 (p_X4_get x1 v1)) fun x2 => z_rt x2
abbrev M_X9_firstWordOf (l : Launch) : ZMe := (l, "SpellScribe$Text", cX9_firstWordOf, 2, 1, 21, (some .int), "firstWordOf", [])
set_option maxRecDepth 20000 in
theorem sim_X9_firstWordOf (l : Launch) (v0 : Option Nat) (v1 : Int32) : Sim (M_X9_firstWordOf l) (zFin zcI) 0 [(0, .inr (.inr v0)), (1, .inl v1)] [] (p_X9_firstWordOf v0 v1) := by
  unfold p_X9_firstWordOf
  refine s_aloadn (j := 0) dX9_firstWordOf_0 rfl ?_
  refine s_getR (k := 5) cls_10 (by decide) rfl dX9_firstWordOf_1 w_183 rfl (fun x1 => ?_)
  refine s_iloadn (j := 1) dX9_firstWordOf_4 rfl ?_
  refine s_cVI (rest := []) (met_X4_get l x1 v1) cls_5 mth_X4_get rfl dX9_firstWordOf_5 w_354 w_355 w_356 ⟨Nat.le_of_ble_eq_true rfl, Nat.le_of_ble_eq_true rfl⟩ (Nat.le_of_ble_eq_true rfl) rfl (fun x2 => ?_)
  exact s_iret dX9_firstWordOf_8 rfl
theorem met_X9_firstWordOf (l : Launch) (v0 : Option Nat) (v1 : Int32) : zMet l yX9_firstWordOf cX9_firstWordOf 2 (some .int) 1 21 [.inr (.inr v0), .inl v1] zcI (p_X9_firstWordOf v0 v1) :=
  zMet.of (by decide +kernel) (Nat.le_of_ble_eq_true rfl) rfl (sim_X9_firstWordOf l v0 v1)
def p_X3_markBroken_b65 (r3 : Option Nat → Option Nat → Int32 → Int32 → Int32 → ZM Unit) (v0 : Option Nat) (v1 : Option Nat) (v2 : Int32) (v3 : Int32) (v4 : Int32) (s0 : Option Nat) (s1 : Int32) (s2 : Int32) : ZM Unit :=
  z_b (z_vr 5 s0 (p_X4_set s0 s1 s2)) fun _ => z_n (v4 + 1 : Int32) fun y1 => r3 v0 v1 v2 v3 y1
def p_X3_markBroken_b47 (r3 : Option Nat → Option Nat → Int32 → Int32 → Int32 → ZM Unit) (v0 : Option Nat) (v1 : Option Nat) (v2 : Int32) (v3 : Int32) (v4 : Int32) (s0 : Int32) : ZM Unit :=
  z_b (z_gR 4 3 v0) fun x2 => if s0 = 0 then (p_X3_markBroken_b65 r3 v0 v1 v2 v3 v4 x2 v4 0)
  else (p_X3_markBroken_b65 r3 v0 v1 v2 v3 v4 x2 v4 1)
def p_X3_markBroken_b46 (r3 : Option Nat → Option Nat → Int32 → Int32 → Int32 → ZM Unit) (v0 : Option Nat) (v1 : Option Nat) (v2 : Int32) (v3 : Int32) (v4 : Int32) : ZM Unit :=
  p_X3_markBroken_b47 r3 v0 v1 v2 v3 v4 0
def p_X3_markBroken_c3 (r3 : Option Nat → Option Nat → Int32 → Int32 → Int32 → ZM Unit) (v0 : Option Nat) (v1 : Option Nat) (v2 : Int32) (v3 : Int32) (v4 : Int32) : ZM Unit :=
  if v3 ≤ v4 then (z_rt ())
  else (if v4 ≤ v2 then (p_X3_markBroken_b46 r3 v0 v1 v2 v3 v4)
  else (z_b (z_gR 4 1 v0) fun x3 => z_b (z_vr 5 x3 (p_X4_get x3 (v4 - 1))) fun x4 => z_b (z_gR 4 1 v0) fun x5 => z_b (z_vr 5 x5 (p_X4_get x5 v4)) fun x6 => z_b (z_vr 1 v1 (p_X0_isBroken v1 x4 x6)) fun x7 => if x7 = 0 then (p_X3_markBroken_b46 r3 v0 v1 v2 v3 v4)
  else (p_X3_markBroken_b47 r3 v0 v1 v2 v3 v4 1)))
def p_X3_markBroken_l3 : Nat → Option Nat → Option Nat → Int32 → Int32 → Int32 → ZM Unit
  | 0, _, _, _, _, _ => z_fl
  | n + 1, v0, v1, v2, v3, v4 => p_X3_markBroken_c3 (p_X3_markBroken_l3 n) v0 v1 v2 v3 v4
def p_X3_markBroken (v0 : Option Nat) (v1 : Option Nat) (v2 : Int32) (v3 : Int32) : ZM Unit :=
  p_X3_markBroken_l3 zFuel v0 v1 v2 v3 v2
abbrev M_X3_markBroken (l : Launch) : ZMe := (l, "SpellScribe$Proof", cX3_markBroken, 6, 2, 44, none, "markBroken", [])
set_option maxRecDepth 20000 in
theorem sim_X3_markBroken_b65 (l : Launch) (r3 : Option Nat → Option Nat → Int32 → Int32 → Int32 → ZM Unit) (hr3 : ∀ (v0 : Option Nat) (v1 : Option Nat) (v2 : Int32) (v3 : Int32) (v4 : Int32), Sim (M_X3_markBroken l) (zFin zcV) 3 [(0, .inr (.inr v0)), (1, .inr (.inr v1)), (2, .inl v2), (3, .inl v3), (4, .inl v4)] [] (r3 v0 v1 v2 v3 v4)) (v0 : Option Nat) (v1 : Option Nat) (v2 : Int32) (v3 : Int32) (v4 : Int32) (s0 : Option Nat) (s1 : Int32) (s2 : Int32) : Sim (M_X3_markBroken l) (zFin zcV) 65 [(0, .inr (.inr v0)), (1, .inr (.inr v1)), (2, .inl v2), (3, .inl v3), (4, .inl v4)] [.inl s2, .inl s1, .inr (.inr s0)] (p_X3_markBroken_b65 r3 v0 v1 v2 v3 v4 s0 s1 s2) := by
  unfold p_X3_markBroken_b65
  refine s_cVV (rest := []) (met_X4_set l s0 s1 s2) cls_5 mth_X4_set rfl dX3_markBroken_65 w_410 w_347 w_348 ⟨Nat.le_of_ble_eq_true rfl, Nat.le_of_ble_eq_true rfl⟩ (Nat.le_of_ble_eq_true rfl) rfl ?_
  refine s_n0 (fun y1 hy1 => ?_)
  refine s_iinc (j := 4) (v := y1) (d := 1) (lv' := [(4, .inl y1), (0, .inr (.inr v0)), (1, .inr (.inr v1)), (2, .inl v2), (3, .inl v3)]) dX3_markBroken_68 rfl (by decide) hy1 (Nat.le_of_ble_eq_true rfl) rfl ?_
  refine s_goto (tgt := 3) dX3_markBroken_71 (by decide) ?_
  exact Sim.sub [1, 2, 3, 4, 0] rfl (hr3 v0 v1 v2 v3 y1)
set_option maxRecDepth 20000 in
theorem sim_X3_markBroken_b47 (l : Launch) (r3 : Option Nat → Option Nat → Int32 → Int32 → Int32 → ZM Unit) (hr3 : ∀ (v0 : Option Nat) (v1 : Option Nat) (v2 : Int32) (v3 : Int32) (v4 : Int32), Sim (M_X3_markBroken l) (zFin zcV) 3 [(0, .inr (.inr v0)), (1, .inr (.inr v1)), (2, .inl v2), (3, .inl v3), (4, .inl v4)] [] (r3 v0 v1 v2 v3 v4)) (v0 : Option Nat) (v1 : Option Nat) (v2 : Int32) (v3 : Int32) (v4 : Int32) (s0 : Int32) : Sim (M_X3_markBroken l) (zFin zcV) 47 [(0, .inr (.inr v0)), (1, .inr (.inr v1)), (2, .inl v2), (3, .inl v3), (4, .inl v4)] [.inl s0] (p_X3_markBroken_b47 r3 v0 v1 v2 v3 v4 s0) := by
  unfold p_X3_markBroken_b47
  refine s_istore (lv' := [(5, .inl s0), (0, .inr (.inr v0)), (1, .inr (.inr v1)), (2, .inl v2), (3, .inl v3), (4, .inl v4)]) dX3_markBroken_47 (Nat.le_of_ble_eq_true rfl) rfl ?_
  refine s_aloadn (j := 1) dX3_markBroken_49 rfl ?_
  refine s_getR (k := 3) cls_4 (by decide) rfl dX3_markBroken_50 w_235 rfl (fun x2 => ?_)
  refine s_iload (j := 5) dX3_markBroken_53 rfl ?_
  refine s_iload (j := 0) dX3_markBroken_55 rfl ?_
  refine s_if_eq (tgt := 64) dX3_markBroken_57 (by decide) ?_ ?_
  · refine s_iconst (v := 0) dX3_markBroken_64 (by decide) ?_
    exact Sim.sub [1, 2, 3, 4, 5] rfl (sim_X3_markBroken_b65 l r3 hr3 v0 v1 v2 v3 v4 x2 v4 0)
  · refine s_iconst (v := 1) dX3_markBroken_60 (by decide) ?_
    refine s_goto (tgt := 65) dX3_markBroken_61 (by decide) ?_
    exact Sim.sub [1, 2, 3, 4, 5] rfl (sim_X3_markBroken_b65 l r3 hr3 v0 v1 v2 v3 v4 x2 v4 1)
set_option maxRecDepth 20000 in
theorem sim_X3_markBroken_b46 (l : Launch) (r3 : Option Nat → Option Nat → Int32 → Int32 → Int32 → ZM Unit) (hr3 : ∀ (v0 : Option Nat) (v1 : Option Nat) (v2 : Int32) (v3 : Int32) (v4 : Int32), Sim (M_X3_markBroken l) (zFin zcV) 3 [(0, .inr (.inr v0)), (1, .inr (.inr v1)), (2, .inl v2), (3, .inl v3), (4, .inl v4)] [] (r3 v0 v1 v2 v3 v4)) (v0 : Option Nat) (v1 : Option Nat) (v2 : Int32) (v3 : Int32) (v4 : Int32) : Sim (M_X3_markBroken l) (zFin zcV) 46 [(0, .inr (.inr v0)), (1, .inr (.inr v1)), (2, .inl v2), (3, .inl v3), (4, .inl v4)] [] (p_X3_markBroken_b46 r3 v0 v1 v2 v3 v4) := by
  unfold p_X3_markBroken_b46
  refine s_iconst (v := 0) dX3_markBroken_46 (by decide) ?_
  exact Sim.sub [0, 1, 2, 3, 4] rfl (sim_X3_markBroken_b47 l r3 hr3 v0 v1 v2 v3 v4 0)
set_option maxRecDepth 20000 in
theorem sim_X3_markBroken_c3 (l : Launch) (r3 : Option Nat → Option Nat → Int32 → Int32 → Int32 → ZM Unit) (hr3 : ∀ (v0 : Option Nat) (v1 : Option Nat) (v2 : Int32) (v3 : Int32) (v4 : Int32), Sim (M_X3_markBroken l) (zFin zcV) 3 [(0, .inr (.inr v0)), (1, .inr (.inr v1)), (2, .inl v2), (3, .inl v3), (4, .inl v4)] [] (r3 v0 v1 v2 v3 v4)) (v0 : Option Nat) (v1 : Option Nat) (v2 : Int32) (v3 : Int32) (v4 : Int32) : Sim (M_X3_markBroken l) (zFin zcV) 3 [(0, .inr (.inr v0)), (1, .inr (.inr v1)), (2, .inl v2), (3, .inl v3), (4, .inl v4)] [] (p_X3_markBroken_c3 r3 v0 v1 v2 v3 v4) := by
  unfold p_X3_markBroken_c3
  refine s_iload (j := 4) dX3_markBroken_3 rfl ?_
  refine s_iloadn (j := 3) dX3_markBroken_5 rfl ?_
  refine s_icmp_ge (tgt := 74) dX3_markBroken_6 (by decide) ?_ ?_
  · exact s_vret dX3_markBroken_74 rfl
  · refine s_iload (j := 4) dX3_markBroken_9 rfl ?_
    refine s_iloadn (j := 2) dX3_markBroken_11 rfl ?_
    refine s_icmp_le (tgt := 46) dX3_markBroken_12 (by decide) ?_ ?_
    · exact Sim.sub [0, 1, 2, 3, 4] rfl (sim_X3_markBroken_b46 l r3 hr3 v0 v1 v2 v3 v4)
    · refine s_aloadn (j := 1) dX3_markBroken_15 rfl ?_
      refine s_aloadn (j := 0) dX3_markBroken_16 rfl ?_
      refine s_getR (k := 1) cls_4 (by decide) rfl dX3_markBroken_17 w_233 rfl (fun x3 => ?_)
      refine s_iload (j := 4) dX3_markBroken_20 rfl ?_
      refine s_iconst (v := 1) dX3_markBroken_22 (by decide) ?_
      refine s_isub dX3_markBroken_23 ?_
      refine s_cVI (rest := [.inr (.inr v1)]) (met_X4_get l x3 (v4 - 1)) cls_5 mth_X4_get rfl dX3_markBroken_24 w_450 w_355 w_356 ⟨Nat.le_of_ble_eq_true rfl, Nat.le_of_ble_eq_true rfl⟩ (Nat.le_of_ble_eq_true rfl) rfl (fun x4 => ?_)
      refine s_aloadn (j := 0) dX3_markBroken_27 rfl ?_
      refine s_getR (k := 1) cls_4 (by decide) rfl dX3_markBroken_28 w_233 rfl (fun x5 => ?_)
      refine s_iload (j := 4) dX3_markBroken_31 rfl ?_
      refine s_cVI (rest := [.inl x4, .inr (.inr v1)]) (met_X4_get l x5 v4) cls_5 mth_X4_get rfl dX3_markBroken_33 w_450 w_355 w_356 ⟨Nat.le_of_ble_eq_true rfl, Nat.le_of_ble_eq_true rfl⟩ (Nat.le_of_ble_eq_true rfl) rfl (fun x6 => ?_)
      refine s_cVI (rest := []) (met_X0_isBroken l v1 x4 x6) cls_1 mth_X0_isBroken rfl dX3_markBroken_36 w_451 w_438 w_439 ⟨Nat.le_of_ble_eq_true rfl, Nat.le_of_ble_eq_true rfl⟩ (Nat.le_of_ble_eq_true rfl) rfl (fun x7 => ?_)
      refine s_if_eq (tgt := 46) dX3_markBroken_39 (by decide) ?_ ?_
      · exact Sim.sub [0, 1, 2, 3, 4] rfl (sim_X3_markBroken_b46 l r3 hr3 v0 v1 v2 v3 v4)
      · refine s_iconst (v := 1) dX3_markBroken_42 (by decide) ?_
        refine s_goto (tgt := 47) dX3_markBroken_43 (by decide) ?_
        exact Sim.sub [0, 1, 2, 3, 4] rfl (sim_X3_markBroken_b47 l r3 hr3 v0 v1 v2 v3 v4 1)
theorem sim_X3_markBroken_l3 (l : Launch) : ∀ (n : Nat) (v0 : Option Nat) (v1 : Option Nat) (v2 : Int32) (v3 : Int32) (v4 : Int32), Sim (M_X3_markBroken l) (zFin zcV) 3 [(0, .inr (.inr v0)), (1, .inr (.inr v1)), (2, .inl v2), (3, .inl v3), (4, .inl v4)] [] (p_X3_markBroken_l3 n v0 v1 v2 v3 v4)
  | 0, _, _, _, _, _ => s_fl
  | n + 1, v0, v1, v2, v3, v4 => sim_X3_markBroken_c3 l (p_X3_markBroken_l3 n) (sim_X3_markBroken_l3 l n) v0 v1 v2 v3 v4
set_option maxRecDepth 20000 in
theorem sim_X3_markBroken (l : Launch) (v0 : Option Nat) (v1 : Option Nat) (v2 : Int32) (v3 : Int32) : Sim (M_X3_markBroken l) (zFin zcV) 0 [(0, .inr (.inr v0)), (1, .inr (.inr v1)), (2, .inl v2), (3, .inl v3)] [] (p_X3_markBroken v0 v1 v2 v3) := by
  unfold p_X3_markBroken
  refine s_iloadn (j := 2) dX3_markBroken_0 rfl ?_
  refine s_istore (lv' := [(4, .inl v2), (0, .inr (.inr v0)), (1, .inr (.inr v1)), (2, .inl v2), (3, .inl v3)]) dX3_markBroken_1 (Nat.le_of_ble_eq_true rfl) rfl ?_
  exact Sim.sub [1, 2, 3, 4, 0] rfl (sim_X3_markBroken_l3 l zFuel v0 v1 v2 v3 v2)
theorem met_X3_markBroken (l : Launch) (v0 : Option Nat) (v1 : Option Nat) (v2 : Int32) (v3 : Int32) : zMet l yX3_markBroken cX3_markBroken 6 none 2 44 [.inr (.inr v0), .inr (.inr v1), .inl v2, .inl v3] zcV (p_X3_markBroken v0 v1 v2 v3) :=
  zMet.of (by decide +kernel) (Nat.le_of_ble_eq_true rfl) rfl (sim_X3_markBroken l v0 v1 v2 v3)
def p_X9_wordNumbered (v0 : Option Nat) (v1 : Int32) : ZM Int32 :=
  z_b (z_gR 10 3 v0) fun x1 => z_b (z_vr 5 x1 (p_X4_get x1 v1)) fun x2 => z_rt x2
abbrev M_X9_wordNumbered (l : Launch) : ZMe := (l, "SpellScribe$Text", cX9_wordNumbered, 2, 1, 21, (some .int), "wordNumbered", [])
set_option maxRecDepth 20000 in
theorem sim_X9_wordNumbered (l : Launch) (v0 : Option Nat) (v1 : Int32) : Sim (M_X9_wordNumbered l) (zFin zcI) 0 [(0, .inr (.inr v0)), (1, .inl v1)] [] (p_X9_wordNumbered v0 v1) := by
  unfold p_X9_wordNumbered
  refine s_aloadn (j := 0) dX9_wordNumbered_0 rfl ?_
  refine s_getR (k := 3) cls_10 (by decide) rfl dX9_wordNumbered_1 w_181 rfl (fun x1 => ?_)
  refine s_iloadn (j := 1) dX9_wordNumbered_4 rfl ?_
  refine s_cVI (rest := []) (met_X4_get l x1 v1) cls_5 mth_X4_get rfl dX9_wordNumbered_5 w_354 w_355 w_356 ⟨Nat.le_of_ble_eq_true rfl, Nat.le_of_ble_eq_true rfl⟩ (Nat.le_of_ble_eq_true rfl) rfl (fun x2 => ?_)
  exact s_iret dX9_wordNumbered_8 rfl
theorem met_X9_wordNumbered (l : Launch) (v0 : Option Nat) (v1 : Int32) : zMet l yX9_wordNumbered cX9_wordNumbered 2 (some .int) 1 21 [.inr (.inr v0), .inl v1] zcI (p_X9_wordNumbered v0 v1) :=
  zMet.of (by decide +kernel) (Nat.le_of_ble_eq_true rfl) rfl (sim_X9_wordNumbered l v0 v1)
def p_X7_fitsItem (v0 : Int32) (v1 : Int32) (v2 : Int32) : ZM Int32 :=
  if v0 ≤ 3 then (if v2 = (-1) then (z_rz 0)
  else (if ¬ v0 = (v2 / 2) then (z_rz 0)
  else (z_rz 1)))
  else (if ¬ v0 = v1 then (z_rz 0)
  else (z_rz 1))
abbrev M_X7_fitsItem (l : Launch) : ZMe := (l, "SpellScribe$Style", cX7_fitsItem, 3, 0, 0, (some .boolean), "fitsItem", [])
set_option maxRecDepth 20000 in
theorem sim_X7_fitsItem (l : Launch) (v0 : Int32) (v1 : Int32) (v2 : Int32) : Sim (M_X7_fitsItem l) (zFin zcI) 0 [(0, .inl v0), (1, .inl v1), (2, .inl v2)] [] (p_X7_fitsItem v0 v1 v2) := by
  unfold p_X7_fitsItem
  refine s_iloadn (j := 0) dX7_fitsItem_0 rfl ?_
  refine s_iconst (v := 3) dX7_fitsItem_1 (by decide) ?_
  refine s_icmp_le (tgt := 18) dX7_fitsItem_2 (by decide) ?_ ?_
  · refine s_iloadn (j := 2) dX7_fitsItem_18 rfl ?_
    refine s_iconst (v := (-1)) dX7_fitsItem_19 (by decide) ?_
    refine s_icmp_eq (tgt := 34) dX7_fitsItem_20 (by decide) ?_ ?_
    · refine s_iconst (v := 0) dX7_fitsItem_34 (by decide) ?_
      exact s_zret dX7_fitsItem_35 rfl
    · refine s_iloadn (j := 0) dX7_fitsItem_23 rfl ?_
      refine s_iloadn (j := 2) dX7_fitsItem_24 rfl ?_
      refine s_iconst (v := 2) dX7_fitsItem_25 (by decide) ?_
      refine s_idiv dX7_fitsItem_26 (by decide) ?_
      refine s_icmp_ne (tgt := 34) dX7_fitsItem_27 (by decide) ?_ ?_
      · refine s_iconst (v := 0) dX7_fitsItem_34 (by decide) ?_
        exact s_zret dX7_fitsItem_35 rfl
      · refine s_iconst (v := 1) dX7_fitsItem_30 (by decide) ?_
        refine s_goto (tgt := 35) dX7_fitsItem_31 (by decide) ?_
        exact s_zret dX7_fitsItem_35 rfl
  · refine s_iloadn (j := 0) dX7_fitsItem_5 rfl ?_
    refine s_iloadn (j := 1) dX7_fitsItem_6 rfl ?_
    refine s_icmp_ne (tgt := 14) dX7_fitsItem_7 (by decide) ?_ ?_
    · refine s_iconst (v := 0) dX7_fitsItem_14 (by decide) ?_
      refine s_goto (tgt := 35) dX7_fitsItem_15 (by decide) ?_
      exact s_zret dX7_fitsItem_35 rfl
    · refine s_iconst (v := 1) dX7_fitsItem_10 (by decide) ?_
      refine s_goto (tgt := 35) dX7_fitsItem_11 (by decide) ?_
      exact s_zret dX7_fitsItem_35 rfl
theorem met_X7_fitsItem (l : Launch) (v0 : Int32) (v1 : Int32) (v2 : Int32) : zMet l yX7_fitsItem cX7_fitsItem 3 (some .boolean) 0 0 [.inl v0, .inl v1, .inl v2] zcI (p_X7_fitsItem v0 v1 v2) :=
  zMet.of (by decide +kernel) (Nat.le_of_ble_eq_true rfl) rfl (sim_X7_fitsItem l v0 v1 v2)
def p_X7_fits_c16 (r16 : Option Nat → Option Nat → Option Nat → Int32 → Int32 → ZM Int32) (v0 : Option Nat) (v1 : Option Nat) (v2 : Option Nat) (v3 : Int32) (v5 : Int32) : ZM Int32 :=
  z_b (z_gI 8 1 v0) fun x1 => if x1 ≤ v5 then (z_rz 1)
  else (z_b (z_gR 8 0 v0) fun x2 => z_b (z_vr 5 x2 (p_X4_get x2 v5)) fun x3 => z_b (z_vr 10 v1 (p_X9_wordNumbered v1 (v3 + v5))) fun x4 => z_b (z_vr 5 v2 (p_X4_get v2 (v3 + v5))) fun x5 => z_b (p_X7_fitsItem x3 x4 x5) fun x6 => if ¬ x6 = 0 then (z_n (v5 + 1 : Int32) fun y7 => r16 v0 v1 v2 v3 y7)
  else (z_rz 0))
def p_X7_fits_l16 : Nat → Option Nat → Option Nat → Option Nat → Int32 → Int32 → ZM Int32
  | 0, _, _, _, _, _ => z_fl
  | n + 1, v0, v1, v2, v3, v5 => p_X7_fits_c16 (p_X7_fits_l16 n) v0 v1 v2 v3 v5
def p_X7_fits (v0 : Option Nat) (v1 : Option Nat) (v2 : Option Nat) (v3 : Int32) (v4 : Int32) : ZM Int32 :=
  z_b (z_gI 8 1 v0) fun x8 => if (v3 + x8) ≤ v4 then (p_X7_fits_l16 zFuel v0 v1 v2 v3 0)
  else (z_rz 0)
abbrev M_X7_fits (l : Launch) : ZMe := (l, "SpellScribe$Style", cX7_fits, 6, 2, 42, (some .boolean), "fits", [])
set_option maxRecDepth 20000 in
theorem sim_X7_fits_c16 (l : Launch) (r16 : Option Nat → Option Nat → Option Nat → Int32 → Int32 → ZM Int32) (hr16 : ∀ (v0 : Option Nat) (v1 : Option Nat) (v2 : Option Nat) (v3 : Int32) (v5 : Int32), Sim (M_X7_fits l) (zFin zcI) 16 [(0, .inr (.inr v0)), (1, .inr (.inr v1)), (2, .inr (.inr v2)), (3, .inl v3), (5, .inl v5)] [] (r16 v0 v1 v2 v3 v5)) (v0 : Option Nat) (v1 : Option Nat) (v2 : Option Nat) (v3 : Int32) (v5 : Int32) : Sim (M_X7_fits l) (zFin zcI) 16 [(0, .inr (.inr v0)), (1, .inr (.inr v1)), (2, .inr (.inr v2)), (3, .inl v3), (5, .inl v5)] [] (p_X7_fits_c16 r16 v0 v1 v2 v3 v5) := by
  unfold p_X7_fits_c16
  refine s_iload (j := 4) dX7_fits_16 rfl ?_
  refine s_aloadn (j := 0) dX7_fits_18 rfl ?_
  refine s_getI (k := 1) cls_8 (by decide) rfl dX7_fits_19 w_263 rfl (fun x1 => ?_)
  refine s_icmp_ge (tgt := 64) dX7_fits_22 (by decide) ?_ ?_
  · refine s_iconst (v := 1) dX7_fits_64 (by decide) ?_
    exact s_zret dX7_fits_65 rfl
  · refine s_aloadn (j := 0) dX7_fits_25 rfl ?_
    refine s_getR (k := 0) cls_8 (by decide) rfl dX7_fits_26 w_262 rfl (fun x2 => ?_)
    refine s_iload (j := 4) dX7_fits_29 rfl ?_
    refine s_cVI (rest := []) (met_X4_get l x2 v5) cls_5 mth_X4_get rfl dX7_fits_31 w_494 w_355 w_356 ⟨Nat.le_of_ble_eq_true rfl, Nat.le_of_ble_eq_true rfl⟩ (Nat.le_of_ble_eq_true rfl) rfl (fun x3 => ?_)
    refine s_aloadn (j := 1) dX7_fits_34 rfl ?_
    refine s_iloadn (j := 3) dX7_fits_35 rfl ?_
    refine s_iload (j := 4) dX7_fits_36 rfl ?_
    refine s_iadd dX7_fits_38 ?_
    refine s_cVI (rest := [.inl x3]) (met_X9_wordNumbered l v1 (v3 + v5)) cls_10 mth_X9_wordNumbered rfl dX7_fits_39 w_495 w_367 w_368 ⟨Nat.le_of_ble_eq_true rfl, Nat.le_of_ble_eq_true rfl⟩ (Nat.le_of_ble_eq_true rfl) rfl (fun x4 => ?_)
    refine s_aloadn (j := 2) dX7_fits_42 rfl ?_
    refine s_iloadn (j := 3) dX7_fits_43 rfl ?_
    refine s_iload (j := 4) dX7_fits_44 rfl ?_
    refine s_iadd dX7_fits_46 ?_
    refine s_cVI (rest := [.inl x4, .inl x3]) (met_X4_get l v2 (v3 + v5)) cls_5 mth_X4_get rfl dX7_fits_47 w_494 w_355 w_356 ⟨Nat.le_of_ble_eq_true rfl, Nat.le_of_ble_eq_true rfl⟩ (Nat.le_of_ble_eq_true rfl) rfl (fun x5 => ?_)
    refine s_cSI (rest := []) (met_X7_fitsItem l x3 x4 x5) mth_X7_fitsItem rfl dX7_fits_50 w_496 w_497 ⟨Nat.le_of_ble_eq_true rfl, Nat.le_of_ble_eq_true rfl⟩ (Nat.le_of_ble_eq_true rfl) rfl (fun x6 => ?_)
    refine s_if_ne (tgt := 58) dX7_fits_53 (by decide) ?_ ?_
    · refine s_n0 (fun y7 hy7 => ?_)
      refine s_iinc (j := 4) (v := y7) (d := 1) (lv' := [(5, .inl y7), (0, .inr (.inr v0)), (1, .inr (.inr v1)), (2, .inr (.inr v2)), (3, .inl v3)]) dX7_fits_58 rfl (by decide) hy7 (Nat.le_of_ble_eq_true rfl) rfl ?_
      refine s_goto (tgt := 16) dX7_fits_61 (by decide) ?_
      exact Sim.sub [1, 2, 3, 4, 0] rfl (hr16 v0 v1 v2 v3 y7)
    · refine s_iconst (v := 0) dX7_fits_56 (by decide) ?_
      exact s_zret dX7_fits_57 rfl
theorem sim_X7_fits_l16 (l : Launch) : ∀ (n : Nat) (v0 : Option Nat) (v1 : Option Nat) (v2 : Option Nat) (v3 : Int32) (v5 : Int32), Sim (M_X7_fits l) (zFin zcI) 16 [(0, .inr (.inr v0)), (1, .inr (.inr v1)), (2, .inr (.inr v2)), (3, .inl v3), (5, .inl v5)] [] (p_X7_fits_l16 n v0 v1 v2 v3 v5)
  | 0, _, _, _, _, _ => s_fl
  | n + 1, v0, v1, v2, v3, v5 => sim_X7_fits_c16 l (p_X7_fits_l16 n) (sim_X7_fits_l16 l n) v0 v1 v2 v3 v5
set_option maxRecDepth 20000 in
theorem sim_X7_fits (l : Launch) (v0 : Option Nat) (v1 : Option Nat) (v2 : Option Nat) (v3 : Int32) (v4 : Int32) : Sim (M_X7_fits l) (zFin zcI) 0 [(0, .inr (.inr v0)), (1, .inr (.inr v1)), (2, .inr (.inr v2)), (3, .inl v3), (4, .inl v4)] [] (p_X7_fits v0 v1 v2 v3 v4) := by
  unfold p_X7_fits
  refine s_iloadn (j := 3) dX7_fits_0 rfl ?_
  refine s_aloadn (j := 0) dX7_fits_1 rfl ?_
  refine s_getI (k := 1) cls_8 (by decide) rfl dX7_fits_2 w_263 rfl (fun x8 => ?_)
  refine s_iadd dX7_fits_5 ?_
  refine s_iload (j := 4) dX7_fits_6 rfl ?_
  refine s_icmp_le (tgt := 13) dX7_fits_8 (by decide) ?_ ?_
  · refine s_iconst (v := 0) dX7_fits_13 (by decide) ?_
    refine s_istore (lv' := [(5, .inl 0), (0, .inr (.inr v0)), (1, .inr (.inr v1)), (2, .inr (.inr v2)), (3, .inl v3), (4, .inl v4)]) dX7_fits_14 (Nat.le_of_ble_eq_true rfl) rfl ?_
    exact Sim.sub [1, 2, 3, 4, 0] rfl (sim_X7_fits_l16 l zFuel v0 v1 v2 v3 0)
  · refine s_iconst (v := 0) dX7_fits_11 (by decide) ?_
    exact s_zret dX7_fits_12 rfl
theorem met_X7_fits (l : Launch) (v0 : Option Nat) (v1 : Option Nat) (v2 : Option Nat) (v3 : Int32) (v4 : Int32) : zMet l yX7_fits cX7_fits 6 (some .boolean) 2 42 [.inr (.inr v0), .inr (.inr v1), .inr (.inr v2), .inl v3, .inl v4] zcI (p_X7_fits v0 v1 v2 v3 v4) :=
  zMet.of (by decide +kernel) (Nat.le_of_ble_eq_true rfl) rfl (sim_X7_fits l v0 v1 v2 v3 v4)
def p_X3_lowestFit_c3 (r3 : Option Nat → Option Nat → Option Nat → Int32 → Int32 → Int32 → ZM Int32) (v0 : Option Nat) (v1 : Option Nat) (v2 : Option Nat) (v3 : Int32) (v4 : Int32) (v5 : Int32) : ZM Int32 :=
  z_b (z_vr 0 v2 (p_Jx4a65c_size_8abf5 v2)) fun x1 => if x1 ≤ v5 then (z_rt (-1))
  else (z_b (z_vr 0 v2 (p_Jx4a65c_get_915e3 v2 v5)) fun x2 => z_b (z_ct 8 x2) fun _ => z_b (z_gR 4 1 v0) fun x3 => z_b (z_vr 8 x2 (p_X7_fits x2 v1 x3 v3 v4)) fun x4 => if x4 = 0 then (z_n (v5 + 1 : Int32) fun y5 => r3 v0 v1 v2 v3 v4 y5)
  else (z_rt v5))
def p_X3_lowestFit_l3 : Nat → Option Nat → Option Nat → Option Nat → Int32 → Int32 → Int32 → ZM Int32
  | 0, _, _, _, _, _, _ => z_fl
  | n + 1, v0, v1, v2, v3, v4, v5 => p_X3_lowestFit_c3 (p_X3_lowestFit_l3 n) v0 v1 v2 v3 v4 v5
def p_X3_lowestFit (v0 : Option Nat) (v1 : Option Nat) (v2 : Option Nat) (v3 : Int32) (v4 : Int32) : ZM Int32 :=
  p_X3_lowestFit_l3 zFuel v0 v1 v2 v3 v4 0
abbrev M_X3_lowestFit (l : Launch) : ZMe := (l, "SpellScribe$Proof", cX3_lowestFit, 6, 3, 67, (some .int), "lowestFit", [])
set_option maxRecDepth 20000 in
theorem sim_X3_lowestFit_c3 (l : Launch) (r3 : Option Nat → Option Nat → Option Nat → Int32 → Int32 → Int32 → ZM Int32) (hr3 : ∀ (v0 : Option Nat) (v1 : Option Nat) (v2 : Option Nat) (v3 : Int32) (v4 : Int32) (v5 : Int32), Sim (M_X3_lowestFit l) (zFin zcI) 3 [(0, .inr (.inr v0)), (1, .inr (.inr v1)), (2, .inr (.inr v2)), (3, .inl v3), (4, .inl v4), (5, .inl v5)] [] (r3 v0 v1 v2 v3 v4 v5)) (v0 : Option Nat) (v1 : Option Nat) (v2 : Option Nat) (v3 : Int32) (v4 : Int32) (v5 : Int32) : Sim (M_X3_lowestFit l) (zFin zcI) 3 [(0, .inr (.inr v0)), (1, .inr (.inr v1)), (2, .inr (.inr v2)), (3, .inl v3), (4, .inl v4), (5, .inl v5)] [] (p_X3_lowestFit_c3 r3 v0 v1 v2 v3 v4 v5) := by
  unfold p_X3_lowestFit_c3
  refine s_iload (j := 5) dX3_lowestFit_3 rfl ?_
  refine s_aloadn (j := 2) dX3_lowestFit_5 rfl ?_
  refine s_cFI (rest := [.inl v5]) (met_Jx4a65c_size_8abf5 l v2) cls_0 mth_Jx4a65c_size_8abf5 face_size rfl dX3_lowestFit_6 w_461 ⟨Nat.le_of_ble_eq_true rfl, Nat.le_of_ble_eq_true rfl⟩ (Nat.le_of_ble_eq_true rfl) rfl (fun x1 => ?_)
  refine s_icmp_ge (tgt := 48) dX3_lowestFit_11 (by decide) ?_ ?_
  · refine s_iconst (v := (-1)) dX3_lowestFit_48 (by decide) ?_
    exact s_iret dX3_lowestFit_49 rfl
  · refine s_aloadn (j := 2) dX3_lowestFit_14 rfl ?_
    refine s_iload (j := 5) dX3_lowestFit_15 rfl ?_
    refine s_cFR (rest := []) (met_Jx4a65c_get_915e3 l v2 v5) cls_0 mth_Jx4a65c_get_915e3 face_get rfl dX3_lowestFit_17 w_471 ⟨Nat.le_of_ble_eq_true rfl, Nat.le_of_ble_eq_true rfl⟩ (Nat.le_of_ble_eq_true rfl) rfl (fun x2 => ?_)
    refine s_cast cls_8 dX3_lowestFit_22 w_489 ?_
    refine s_aloadn (j := 1) dX3_lowestFit_25 rfl ?_
    refine s_aloadn (j := 0) dX3_lowestFit_26 rfl ?_
    refine s_getR (k := 1) cls_4 (by decide) rfl dX3_lowestFit_27 w_233 rfl (fun x3 => ?_)
    refine s_iloadn (j := 3) dX3_lowestFit_30 rfl ?_
    refine s_iload (j := 4) dX3_lowestFit_31 rfl ?_
    refine s_cVI (rest := []) (met_X7_fits l x2 v1 x3 v3 v4) cls_8 mth_X7_fits rfl dX3_lowestFit_33 w_490 w_491 w_492 ⟨Nat.le_of_ble_eq_true rfl, Nat.le_of_ble_eq_true rfl⟩ (Nat.le_of_ble_eq_true rfl) rfl (fun x4 => ?_)
    refine s_if_eq (tgt := 42) dX3_lowestFit_36 (by decide) ?_ ?_
    · refine s_n0 (fun y5 hy5 => ?_)
      refine s_iinc (j := 5) (v := y5) (d := 1) (lv' := [(5, .inl y5), (0, .inr (.inr v0)), (1, .inr (.inr v1)), (2, .inr (.inr v2)), (3, .inl v3), (4, .inl v4)]) dX3_lowestFit_42 rfl (by decide) hy5 (Nat.le_of_ble_eq_true rfl) rfl ?_
      refine s_goto (tgt := 3) dX3_lowestFit_45 (by decide) ?_
      exact Sim.sub [1, 2, 3, 4, 5, 0] rfl (hr3 v0 v1 v2 v3 v4 y5)
    · refine s_iload (j := 5) dX3_lowestFit_39 rfl ?_
      exact s_iret dX3_lowestFit_41 rfl
theorem sim_X3_lowestFit_l3 (l : Launch) : ∀ (n : Nat) (v0 : Option Nat) (v1 : Option Nat) (v2 : Option Nat) (v3 : Int32) (v4 : Int32) (v5 : Int32), Sim (M_X3_lowestFit l) (zFin zcI) 3 [(0, .inr (.inr v0)), (1, .inr (.inr v1)), (2, .inr (.inr v2)), (3, .inl v3), (4, .inl v4), (5, .inl v5)] [] (p_X3_lowestFit_l3 n v0 v1 v2 v3 v4 v5)
  | 0, _, _, _, _, _, _ => s_fl
  | n + 1, v0, v1, v2, v3, v4, v5 => sim_X3_lowestFit_c3 l (p_X3_lowestFit_l3 n) (sim_X3_lowestFit_l3 l n) v0 v1 v2 v3 v4 v5
set_option maxRecDepth 20000 in
theorem sim_X3_lowestFit (l : Launch) (v0 : Option Nat) (v1 : Option Nat) (v2 : Option Nat) (v3 : Int32) (v4 : Int32) : Sim (M_X3_lowestFit l) (zFin zcI) 0 [(0, .inr (.inr v0)), (1, .inr (.inr v1)), (2, .inr (.inr v2)), (3, .inl v3), (4, .inl v4)] [] (p_X3_lowestFit v0 v1 v2 v3 v4) := by
  unfold p_X3_lowestFit
  refine s_iconst (v := 0) dX3_lowestFit_0 (by decide) ?_
  refine s_istore (lv' := [(5, .inl 0), (0, .inr (.inr v0)), (1, .inr (.inr v1)), (2, .inr (.inr v2)), (3, .inl v3), (4, .inl v4)]) dX3_lowestFit_1 (Nat.le_of_ble_eq_true rfl) rfl ?_
  exact Sim.sub [1, 2, 3, 4, 5, 0] rfl (sim_X3_lowestFit_l3 l zFuel v0 v1 v2 v3 v4 0)
theorem met_X3_lowestFit (l : Launch) (v0 : Option Nat) (v1 : Option Nat) (v2 : Option Nat) (v3 : Int32) (v4 : Int32) : zMet l yX3_lowestFit cX3_lowestFit 6 (some .int) 3 67 [.inr (.inr v0), .inr (.inr v1), .inr (.inr v2), .inl v3, .inl v4] zcI (p_X3_lowestFit v0 v1 v2 v3 v4) :=
  zMet.of (by decide +kernel) (Nat.le_of_ble_eq_true rfl) rfl (sim_X3_lowestFit l v0 v1 v2 v3 v4)
def p_X11_styleNumbered (v0 : Option Nat) (v1 : Int32) : ZM (Option Nat) :=
  z_b (z_vr 0 v0 (p_Jx4a65c_size_8abf5 v0)) fun x1 => z_b (p_X11_isIn v1 0 (x1 - 1)) fun x2 => if x2 = 0 then (z_rt none)
  else (z_b (z_vr 0 v0 (p_Jx4a65c_get_915e3 v0 v1)) fun x3 => z_b (z_ct 8 x3) fun _ => z_rt x3)
abbrev M_X11_styleNumbered (l : Launch) : ZMe := (l, "SpellScribe", cX11_styleNumbered, 2, 3, 64, (some (.object "SpellScribe$Style")), "styleNumbered", [])
set_option maxRecDepth 20000 in
theorem sim_X11_styleNumbered (l : Launch) (v0 : Option Nat) (v1 : Int32) : Sim (M_X11_styleNumbered l) (zFin zcR) 0 [(0, .inr (.inr v0)), (1, .inl v1)] [] (p_X11_styleNumbered v0 v1) := by
  unfold p_X11_styleNumbered
  refine s_iloadn (j := 1) dX11_styleNumbered_0 rfl ?_
  refine s_iconst (v := 0) dX11_styleNumbered_1 (by decide) ?_
  refine s_aloadn (j := 0) dX11_styleNumbered_2 rfl ?_
  refine s_cFI (rest := [.inl 0, .inl v1]) (met_Jx4a65c_size_8abf5 l v0) cls_0 mth_Jx4a65c_size_8abf5 face_size rfl dX11_styleNumbered_3 w_503 ⟨Nat.le_of_ble_eq_true rfl, Nat.le_of_ble_eq_true rfl⟩ (Nat.le_of_ble_eq_true rfl) rfl (fun x1 => ?_)
  refine s_iconst (v := 1) dX11_styleNumbered_8 (by decide) ?_
  refine s_isub dX11_styleNumbered_9 ?_
  refine s_cSI (rest := []) (met_X11_isIn l v1 0 (x1 - 1)) mth_X11_isIn rfl dX11_styleNumbered_10 w_504 w_505 ⟨Nat.le_of_ble_eq_true rfl, Nat.le_of_ble_eq_true rfl⟩ (Nat.le_of_ble_eq_true rfl) rfl (fun x2 => ?_)
  refine s_if_eq (tgt := 29) dX11_styleNumbered_13 (by decide) ?_ ?_
  · refine s_null dX11_styleNumbered_29 ?_
    exact s_aret dX11_styleNumbered_30 rfl (Or.inl ⟨_, rfl⟩)
  · refine s_aloadn (j := 0) dX11_styleNumbered_16 rfl ?_
    refine s_iloadn (j := 1) dX11_styleNumbered_17 rfl ?_
    refine s_cFR (rest := []) (met_Jx4a65c_get_915e3 l v0 v1) cls_0 mth_Jx4a65c_get_915e3 face_get rfl dX11_styleNumbered_18 w_508 ⟨Nat.le_of_ble_eq_true rfl, Nat.le_of_ble_eq_true rfl⟩ (Nat.le_of_ble_eq_true rfl) rfl (fun x3 => ?_)
    refine s_cast cls_8 dX11_styleNumbered_23 w_254 ?_
    refine s_goto (tgt := 30) dX11_styleNumbered_26 (by decide) ?_
    exact s_aret dX11_styleNumbered_30 rfl (Or.inl ⟨_, rfl⟩)
theorem met_X11_styleNumbered (l : Launch) (v0 : Option Nat) (v1 : Int32) : zMet l yX11_styleNumbered cX11_styleNumbered 2 (some (.object "SpellScribe$Style")) 3 64 [.inr (.inr v0), .inl v1] zcR (p_X11_styleNumbered v0 v1) :=
  zMet.of (by decide +kernel) (Nat.le_of_ble_eq_true rfl) rfl (sim_X11_styleNumbered l v0 v1)
def p_X3_takeStyles_b70 (r6 : Option Nat → Option Nat → Option Nat → Int32 → Int32 → Int32 → ZM Unit) (v0 : Option Nat) (v1 : Option Nat) (v2 : Option Nat) (v4 : Int32) (v5 : Int32) (v6 : Int32) : ZM Unit :=
  z_n (v6 + 1 : Int32) fun y1 => r6 v0 v1 v2 v4 v5 y1
def p_X3_takeStyles_b34 (r6 : Option Nat → Option Nat → Option Nat → Int32 → Int32 → Int32 → ZM Unit) (v0 : Option Nat) (v1 : Option Nat) (v2 : Option Nat) (v4 : Int32) (v5 : Int32) (v6 : Int32) (s0 : Int32) : ZM Unit :=
  z_b (p_X11_styleNumbered v2 s0) fun x2 => z_b (z_gR 4 2 v0) fun x3 => z_b (z_vr 5 x3 (p_X4_set x3 v6 s0)) fun _ => if x2 = none then (p_X3_takeStyles_b70 r6 v0 v1 v2 v4 v5 v6)
  else (z_b (z_gI 8 1 x2) fun x4 => z_n ((v6 + x4) : Int32) fun y5 => p_X3_takeStyles_b70 r6 v0 v1 v2 v4 y5 v6)
def p_X3_takeStyles_c6 (r6 : Option Nat → Option Nat → Option Nat → Int32 → Int32 → Int32 → ZM Unit) (v0 : Option Nat) (v1 : Option Nat) (v2 : Option Nat) (v4 : Int32) (v5 : Int32) (v6 : Int32) : ZM Unit :=
  if v4 ≤ v6 then (z_rt ())
  else (if v5 ≤ v6 then (z_b (z_vr 4 v0 (p_X3_lowestFit v0 v1 v2 v6 v4)) fun x6 => p_X3_takeStyles_b34 r6 v0 v1 v2 v4 v5 v6 x6)
  else (p_X3_takeStyles_b34 r6 v0 v1 v2 v4 v5 v6 (-1)))
def p_X3_takeStyles_l6 : Nat → Option Nat → Option Nat → Option Nat → Int32 → Int32 → Int32 → ZM Unit
  | 0, _, _, _, _, _, _ => z_fl
  | n + 1, v0, v1, v2, v4, v5, v6 => p_X3_takeStyles_c6 (p_X3_takeStyles_l6 n) v0 v1 v2 v4 v5 v6
def p_X3_takeStyles (v0 : Option Nat) (v1 : Option Nat) (v2 : Option Nat) (v3 : Int32) (v4 : Int32) : ZM Unit :=
  p_X3_takeStyles_l6 zFuel v0 v1 v2 v4 v3 v3
abbrev M_X3_takeStyles (l : Launch) : ZMe := (l, "SpellScribe$Proof", cX3_takeStyles, 9, 4, 92, none, "takeStyles", [])
set_option maxRecDepth 20000 in
theorem sim_X3_takeStyles_b70 (l : Launch) (r6 : Option Nat → Option Nat → Option Nat → Int32 → Int32 → Int32 → ZM Unit) (hr6 : ∀ (v0 : Option Nat) (v1 : Option Nat) (v2 : Option Nat) (v4 : Int32) (v5 : Int32) (v6 : Int32), Sim (M_X3_takeStyles l) (zFin zcV) 6 [(0, .inr (.inr v0)), (1, .inr (.inr v1)), (2, .inr (.inr v2)), (4, .inl v4), (5, .inl v5), (6, .inl v6)] [] (r6 v0 v1 v2 v4 v5 v6)) (v0 : Option Nat) (v1 : Option Nat) (v2 : Option Nat) (v4 : Int32) (v5 : Int32) (v6 : Int32) : Sim (M_X3_takeStyles l) (zFin zcV) 70 [(0, .inr (.inr v0)), (1, .inr (.inr v1)), (2, .inr (.inr v2)), (4, .inl v4), (5, .inl v5), (6, .inl v6)] [] (p_X3_takeStyles_b70 r6 v0 v1 v2 v4 v5 v6) := by
  unfold p_X3_takeStyles_b70
  refine s_n0 (fun y1 hy1 => ?_)
  refine s_iinc (j := 5) (v := y1) (d := 1) (lv' := [(6, .inl y1), (0, .inr (.inr v0)), (1, .inr (.inr v1)), (2, .inr (.inr v2)), (4, .inl v4), (5, .inl v5)]) dX3_takeStyles_70 rfl (by decide) hy1 (Nat.le_of_ble_eq_true rfl) rfl ?_
  refine s_goto (tgt := 6) dX3_takeStyles_73 (by decide) ?_
  exact Sim.sub [1, 2, 3, 4, 5, 0] rfl (hr6 v0 v1 v2 v4 v5 y1)
set_option maxRecDepth 20000 in
theorem sim_X3_takeStyles_b34 (l : Launch) (r6 : Option Nat → Option Nat → Option Nat → Int32 → Int32 → Int32 → ZM Unit) (hr6 : ∀ (v0 : Option Nat) (v1 : Option Nat) (v2 : Option Nat) (v4 : Int32) (v5 : Int32) (v6 : Int32), Sim (M_X3_takeStyles l) (zFin zcV) 6 [(0, .inr (.inr v0)), (1, .inr (.inr v1)), (2, .inr (.inr v2)), (4, .inl v4), (5, .inl v5), (6, .inl v6)] [] (r6 v0 v1 v2 v4 v5 v6)) (v0 : Option Nat) (v1 : Option Nat) (v2 : Option Nat) (v4 : Int32) (v5 : Int32) (v6 : Int32) (s0 : Int32) : Sim (M_X3_takeStyles l) (zFin zcV) 34 [(0, .inr (.inr v0)), (1, .inr (.inr v1)), (2, .inr (.inr v2)), (4, .inl v4), (5, .inl v5), (6, .inl v6)] [.inl s0] (p_X3_takeStyles_b34 r6 v0 v1 v2 v4 v5 v6 s0) := by
  unfold p_X3_takeStyles_b34
  refine s_istore (lv' := [(7, .inl s0), (0, .inr (.inr v0)), (1, .inr (.inr v1)), (2, .inr (.inr v2)), (4, .inl v4), (5, .inl v5), (6, .inl v6)]) dX3_takeStyles_34 (Nat.le_of_ble_eq_true rfl) rfl ?_
  refine s_aloadn (j := 3) dX3_takeStyles_36 rfl ?_
  refine s_iload (j := 0) dX3_takeStyles_37 rfl ?_
  refine s_cSRN (rest := []) (met_X11_styleNumbered l v2 s0) mth_X11_styleNumbered rfl dX3_takeStyles_39 w_499 w_500 ⟨Nat.le_of_ble_eq_true rfl, Nat.le_of_ble_eq_true rfl⟩ (Nat.le_of_ble_eq_true rfl) rfl (fun x2 => ?_)
  refine s_astore (lv' := [(8, .inr (.inr x2)), (7, .inl s0), (0, .inr (.inr v0)), (1, .inr (.inr v1)), (2, .inr (.inr v2)), (4, .inl v4), (5, .inl v5), (6, .inl v6)]) dX3_takeStyles_42 (Nat.le_of_ble_eq_true rfl) rfl ?_
  refine s_aloadn (j := 2) dX3_takeStyles_44 rfl ?_
  refine s_getR (k := 2) cls_4 (by decide) rfl dX3_takeStyles_45 w_234 rfl (fun x3 => ?_)
  refine s_iload (j := 7) dX3_takeStyles_48 rfl ?_
  refine s_iload (j := 1) dX3_takeStyles_50 rfl ?_
  refine s_cVV (rest := []) (met_X4_set l x3 v6 s0) cls_5 mth_X4_set rfl dX3_takeStyles_52 w_410 w_347 w_348 ⟨Nat.le_of_ble_eq_true rfl, Nat.le_of_ble_eq_true rfl⟩ (Nat.le_of_ble_eq_true rfl) rfl ?_
  refine s_aload (j := 0) dX3_takeStyles_55 rfl ?_
  refine s_ifnull (tgt := 70) dX3_takeStyles_57 (by decide) ?_ ?_
  · exact Sim.sub [2, 3, 4, 5, 6, 7] rfl (sim_X3_takeStyles_b70 l r6 hr6 v0 v1 v2 v4 v5 v6)
  · refine s_iload (j := 7) dX3_takeStyles_60 rfl ?_
    refine s_aload (j := 0) dX3_takeStyles_62 rfl ?_
    refine s_getIN (k := 1) cls_8 (by decide) rfl dX3_takeStyles_64 w_265 rfl (fun x4 => ?_)
    refine s_iadd dX3_takeStyles_67 ?_
    refine s_nI (fun y5 => ?_)
    refine s_istore (lv' := [(5, .inl y5), (8, .inr (.inr x2)), (7, .inl s0), (0, .inr (.inr v0)), (1, .inr (.inr v1)), (2, .inr (.inr v2)), (4, .inl v4), (6, .inl v6)]) dX3_takeStyles_68 (Nat.le_of_ble_eq_true rfl) rfl ?_
    exact Sim.sub [3, 4, 5, 6, 0, 7] rfl (sim_X3_takeStyles_b70 l r6 hr6 v0 v1 v2 v4 y5 v6)
set_option maxRecDepth 20000 in
theorem sim_X3_takeStyles_c6 (l : Launch) (r6 : Option Nat → Option Nat → Option Nat → Int32 → Int32 → Int32 → ZM Unit) (hr6 : ∀ (v0 : Option Nat) (v1 : Option Nat) (v2 : Option Nat) (v4 : Int32) (v5 : Int32) (v6 : Int32), Sim (M_X3_takeStyles l) (zFin zcV) 6 [(0, .inr (.inr v0)), (1, .inr (.inr v1)), (2, .inr (.inr v2)), (4, .inl v4), (5, .inl v5), (6, .inl v6)] [] (r6 v0 v1 v2 v4 v5 v6)) (v0 : Option Nat) (v1 : Option Nat) (v2 : Option Nat) (v4 : Int32) (v5 : Int32) (v6 : Int32) : Sim (M_X3_takeStyles l) (zFin zcV) 6 [(0, .inr (.inr v0)), (1, .inr (.inr v1)), (2, .inr (.inr v2)), (4, .inl v4), (5, .inl v5), (6, .inl v6)] [] (p_X3_takeStyles_c6 r6 v0 v1 v2 v4 v5 v6) := by
  unfold p_X3_takeStyles_c6
  refine s_iload (j := 5) dX3_takeStyles_6 rfl ?_
  refine s_iload (j := 3) dX3_takeStyles_8 rfl ?_
  refine s_icmp_ge (tgt := 76) dX3_takeStyles_10 (by decide) ?_ ?_
  · exact s_vret dX3_takeStyles_76 rfl
  · refine s_iload (j := 5) dX3_takeStyles_13 rfl ?_
    refine s_iload (j := 4) dX3_takeStyles_15 rfl ?_
    refine s_icmp_ge (tgt := 24) dX3_takeStyles_17 (by decide) ?_ ?_
    · refine s_aloadn (j := 0) dX3_takeStyles_24 rfl ?_
      refine s_aloadn (j := 1) dX3_takeStyles_25 rfl ?_
      refine s_aloadn (j := 2) dX3_takeStyles_26 rfl ?_
      refine s_iload (j := 5) dX3_takeStyles_27 rfl ?_
      refine s_iload (j := 3) dX3_takeStyles_29 rfl ?_
      refine s_cVI (rest := []) (met_X3_lowestFit l v0 v1 v2 v6 v4) cls_4 mth_X3_lowestFit rfl dX3_takeStyles_31 w_456 w_458 wp_11 ⟨Nat.le_of_ble_eq_true rfl, Nat.le_of_ble_eq_true rfl⟩ (Nat.le_of_ble_eq_true rfl) rfl (fun x6 => ?_)
      exact Sim.sub [0, 1, 2, 3, 4, 5] rfl (sim_X3_takeStyles_b34 l r6 hr6 v0 v1 v2 v4 v5 v6 x6)
    · refine s_iconst (v := (-1)) dX3_takeStyles_20 (by decide) ?_
      refine s_goto (tgt := 34) dX3_takeStyles_21 (by decide) ?_
      exact Sim.sub [0, 1, 2, 3, 4, 5] rfl (sim_X3_takeStyles_b34 l r6 hr6 v0 v1 v2 v4 v5 v6 (-1))
theorem sim_X3_takeStyles_l6 (l : Launch) : ∀ (n : Nat) (v0 : Option Nat) (v1 : Option Nat) (v2 : Option Nat) (v4 : Int32) (v5 : Int32) (v6 : Int32), Sim (M_X3_takeStyles l) (zFin zcV) 6 [(0, .inr (.inr v0)), (1, .inr (.inr v1)), (2, .inr (.inr v2)), (4, .inl v4), (5, .inl v5), (6, .inl v6)] [] (p_X3_takeStyles_l6 n v0 v1 v2 v4 v5 v6)
  | 0, _, _, _, _, _, _ => s_fl
  | n + 1, v0, v1, v2, v4, v5, v6 => sim_X3_takeStyles_c6 l (p_X3_takeStyles_l6 n) (sim_X3_takeStyles_l6 l n) v0 v1 v2 v4 v5 v6
set_option maxRecDepth 20000 in
theorem sim_X3_takeStyles (l : Launch) (v0 : Option Nat) (v1 : Option Nat) (v2 : Option Nat) (v3 : Int32) (v4 : Int32) : Sim (M_X3_takeStyles l) (zFin zcV) 0 [(0, .inr (.inr v0)), (1, .inr (.inr v1)), (2, .inr (.inr v2)), (3, .inl v3), (4, .inl v4)] [] (p_X3_takeStyles v0 v1 v2 v3 v4) := by
  unfold p_X3_takeStyles
  refine s_iloadn (j := 3) dX3_takeStyles_0 rfl ?_
  refine s_istore (lv' := [(5, .inl v3), (0, .inr (.inr v0)), (1, .inr (.inr v1)), (2, .inr (.inr v2)), (3, .inl v3), (4, .inl v4)]) dX3_takeStyles_1 (Nat.le_of_ble_eq_true rfl) rfl ?_
  refine s_iloadn (j := 4) dX3_takeStyles_3 rfl ?_
  refine s_istore (lv' := [(6, .inl v3), (5, .inl v3), (0, .inr (.inr v0)), (1, .inr (.inr v1)), (2, .inr (.inr v2)), (3, .inl v3), (4, .inl v4)]) dX3_takeStyles_4 (Nat.le_of_ble_eq_true rfl) rfl ?_
  exact Sim.sub [2, 3, 4, 6, 1, 0] rfl (sim_X3_takeStyles_l6 l zFuel v0 v1 v2 v4 v3 v3)
theorem met_X3_takeStyles (l : Launch) (v0 : Option Nat) (v1 : Option Nat) (v2 : Option Nat) (v3 : Int32) (v4 : Int32) : zMet l yX3_takeStyles cX3_takeStyles 9 none 4 92 [.inr (.inr v0), .inr (.inr v1), .inr (.inr v2), .inl v3, .inl v4] zcV (p_X3_takeStyles v0 v1 v2 v3 v4) :=
  zMet.of (by decide +kernel) (Nat.le_of_ble_eq_true rfl) rfl (sim_X3_takeStyles l v0 v1 v2 v3 v4)
def p_X9_wordCount (v0 : Option Nat) : ZM Int32 :=
  z_b (z_gI 10 7 v0) fun x1 => z_rt x1
abbrev M_X9_wordCount (l : Launch) : ZMe := (l, "SpellScribe$Text", cX9_wordCount, 1, 0, 0, (some .int), "wordCount", [])
set_option maxRecDepth 20000 in
theorem sim_X9_wordCount (l : Launch) (v0 : Option Nat) : Sim (M_X9_wordCount l) (zFin zcI) 0 [(0, .inr (.inr v0))] [] (p_X9_wordCount v0) := by
  unfold p_X9_wordCount
  refine s_aloadn (j := 0) dX9_wordCount_0 rfl ?_
  refine s_getI (k := 7) cls_10 (by decide) rfl dX9_wordCount_1 w_185 rfl (fun x1 => ?_)
  exact s_iret dX9_wordCount_4 rfl
theorem met_X9_wordCount (l : Launch) (v0 : Option Nat) : zMet l yX9_wordCount cX9_wordCount 1 (some .int) 0 0 [.inr (.inr v0)] zcI (p_X9_wordCount v0) :=
  zMet.of (by decide +kernel) (Nat.le_of_ble_eq_true rfl) rfl (sim_X9_wordCount l v0)
def p_X3_addMistake (v0 : Option Nat) (v1 : Int32) (v2 : Int32) : ZM Unit :=
  z_b (z_gR 4 4 v0) fun x1 => z_b (z_gI 4 6 v0) fun x2 => z_b (z_vr 5 x1 (p_X4_set x1 x2 v1)) fun _ => z_b (z_gR 4 5 v0) fun x3 => z_b (z_gI 4 6 v0) fun x4 => z_b (z_vr 5 x3 (p_X4_set x3 x4 v2)) fun _ => z_b (z_gI 4 6 v0) fun x5 => z_b (z_pI 4 6 v0 (x5 + 1)) fun _ => z_rt ()
abbrev M_X3_addMistake (l : Launch) : ZMe := (l, "SpellScribe$Proof", cX3_addMistake, 3, 1, 22, none, "addMistake", [])
set_option maxRecDepth 20000 in
theorem sim_X3_addMistake (l : Launch) (v0 : Option Nat) (v1 : Int32) (v2 : Int32) : Sim (M_X3_addMistake l) (zFin zcV) 0 [(0, .inr (.inr v0)), (1, .inl v1), (2, .inl v2)] [] (p_X3_addMistake v0 v1 v2) := by
  unfold p_X3_addMistake
  refine s_aloadn (j := 0) dX3_addMistake_0 rfl ?_
  refine s_getR (k := 4) cls_4 (by decide) rfl dX3_addMistake_1 w_236 rfl (fun x1 => ?_)
  refine s_aloadn (j := 0) dX3_addMistake_4 rfl ?_
  refine s_getI (k := 6) cls_4 (by decide) rfl dX3_addMistake_5 w_238 rfl (fun x2 => ?_)
  refine s_iloadn (j := 1) dX3_addMistake_8 rfl ?_
  refine s_cVV (rest := []) (met_X4_set l x1 x2 v1) cls_5 mth_X4_set rfl dX3_addMistake_9 w_410 w_347 w_348 ⟨Nat.le_of_ble_eq_true rfl, Nat.le_of_ble_eq_true rfl⟩ (Nat.le_of_ble_eq_true rfl) rfl ?_
  refine s_aloadn (j := 0) dX3_addMistake_12 rfl ?_
  refine s_getR (k := 5) cls_4 (by decide) rfl dX3_addMistake_13 w_237 rfl (fun x3 => ?_)
  refine s_aloadn (j := 0) dX3_addMistake_16 rfl ?_
  refine s_getI (k := 6) cls_4 (by decide) rfl dX3_addMistake_17 w_238 rfl (fun x4 => ?_)
  refine s_iloadn (j := 2) dX3_addMistake_20 rfl ?_
  refine s_cVV (rest := []) (met_X4_set l x3 x4 v2) cls_5 mth_X4_set rfl dX3_addMistake_21 w_410 w_347 w_348 ⟨Nat.le_of_ble_eq_true rfl, Nat.le_of_ble_eq_true rfl⟩ (Nat.le_of_ble_eq_true rfl) rfl ?_
  refine s_aloadn (j := 0) dX3_addMistake_24 rfl ?_
  refine s_dupR dX3_addMistake_25 ?_
  refine s_getI (k := 6) cls_4 (by decide) rfl dX3_addMistake_26 w_238 rfl (fun x5 => ?_)
  refine s_iconst (v := 1) dX3_addMistake_29 (by decide) ?_
  refine s_iadd dX3_addMistake_30 ?_
  refine s_putI (k := 6) cls_4 (by decide) rfl rfl rfl dX3_addMistake_31 w_238 rfl ?_
  exact s_vret dX3_addMistake_34 rfl
theorem met_X3_addMistake (l : Launch) (v0 : Option Nat) (v1 : Int32) (v2 : Int32) : zMet l yX3_addMistake cX3_addMistake 3 none 1 22 [.inr (.inr v0), .inl v1, .inl v2] zcV (p_X3_addMistake v0 v1 v2) :=
  zMet.of (by decide +kernel) (Nat.le_of_ble_eq_true rfl) rfl (sim_X3_addMistake l v0 v1 v2)
def p_X3_listMistakes_b61 (r7 : Option Nat → Int32 → Int32 → ZM Unit) (v0 : Option Nat) (v1 : Int32) (v2 : Int32) : ZM Unit :=
  z_n (v2 + 1 : Int32) fun y1 => r7 v0 v1 y1
def p_X3_listMistakes_b43 (r7 : Option Nat → Int32 → Int32 → ZM Unit) (v0 : Option Nat) (v1 : Int32) (v2 : Int32) : ZM Unit :=
  z_b (z_gR 4 2 v0) fun x2 => z_b (z_vr 5 x2 (p_X4_get x2 v2)) fun x3 => if x3 = (-1) then (p_X3_listMistakes_b61 r7 v0 v1 v2)
  else (z_b (z_vr 4 v0 (p_X3_addMistake v0 2 v2)) fun _ => p_X3_listMistakes_b61 r7 v0 v1 v2)
def p_X3_listMistakes_b26 (r7 : Option Nat → Int32 → Int32 → ZM Unit) (v0 : Option Nat) (v1 : Int32) (v2 : Int32) : ZM Unit :=
  z_b (z_gR 4 3 v0) fun x4 => z_b (z_vr 5 x4 (p_X4_get x4 v2)) fun x5 => if x5 = 0 then (p_X3_listMistakes_b43 r7 v0 v1 v2)
  else (z_b (z_vr 4 v0 (p_X3_addMistake v0 1 v2)) fun _ => p_X3_listMistakes_b43 r7 v0 v1 v2)
def p_X3_listMistakes_c7 (r7 : Option Nat → Int32 → Int32 → ZM Unit) (v0 : Option Nat) (v1 : Int32) (v2 : Int32) : ZM Unit :=
  if v1 ≤ v2 then (z_rt ())
  else (z_b (z_vr 4 v0 (p_X3_isSpelledRight v0 v2)) fun x6 => if ¬ x6 = 0 then (p_X3_listMistakes_b26 r7 v0 v1 v2)
  else (z_b (z_vr 4 v0 (p_X3_addMistake v0 0 v2)) fun _ => p_X3_listMistakes_b26 r7 v0 v1 v2))
def p_X3_listMistakes_l7 : Nat → Option Nat → Int32 → Int32 → ZM Unit
  | 0, _, _, _ => z_fl
  | n + 1, v0, v1, v2 => p_X3_listMistakes_c7 (p_X3_listMistakes_l7 n) v0 v1 v2
def p_X3_listMistakes (v0 : Option Nat) (v1 : Int32) : ZM Unit :=
  z_b (z_pI 4 6 v0 0) fun _ => p_X3_listMistakes_l7 zFuel v0 v1 0
abbrev M_X3_listMistakes (l : Launch) : ZMe := (l, "SpellScribe$Proof", cX3_listMistakes, 3, 2, 44, none, "listMistakes", [])
set_option maxRecDepth 20000 in
theorem sim_X3_listMistakes_b61 (l : Launch) (r7 : Option Nat → Int32 → Int32 → ZM Unit) (hr7 : ∀ (v0 : Option Nat) (v1 : Int32) (v2 : Int32), Sim (M_X3_listMistakes l) (zFin zcV) 7 [(0, .inr (.inr v0)), (1, .inl v1), (2, .inl v2)] [] (r7 v0 v1 v2)) (v0 : Option Nat) (v1 : Int32) (v2 : Int32) : Sim (M_X3_listMistakes l) (zFin zcV) 61 [(0, .inr (.inr v0)), (1, .inl v1), (2, .inl v2)] [] (p_X3_listMistakes_b61 r7 v0 v1 v2) := by
  unfold p_X3_listMistakes_b61
  refine s_n0 (fun y1 hy1 => ?_)
  refine s_iinc (j := 2) (v := y1) (d := 1) (lv' := [(2, .inl y1), (0, .inr (.inr v0)), (1, .inl v1)]) dX3_listMistakes_61 rfl (by decide) hy1 (Nat.le_of_ble_eq_true rfl) rfl ?_
  refine s_goto (tgt := 7) dX3_listMistakes_64 (by decide) ?_
  exact Sim.sub [1, 2, 0] rfl (hr7 v0 v1 y1)
set_option maxRecDepth 20000 in
theorem sim_X3_listMistakes_b43 (l : Launch) (r7 : Option Nat → Int32 → Int32 → ZM Unit) (hr7 : ∀ (v0 : Option Nat) (v1 : Int32) (v2 : Int32), Sim (M_X3_listMistakes l) (zFin zcV) 7 [(0, .inr (.inr v0)), (1, .inl v1), (2, .inl v2)] [] (r7 v0 v1 v2)) (v0 : Option Nat) (v1 : Int32) (v2 : Int32) : Sim (M_X3_listMistakes l) (zFin zcV) 43 [(0, .inr (.inr v0)), (1, .inl v1), (2, .inl v2)] [] (p_X3_listMistakes_b43 r7 v0 v1 v2) := by
  unfold p_X3_listMistakes_b43
  refine s_aloadn (j := 0) dX3_listMistakes_43 rfl ?_
  refine s_getR (k := 2) cls_4 (by decide) rfl dX3_listMistakes_44 w_234 rfl (fun x2 => ?_)
  refine s_iloadn (j := 2) dX3_listMistakes_47 rfl ?_
  refine s_cVI (rest := []) (met_X4_get l x2 v2) cls_5 mth_X4_get rfl dX3_listMistakes_48 w_450 w_355 w_356 ⟨Nat.le_of_ble_eq_true rfl, Nat.le_of_ble_eq_true rfl⟩ (Nat.le_of_ble_eq_true rfl) rfl (fun x3 => ?_)
  refine s_iconst (v := (-1)) dX3_listMistakes_51 (by decide) ?_
  refine s_icmp_eq (tgt := 61) dX3_listMistakes_52 (by decide) ?_ ?_
  · exact Sim.sub [0, 1, 2] rfl (sim_X3_listMistakes_b61 l r7 hr7 v0 v1 v2)
  · refine s_aloadn (j := 0) dX3_listMistakes_55 rfl ?_
    refine s_iconst (v := 2) dX3_listMistakes_56 (by decide) ?_
    refine s_iloadn (j := 2) dX3_listMistakes_57 rfl ?_
    refine s_cVV (rest := []) (met_X3_addMistake l v0 2 v2) cls_4 mth_X3_addMistake rfl dX3_listMistakes_58 w_518 w_520 wp_13 ⟨Nat.le_of_ble_eq_true rfl, Nat.le_of_ble_eq_true rfl⟩ (Nat.le_of_ble_eq_true rfl) rfl ?_
    exact Sim.sub [0, 1, 2] rfl (sim_X3_listMistakes_b61 l r7 hr7 v0 v1 v2)
set_option maxRecDepth 20000 in
theorem sim_X3_listMistakes_b26 (l : Launch) (r7 : Option Nat → Int32 → Int32 → ZM Unit) (hr7 : ∀ (v0 : Option Nat) (v1 : Int32) (v2 : Int32), Sim (M_X3_listMistakes l) (zFin zcV) 7 [(0, .inr (.inr v0)), (1, .inl v1), (2, .inl v2)] [] (r7 v0 v1 v2)) (v0 : Option Nat) (v1 : Int32) (v2 : Int32) : Sim (M_X3_listMistakes l) (zFin zcV) 26 [(0, .inr (.inr v0)), (1, .inl v1), (2, .inl v2)] [] (p_X3_listMistakes_b26 r7 v0 v1 v2) := by
  unfold p_X3_listMistakes_b26
  refine s_aloadn (j := 0) dX3_listMistakes_26 rfl ?_
  refine s_getR (k := 3) cls_4 (by decide) rfl dX3_listMistakes_27 w_235 rfl (fun x4 => ?_)
  refine s_iloadn (j := 2) dX3_listMistakes_30 rfl ?_
  refine s_cVI (rest := []) (met_X4_get l x4 v2) cls_5 mth_X4_get rfl dX3_listMistakes_31 w_450 w_355 w_356 ⟨Nat.le_of_ble_eq_true rfl, Nat.le_of_ble_eq_true rfl⟩ (Nat.le_of_ble_eq_true rfl) rfl (fun x5 => ?_)
  refine s_if_eq (tgt := 43) dX3_listMistakes_34 (by decide) ?_ ?_
  · exact Sim.sub [0, 1, 2] rfl (sim_X3_listMistakes_b43 l r7 hr7 v0 v1 v2)
  · refine s_aloadn (j := 0) dX3_listMistakes_37 rfl ?_
    refine s_iconst (v := 1) dX3_listMistakes_38 (by decide) ?_
    refine s_iloadn (j := 2) dX3_listMistakes_39 rfl ?_
    refine s_cVV (rest := []) (met_X3_addMistake l v0 1 v2) cls_4 mth_X3_addMistake rfl dX3_listMistakes_40 w_518 w_520 wp_13 ⟨Nat.le_of_ble_eq_true rfl, Nat.le_of_ble_eq_true rfl⟩ (Nat.le_of_ble_eq_true rfl) rfl ?_
    exact Sim.sub [0, 1, 2] rfl (sim_X3_listMistakes_b43 l r7 hr7 v0 v1 v2)
set_option maxRecDepth 20000 in
theorem sim_X3_listMistakes_c7 (l : Launch) (r7 : Option Nat → Int32 → Int32 → ZM Unit) (hr7 : ∀ (v0 : Option Nat) (v1 : Int32) (v2 : Int32), Sim (M_X3_listMistakes l) (zFin zcV) 7 [(0, .inr (.inr v0)), (1, .inl v1), (2, .inl v2)] [] (r7 v0 v1 v2)) (v0 : Option Nat) (v1 : Int32) (v2 : Int32) : Sim (M_X3_listMistakes l) (zFin zcV) 7 [(0, .inr (.inr v0)), (1, .inl v1), (2, .inl v2)] [] (p_X3_listMistakes_c7 r7 v0 v1 v2) := by
  unfold p_X3_listMistakes_c7
  refine s_iloadn (j := 2) dX3_listMistakes_7 rfl ?_
  refine s_iloadn (j := 1) dX3_listMistakes_8 rfl ?_
  refine s_icmp_ge (tgt := 67) dX3_listMistakes_9 (by decide) ?_ ?_
  · exact s_vret dX3_listMistakes_67 rfl
  · refine s_aloadn (j := 0) dX3_listMistakes_12 rfl ?_
    refine s_iloadn (j := 2) dX3_listMistakes_13 rfl ?_
    refine s_cVI (rest := []) (met_X3_isSpelledRight l v0 v2) cls_4 mth_X3_isSpelledRight rfl dX3_listMistakes_14 w_514 w_515 w_516 ⟨Nat.le_of_ble_eq_true rfl, Nat.le_of_ble_eq_true rfl⟩ (Nat.le_of_ble_eq_true rfl) rfl (fun x6 => ?_)
    refine s_if_ne (tgt := 26) dX3_listMistakes_17 (by decide) ?_ ?_
    · exact Sim.sub [0, 1, 2] rfl (sim_X3_listMistakes_b26 l r7 hr7 v0 v1 v2)
    · refine s_aloadn (j := 0) dX3_listMistakes_20 rfl ?_
      refine s_iconst (v := 0) dX3_listMistakes_21 (by decide) ?_
      refine s_iloadn (j := 2) dX3_listMistakes_22 rfl ?_
      refine s_cVV (rest := []) (met_X3_addMistake l v0 0 v2) cls_4 mth_X3_addMistake rfl dX3_listMistakes_23 w_518 w_520 wp_13 ⟨Nat.le_of_ble_eq_true rfl, Nat.le_of_ble_eq_true rfl⟩ (Nat.le_of_ble_eq_true rfl) rfl ?_
      exact Sim.sub [0, 1, 2] rfl (sim_X3_listMistakes_b26 l r7 hr7 v0 v1 v2)
theorem sim_X3_listMistakes_l7 (l : Launch) : ∀ (n : Nat) (v0 : Option Nat) (v1 : Int32) (v2 : Int32), Sim (M_X3_listMistakes l) (zFin zcV) 7 [(0, .inr (.inr v0)), (1, .inl v1), (2, .inl v2)] [] (p_X3_listMistakes_l7 n v0 v1 v2)
  | 0, _, _, _ => s_fl
  | n + 1, v0, v1, v2 => sim_X3_listMistakes_c7 l (p_X3_listMistakes_l7 n) (sim_X3_listMistakes_l7 l n) v0 v1 v2
set_option maxRecDepth 20000 in
theorem sim_X3_listMistakes (l : Launch) (v0 : Option Nat) (v1 : Int32) : Sim (M_X3_listMistakes l) (zFin zcV) 0 [(0, .inr (.inr v0)), (1, .inl v1)] [] (p_X3_listMistakes v0 v1) := by
  unfold p_X3_listMistakes
  refine s_aloadn (j := 0) dX3_listMistakes_0 rfl ?_
  refine s_iconst (v := 0) dX3_listMistakes_1 (by decide) ?_
  refine s_putI (k := 6) cls_4 (by decide) rfl rfl rfl dX3_listMistakes_2 w_238 rfl ?_
  refine s_iconst (v := 0) dX3_listMistakes_5 (by decide) ?_
  refine s_istoren (lv' := [(2, .inl 0), (0, .inr (.inr v0)), (1, .inl v1)]) dX3_listMistakes_6 (Nat.le_of_ble_eq_true rfl) rfl ?_
  exact Sim.sub [1, 2, 0] rfl (sim_X3_listMistakes_l7 l zFuel v0 v1 0)
theorem met_X3_listMistakes (l : Launch) (v0 : Option Nat) (v1 : Int32) : zMet l yX3_listMistakes cX3_listMistakes 3 none 2 44 [.inr (.inr v0), .inl v1] zcV (p_X3_listMistakes v0 v1) :=
  zMet.of (by decide +kernel) (Nat.le_of_ble_eq_true rfl) rfl (sim_X3_listMistakes l v0 v1)
def p_X3_read_b71 (v0 : Option Nat) (v1 : Option Nat) : ZM Unit :=
  z_b (z_vr 10 v1 (p_X9_wordCount v1)) fun x1 => z_b (z_vr 4 v0 (p_X3_listMistakes v0 x1)) fun _ => z_rt ()
def p_X3_read_c3 (r3 : Option Nat → Option Nat → Option Nat → Option Nat → Int32 → ZM Unit) (v0 : Option Nat) (v1 : Option Nat) (v2 : Option Nat) (v3 : Option Nat) (v4 : Int32) : ZM Unit :=
  z_b (z_vr 10 v1 (p_X9_sentenceCount v1)) fun x2 => if x2 ≤ v4 then (p_X3_read_b71 v0 v1)
  else (z_b (z_vr 10 v1 (p_X9_firstWordOf v1 v4)) fun x3 => z_b (z_vr 10 v1 (p_X9_firstWordOf v1 (v4 + 1))) fun x4 => z_b (z_gR 4 0 v0) fun x5 => z_b (z_gR 4 1 v0) fun x6 => z_b (z_vr 1 v2 (p_X0_choose v2 x5 x6 x3 x4)) fun _ => z_b (z_vr 4 v0 (p_X3_markBroken v0 v2 x3 x4)) fun _ => z_b (z_vr 4 v0 (p_X3_takeStyles v0 v1 v3 x3 x4)) fun _ => z_n (v4 + 1 : Int32) fun y7 => r3 v0 v1 v2 v3 y7)
def p_X3_read_l3 : Nat → Option Nat → Option Nat → Option Nat → Option Nat → Int32 → ZM Unit
  | 0, _, _, _, _, _ => z_fl
  | n + 1, v0, v1, v2, v3, v4 => p_X3_read_c3 (p_X3_read_l3 n) v0 v1 v2 v3 v4
def p_X3_read (v0 : Option Nat) (v1 : Option Nat) (v2 : Option Nat) (v3 : Option Nat) : ZM Unit :=
  p_X3_read_l3 zFuel v0 v1 v2 v3 0
abbrev M_X3_read (l : Launch) : ZMe := (l, "SpellScribe$Proof", cX3_read, 7, 5, 123, none, "read", [])
set_option maxRecDepth 20000 in
theorem sim_X3_read_b71 (l : Launch) (v0 : Option Nat) (v1 : Option Nat) : Sim (M_X3_read l) (zFin zcV) 71 [(0, .inr (.inr v0)), (1, .inr (.inr v1))] [] (p_X3_read_b71 v0 v1) := by
  unfold p_X3_read_b71
  refine s_aloadn (j := 0) dX3_read_71 rfl ?_
  refine s_aloadn (j := 1) dX3_read_72 rfl ?_
  refine s_cVI (rest := [.inr (.inr v0)]) (met_X9_wordCount l v1) cls_10 mth_X9_wordCount rfl dX3_read_73 w_509 w_363 w_364 ⟨Nat.le_of_ble_eq_true rfl, Nat.le_of_ble_eq_true rfl⟩ (Nat.le_of_ble_eq_true rfl) rfl (fun x1 => ?_)
  refine s_cVV (rest := []) (met_X3_listMistakes l v0 x1) cls_4 mth_X3_listMistakes rfl dX3_read_76 w_510 w_512 wp_12 ⟨Nat.le_of_ble_eq_true rfl, Nat.le_of_ble_eq_true rfl⟩ (Nat.le_of_ble_eq_true rfl) rfl ?_
  exact s_vret dX3_read_79 rfl
set_option maxRecDepth 20000 in
theorem sim_X3_read_c3 (l : Launch) (r3 : Option Nat → Option Nat → Option Nat → Option Nat → Int32 → ZM Unit) (hr3 : ∀ (v0 : Option Nat) (v1 : Option Nat) (v2 : Option Nat) (v3 : Option Nat) (v4 : Int32), Sim (M_X3_read l) (zFin zcV) 3 [(0, .inr (.inr v0)), (1, .inr (.inr v1)), (2, .inr (.inr v2)), (3, .inr (.inr v3)), (4, .inl v4)] [] (r3 v0 v1 v2 v3 v4)) (v0 : Option Nat) (v1 : Option Nat) (v2 : Option Nat) (v3 : Option Nat) (v4 : Int32) : Sim (M_X3_read l) (zFin zcV) 3 [(0, .inr (.inr v0)), (1, .inr (.inr v1)), (2, .inr (.inr v2)), (3, .inr (.inr v3)), (4, .inl v4)] [] (p_X3_read_c3 r3 v0 v1 v2 v3 v4) := by
  unfold p_X3_read_c3
  refine s_iload (j := 4) dX3_read_3 rfl ?_
  refine s_aloadn (j := 1) dX3_read_5 rfl ?_
  refine s_cVI (rest := [.inl v4]) (met_X9_sentenceCount l v1) cls_10 mth_X9_sentenceCount rfl dX3_read_6 w_415 w_416 w_417 ⟨Nat.le_of_ble_eq_true rfl, Nat.le_of_ble_eq_true rfl⟩ (Nat.le_of_ble_eq_true rfl) rfl (fun x2 => ?_)
  refine s_icmp_ge (tgt := 71) dX3_read_9 (by decide) ?_ ?_
  · exact Sim.sub [0, 1] rfl (sim_X3_read_b71 l v0 v1)
  · refine s_aloadn (j := 1) dX3_read_12 rfl ?_
    refine s_iload (j := 4) dX3_read_13 rfl ?_
    refine s_cVI (rest := []) (met_X9_firstWordOf l v1 v4) cls_10 mth_X9_firstWordOf rfl dX3_read_15 w_419 w_420 w_421 ⟨Nat.le_of_ble_eq_true rfl, Nat.le_of_ble_eq_true rfl⟩ (Nat.le_of_ble_eq_true rfl) rfl (fun x3 => ?_)
    refine s_istore (lv' := [(5, .inl x3), (0, .inr (.inr v0)), (1, .inr (.inr v1)), (2, .inr (.inr v2)), (3, .inr (.inr v3)), (4, .inl v4)]) dX3_read_18 (Nat.le_of_ble_eq_true rfl) rfl ?_
    refine s_aloadn (j := 2) dX3_read_20 rfl ?_
    refine s_iload (j := 5) dX3_read_21 rfl ?_
    refine s_iconst (v := 1) dX3_read_23 (by decide) ?_
    refine s_iadd dX3_read_24 ?_
    refine s_cVI (rest := []) (met_X9_firstWordOf l v1 (v4 + 1)) cls_10 mth_X9_firstWordOf rfl dX3_read_25 w_419 w_420 w_421 ⟨Nat.le_of_ble_eq_true rfl, Nat.le_of_ble_eq_true rfl⟩ (Nat.le_of_ble_eq_true rfl) rfl (fun x4 => ?_)
    refine s_istore (lv' := [(6, .inl x4), (5, .inl x3), (0, .inr (.inr v0)), (1, .inr (.inr v1)), (2, .inr (.inr v2)), (3, .inr (.inr v3)), (4, .inl v4)]) dX3_read_28 (Nat.le_of_ble_eq_true rfl) rfl ?_
    refine s_aloadn (j := 4) dX3_read_30 rfl ?_
    refine s_aloadn (j := 2) dX3_read_31 rfl ?_
    refine s_getR (k := 0) cls_4 (by decide) rfl dX3_read_32 w_232 rfl (fun x5 => ?_)
    refine s_aloadn (j := 2) dX3_read_35 rfl ?_
    refine s_getR (k := 1) cls_4 (by decide) rfl dX3_read_36 w_233 rfl (fun x6 => ?_)
    refine s_iload (j := 1) dX3_read_39 rfl ?_
    refine s_iload (j := 0) dX3_read_41 rfl ?_
    refine s_cVV (rest := []) (met_X0_choose l v2 x5 x6 x3 x4) cls_1 mth_X0_choose rfl dX3_read_43 w_423 w_424 w_425 ⟨Nat.le_of_ble_eq_true rfl, Nat.le_of_ble_eq_true rfl⟩ (Nat.le_of_ble_eq_true rfl) rfl ?_
    refine s_aloadn (j := 2) dX3_read_46 rfl ?_
    refine s_aloadn (j := 4) dX3_read_47 rfl ?_
    refine s_iload (j := 1) dX3_read_48 rfl ?_
    refine s_iload (j := 0) dX3_read_50 rfl ?_
    refine s_cVV (rest := []) (met_X3_markBroken l v0 v2 x3 x4) cls_4 mth_X3_markBroken rfl dX3_read_52 w_446 w_448 wp_9 ⟨Nat.le_of_ble_eq_true rfl, Nat.le_of_ble_eq_true rfl⟩ (Nat.le_of_ble_eq_true rfl) rfl ?_
    refine s_aloadn (j := 2) dX3_read_55 rfl ?_
    refine s_aloadn (j := 3) dX3_read_56 rfl ?_
    refine s_aloadn (j := 5) dX3_read_57 rfl ?_
    refine s_iload (j := 1) dX3_read_58 rfl ?_
    refine s_iload (j := 0) dX3_read_60 rfl ?_
    refine s_cVV (rest := []) (met_X3_takeStyles l v0 v1 v3 x3 x4) cls_4 mth_X3_takeStyles rfl dX3_read_62 w_452 w_454 wp_10 ⟨Nat.le_of_ble_eq_true rfl, Nat.le_of_ble_eq_true rfl⟩ (Nat.le_of_ble_eq_true rfl) rfl ?_
    refine s_n0 (fun y7 hy7 => ?_)
    refine s_iinc (j := 6) (v := y7) (d := 1) (lv' := [(4, .inl y7), (6, .inl x4), (5, .inl x3), (0, .inr (.inr v0)), (1, .inr (.inr v1)), (2, .inr (.inr v2)), (3, .inr (.inr v3))]) dX3_read_65 rfl (by decide) hy7 (Nat.le_of_ble_eq_true rfl) rfl ?_
    refine s_goto (tgt := 3) dX3_read_68 (by decide) ?_
    exact Sim.sub [3, 4, 5, 6, 0] rfl (hr3 v0 v1 v2 v3 y7)
theorem sim_X3_read_l3 (l : Launch) : ∀ (n : Nat) (v0 : Option Nat) (v1 : Option Nat) (v2 : Option Nat) (v3 : Option Nat) (v4 : Int32), Sim (M_X3_read l) (zFin zcV) 3 [(0, .inr (.inr v0)), (1, .inr (.inr v1)), (2, .inr (.inr v2)), (3, .inr (.inr v3)), (4, .inl v4)] [] (p_X3_read_l3 n v0 v1 v2 v3 v4)
  | 0, _, _, _, _, _ => s_fl
  | n + 1, v0, v1, v2, v3, v4 => sim_X3_read_c3 l (p_X3_read_l3 n) (sim_X3_read_l3 l n) v0 v1 v2 v3 v4
set_option maxRecDepth 20000 in
theorem sim_X3_read (l : Launch) (v0 : Option Nat) (v1 : Option Nat) (v2 : Option Nat) (v3 : Option Nat) : Sim (M_X3_read l) (zFin zcV) 0 [(0, .inr (.inr v0)), (1, .inr (.inr v1)), (2, .inr (.inr v2)), (3, .inr (.inr v3))] [] (p_X3_read v0 v1 v2 v3) := by
  unfold p_X3_read
  refine s_iconst (v := 0) dX3_read_0 (by decide) ?_
  refine s_istore (lv' := [(4, .inl 0), (0, .inr (.inr v0)), (1, .inr (.inr v1)), (2, .inr (.inr v2)), (3, .inr (.inr v3))]) dX3_read_1 (Nat.le_of_ble_eq_true rfl) rfl ?_
  exact Sim.sub [1, 2, 3, 4, 0] rfl (sim_X3_read_l3 l zFuel v0 v1 v2 v3 0)
theorem met_X3_read (l : Launch) (v0 : Option Nat) (v1 : Option Nat) (v2 : Option Nat) (v3 : Option Nat) : zMet l yX3_read cX3_read 7 none 5 123 [.inr (.inr v0), .inr (.inr v1), .inr (.inr v2), .inr (.inr v3)] zcV (p_X3_read v0 v1 v2 v3) :=
  zMet.of (by decide +kernel) (Nat.le_of_ble_eq_true rfl) rfl (sim_X3_read l v0 v1 v2 v3)
def p_X5_init (v0 : Option Nat) (v1 : Int32) (v2 : Int32) (v3 : Int32) (v4 : Int32) (v5 : Int32) (v6 : Int32) (v7 : Int32) : ZM Unit :=
  z_b (z_ii v0 (z_rt ())) fun _ => z_b (z_pI 6 0 v0 v1) fun _ => z_b (z_pZ 6 1 v0 v2) fun _ => z_b (z_pI 6 2 v0 v3) fun _ => z_b (z_pI 6 3 v0 v4) fun _ => z_b (z_pI 6 4 v0 v5) fun _ => z_b (z_pI 6 5 v0 v6) fun _ => z_b (z_pI 6 6 v0 v7) fun _ => z_rt ()
abbrev M_X5_init (l : Launch) : ZMe := (l, "SpellScribe$Rule", cX5_init, 8, 1, 12, none, "<init>", [])
set_option maxRecDepth 20000 in
theorem sim_X5_init (l : Launch) (v0 : Option Nat) (v1 : Int32) (v2 : Int32) (v3 : Int32) (v4 : Int32) (v5 : Int32) (v6 : Int32) (v7 : Int32) : Sim (M_X5_init l) (zFin zcV) 0 [(0, .inr (.inr v0)), (1, .inl v1), (2, .inl v2), (3, .inl v3), (4, .inl v4), (5, .inl v5), (6, .inl v6), (7, .inl v7)] [] (p_X5_init v0 v1 v2 v3 v4 v5 v6 v7) := by
  unfold p_X5_init
  refine s_aloadn (j := 0) dX5_init_0 rfl ?_
  refine s_objInit dX5_init_1 w_996 w_35 w_36 ⟨Nat.le_of_ble_eq_true rfl, Nat.le_of_ble_eq_true rfl⟩ ?_
  refine s_aloadn (j := 0) dX5_init_4 rfl ?_
  refine s_iloadn (j := 1) dX5_init_5 rfl ?_
  refine s_putIF (k := 0) cls_6 (by decide) rfl rfl rfl rfl rfl dX5_init_6 w_997 rfl ?_
  refine s_aloadn (j := 0) dX5_init_9 rfl ?_
  refine s_iloadn (j := 2) dX5_init_10 rfl ?_
  refine s_putZF (k := 1) cls_6 (by decide) rfl rfl rfl rfl rfl dX5_init_11 w_998 rfl ?_
  refine s_aloadn (j := 0) dX5_init_14 rfl ?_
  refine s_iloadn (j := 3) dX5_init_15 rfl ?_
  refine s_putIF (k := 2) cls_6 (by decide) rfl rfl rfl rfl rfl dX5_init_16 w_1000 rfl ?_
  refine s_aloadn (j := 0) dX5_init_19 rfl ?_
  refine s_iload (j := 4) dX5_init_20 rfl ?_
  refine s_putIF (k := 3) cls_6 (by decide) rfl rfl rfl rfl rfl dX5_init_22 w_1001 rfl ?_
  refine s_aloadn (j := 0) dX5_init_25 rfl ?_
  refine s_iload (j := 5) dX5_init_26 rfl ?_
  refine s_putIF (k := 4) cls_6 (by decide) rfl rfl rfl rfl rfl dX5_init_28 w_1002 rfl ?_
  refine s_aloadn (j := 0) dX5_init_31 rfl ?_
  refine s_iload (j := 6) dX5_init_32 rfl ?_
  refine s_putIF (k := 5) cls_6 (by decide) rfl rfl rfl rfl rfl dX5_init_34 w_1003 rfl ?_
  refine s_aloadn (j := 0) dX5_init_37 rfl ?_
  refine s_iload (j := 7) dX5_init_38 rfl ?_
  refine s_putIF (k := 6) cls_6 (by decide) rfl rfl rfl rfl rfl dX5_init_40 w_1004 rfl ?_
  exact s_vret dX5_init_43 rfl
theorem met_X5_init (l : Launch) (v0 : Option Nat) (v1 : Int32) (v2 : Int32) (v3 : Int32) (v4 : Int32) (v5 : Int32) (v6 : Int32) (v7 : Int32) : zMet l yX5_init cX5_init 8 none 1 12 [.inr (.inr v0), .inl v1, .inl v2, .inl v3, .inl v4, .inl v5, .inl v6, .inl v7] zcV (p_X5_init v0 v1 v2 v3 v4 v5 v6 v7) :=
  zMet.of (by decide +kernel) (Nat.le_of_ble_eq_true rfl) rfl (sim_X5_init l v0 v1 v2 v3 v4 v5 v6 v7)
def p_X6_init (v0 : Option Nat) (v1 : Int32) (v2 : Int32) (v3 : Int32) (v4 : Int32) (v5 : Int32) : ZM Unit :=
  z_b (z_ii v0 (z_rt ())) fun _ => z_b (z_pI 7 0 v0 v1) fun _ => z_b (z_pI 7 1 v0 v2) fun _ => z_b (z_pI 7 2 v0 v3) fun _ => z_b (z_pI 7 3 v0 v4) fun _ => z_b (z_pI 7 4 v0 v5) fun _ => z_rt ()
abbrev M_X6_init (l : Launch) : ZMe := (l, "SpellScribe$Stem", cX6_init, 6, 1, 12, none, "<init>", [])
set_option maxRecDepth 20000 in
theorem sim_X6_init (l : Launch) (v0 : Option Nat) (v1 : Int32) (v2 : Int32) (v3 : Int32) (v4 : Int32) (v5 : Int32) : Sim (M_X6_init l) (zFin zcV) 0 [(0, .inr (.inr v0)), (1, .inl v1), (2, .inl v2), (3, .inl v3), (4, .inl v4), (5, .inl v5)] [] (p_X6_init v0 v1 v2 v3 v4 v5) := by
  unfold p_X6_init
  refine s_aloadn (j := 0) dX6_init_0 rfl ?_
  refine s_objInit dX6_init_1 w_820 w_35 w_36 ⟨Nat.le_of_ble_eq_true rfl, Nat.le_of_ble_eq_true rfl⟩ ?_
  refine s_aloadn (j := 0) dX6_init_4 rfl ?_
  refine s_iloadn (j := 1) dX6_init_5 rfl ?_
  refine s_putIF (k := 0) cls_7 (by decide) rfl rfl rfl rfl rfl dX6_init_6 w_821 rfl ?_
  refine s_aloadn (j := 0) dX6_init_9 rfl ?_
  refine s_iloadn (j := 2) dX6_init_10 rfl ?_
  refine s_putIF (k := 1) cls_7 (by decide) rfl rfl rfl rfl rfl dX6_init_11 w_823 rfl ?_
  refine s_aloadn (j := 0) dX6_init_14 rfl ?_
  refine s_iloadn (j := 3) dX6_init_15 rfl ?_
  refine s_putIF (k := 2) cls_7 (by decide) rfl rfl rfl rfl rfl dX6_init_16 w_825 rfl ?_
  refine s_aloadn (j := 0) dX6_init_19 rfl ?_
  refine s_iload (j := 4) dX6_init_20 rfl ?_
  refine s_putIF (k := 3) cls_7 (by decide) rfl rfl rfl rfl rfl dX6_init_22 w_827 rfl ?_
  refine s_aloadn (j := 0) dX6_init_25 rfl ?_
  refine s_iload (j := 5) dX6_init_26 rfl ?_
  refine s_putIF (k := 4) cls_7 (by decide) rfl rfl rfl rfl rfl dX6_init_28 w_829 rfl ?_
  exact s_vret dX6_init_31 rfl
theorem met_X6_init (l : Launch) (v0 : Option Nat) (v1 : Int32) (v2 : Int32) (v3 : Int32) (v4 : Int32) (v5 : Int32) : zMet l yX6_init cX6_init 6 none 1 12 [.inr (.inr v0), .inl v1, .inl v2, .inl v3, .inl v4, .inl v5] zcV (p_X6_init v0 v1 v2 v3 v4 v5) :=
  zMet.of (by decide +kernel) (Nat.le_of_ble_eq_true rfl) rfl (sim_X6_init l v0 v1 v2 v3 v4 v5)
def p_X7_init (v0 : Option Nat) : ZM Unit :=
  z_b (z_ii v0 (z_rt ())) fun _ => z_b (z_nO 5 1) fun x1 => z_b (z_ii x1 (p_X4_init x1 3)) fun _ => z_b (z_pR 8 0 v0 x1) fun _ => z_b (z_pI 8 3 v0 1) fun _ => z_rt ()
abbrev M_X7_init (l : Launch) : ZMe := (l, "SpellScribe$Style", cX7_init, 1, 2, 33, none, "<init>", [])
set_option maxRecDepth 20000 in
theorem sim_X7_init (l : Launch) (v0 : Option Nat) : Sim (M_X7_init l) (zFin zcV) 0 [(0, .inr (.inr v0))] [] (p_X7_init v0) := by
  unfold p_X7_init
  refine s_aloadn (j := 0) dX7_init_0 rfl ?_
  refine s_objInit dX7_init_1 w_259 w_35 w_36 ⟨Nat.le_of_ble_eq_true rfl, Nat.le_of_ble_eq_true rfl⟩ ?_
  refine s_aloadn (j := 0) dX7_init_4 rfl ?_
  refine s_new cls_5 zck_5 dX7_init_5 w_260 w_76 w_7 (fun x1 => ?_)
  refine s_dupR dX7_init_8 ?_
  refine s_iconst (v := 3) dX7_init_9 (by decide) ?_
  refine s_callI (rest := [.inr (.inr x1), .inr (.inr v0)]) (met_X4_init l x1 3) mth_X4_init rfl rfl dX7_init_10 w_261 w_78 ⟨Nat.le_of_ble_eq_true rfl, Nat.le_of_ble_eq_true rfl⟩ (Nat.le_of_ble_eq_true rfl) rfl ?_
  refine s_putRF (k := 0) cls_8 (by decide) rfl rfl rfl rfl rfl dX7_init_13 w_262 rfl ?_
  refine s_aloadn (j := 0) dX7_init_16 rfl ?_
  refine s_iconst (v := 1) dX7_init_17 (by decide) ?_
  refine s_putI (k := 3) cls_8 (by decide) rfl rfl rfl dX7_init_18 w_268 rfl ?_
  exact s_vret dX7_init_21 rfl
theorem met_X7_init (l : Launch) (v0 : Option Nat) : zMet l yX7_init cX7_init 1 none 2 33 [.inr (.inr v0)] zcV (p_X7_init v0) :=
  zMet.of (by decide +kernel) (Nat.le_of_ble_eq_true rfl) rfl (sim_X7_init l v0)
def p_X7_addItem (v0 : Option Nat) (v1 : Int32) : ZM Unit :=
  z_b (z_gR 8 0 v0) fun x1 => z_b (z_gI 8 1 v0) fun x2 => z_b (z_vr 5 x1 (p_X4_set x1 x2 v1)) fun _ => z_b (z_gI 8 1 v0) fun x3 => z_b (z_pI 8 1 v0 (x3 + 1)) fun _ => z_rt ()
abbrev M_X7_addItem (l : Launch) : ZMe := (l, "SpellScribe$Style", cX7_addItem, 2, 1, 22, none, "addItem", [])
set_option maxRecDepth 20000 in
theorem sim_X7_addItem (l : Launch) (v0 : Option Nat) (v1 : Int32) : Sim (M_X7_addItem l) (zFin zcV) 0 [(0, .inr (.inr v0)), (1, .inl v1)] [] (p_X7_addItem v0 v1) := by
  unfold p_X7_addItem
  refine s_aloadn (j := 0) dX7_addItem_0 rfl ?_
  refine s_getR (k := 0) cls_8 (by decide) rfl dX7_addItem_1 w_262 rfl (fun x1 => ?_)
  refine s_aloadn (j := 0) dX7_addItem_4 rfl ?_
  refine s_getI (k := 1) cls_8 (by decide) rfl dX7_addItem_5 w_263 rfl (fun x2 => ?_)
  refine s_iloadn (j := 1) dX7_addItem_8 rfl ?_
  refine s_cVV (rest := []) (met_X4_set l x1 x2 v1) cls_5 mth_X4_set rfl dX7_addItem_9 w_1160 w_347 w_348 ⟨Nat.le_of_ble_eq_true rfl, Nat.le_of_ble_eq_true rfl⟩ (Nat.le_of_ble_eq_true rfl) rfl ?_
  refine s_aloadn (j := 0) dX7_addItem_12 rfl ?_
  refine s_dupR dX7_addItem_13 ?_
  refine s_getI (k := 1) cls_8 (by decide) rfl dX7_addItem_14 w_263 rfl (fun x3 => ?_)
  refine s_iconst (v := 1) dX7_addItem_17 (by decide) ?_
  refine s_iadd dX7_addItem_18 ?_
  refine s_putI (k := 1) cls_8 (by decide) rfl rfl rfl dX7_addItem_19 w_263 rfl ?_
  exact s_vret dX7_addItem_22 rfl
theorem met_X7_addItem (l : Launch) (v0 : Option Nat) (v1 : Int32) : zMet l yX7_addItem cX7_addItem 2 none 1 22 [.inr (.inr v0), .inl v1] zcV (p_X7_addItem v0 v1) :=
  zMet.of (by decide +kernel) (Nat.le_of_ble_eq_true rfl) rfl (sim_X7_addItem l v0 v1)
def p_X7_setChange (v0 : Option Nat) (v1 : Int32) (v2 : Int32) : ZM Unit :=
  z_b (z_pI 8 2 v0 v1) fun _ => z_b (z_pI 8 3 v0 v2) fun _ => z_rt ()
abbrev M_X7_setChange (l : Launch) : ZMe := (l, "SpellScribe$Style", cX7_setChange, 3, 0, 0, none, "setChange", [])
set_option maxRecDepth 20000 in
theorem sim_X7_setChange (l : Launch) (v0 : Option Nat) (v1 : Int32) (v2 : Int32) : Sim (M_X7_setChange l) (zFin zcV) 0 [(0, .inr (.inr v0)), (1, .inl v1), (2, .inl v2)] [] (p_X7_setChange v0 v1 v2) := by
  unfold p_X7_setChange
  refine s_aloadn (j := 0) dX7_setChange_0 rfl ?_
  refine s_iloadn (j := 1) dX7_setChange_1 rfl ?_
  refine s_putI (k := 2) cls_8 (by decide) rfl rfl rfl dX7_setChange_2 w_266 rfl ?_
  refine s_aloadn (j := 0) dX7_setChange_5 rfl ?_
  refine s_iloadn (j := 2) dX7_setChange_6 rfl ?_
  refine s_putI (k := 3) cls_8 (by decide) rfl rfl rfl dX7_setChange_7 w_268 rfl ?_
  exact s_vret dX7_setChange_10 rfl
theorem met_X7_setChange (l : Launch) (v0 : Option Nat) (v1 : Int32) (v2 : Int32) : zMet l yX7_setChange cX7_setChange 3 none 0 0 [.inr (.inr v0), .inl v1, .inl v2] zcV (p_X7_setChange v0 v1 v2) :=
  zMet.of (by decide +kernel) (Nat.le_of_ble_eq_true rfl) rfl (sim_X7_setChange l v0 v1 v2)
def p_X8_init (v0 : Option Nat) : ZM Unit :=
  z_b (z_ii v0 (z_rt ())) fun _ => z_b (z_nO 5 1) fun x1 => z_b (z_ii x1 (p_X4_init x1 64)) fun _ => z_b (z_pR 9 0 v0 x1) fun _ => z_b (z_nO 5 1) fun x2 => z_b (z_ii x2 (p_X4_init x2 100)) fun _ => z_b (z_pR 9 1 v0 x2) fun _ => z_b (z_nO 5 1) fun x3 => z_b (z_ii x3 (p_X4_init x3 10)) fun _ => z_b (z_pR 9 2 v0 x3) fun _ => z_b (z_nO 5 1) fun x4 => z_b (z_ii x4 (p_X4_init x4 1111)) fun _ => z_b (z_pR 9 3 v0 x4) fun _ => z_b (z_nO 5 1) fun x5 => z_b (z_ii x5 (p_X4_init x5 1558)) fun _ => z_b (z_pR 9 4 v0 x5) fun _ => z_b (z_nO 5 1) fun x6 => z_b (z_ii x6 (p_X4_init x6 5)) fun _ => z_b (z_pR 9 5 v0 x6) fun _ => z_rt ()
abbrev M_X8_init (l : Launch) : ZMe := (l, "SpellScribe$Suggester", cX8_init, 1, 2, 33, none, "<init>", [])
set_option maxRecDepth 20000 in
theorem sim_X8_init (l : Launch) (v0 : Option Nat) : Sim (M_X8_init l) (zFin zcV) 0 [(0, .inr (.inr v0))] [] (p_X8_init v0) := by
  unfold p_X8_init
  refine s_aloadn (j := 0) dX8_init_0 rfl ?_
  refine s_objInit dX8_init_1 w_123 w_35 w_36 ⟨Nat.le_of_ble_eq_true rfl, Nat.le_of_ble_eq_true rfl⟩ ?_
  refine s_aloadn (j := 0) dX8_init_4 rfl ?_
  refine s_new cls_5 zck_5 dX8_init_5 w_124 w_76 w_7 (fun x1 => ?_)
  refine s_dupR dX8_init_8 ?_
  refine s_bipush (v := 64) dX8_init_9 (by decide) ?_
  refine s_callI (rest := [.inr (.inr x1), .inr (.inr v0)]) (met_X4_init l x1 64) mth_X4_init rfl rfl dX8_init_11 w_125 w_78 ⟨Nat.le_of_ble_eq_true rfl, Nat.le_of_ble_eq_true rfl⟩ (Nat.le_of_ble_eq_true rfl) rfl ?_
  refine s_putRF (k := 0) cls_9 (by decide) rfl rfl rfl rfl rfl dX8_init_14 w_126 rfl ?_
  refine s_aloadn (j := 0) dX8_init_17 rfl ?_
  refine s_new cls_5 zck_5 dX8_init_18 w_124 w_76 w_7 (fun x2 => ?_)
  refine s_dupR dX8_init_21 ?_
  refine s_bipush (v := 100) dX8_init_22 (by decide) ?_
  refine s_callI (rest := [.inr (.inr x2), .inr (.inr v0)]) (met_X4_init l x2 100) mth_X4_init rfl rfl dX8_init_24 w_125 w_78 ⟨Nat.le_of_ble_eq_true rfl, Nat.le_of_ble_eq_true rfl⟩ (Nat.le_of_ble_eq_true rfl) rfl ?_
  refine s_putRF (k := 1) cls_9 (by decide) rfl rfl rfl rfl rfl dX8_init_27 w_127 rfl ?_
  refine s_aloadn (j := 0) dX8_init_30 rfl ?_
  refine s_new cls_5 zck_5 dX8_init_31 w_124 w_76 w_7 (fun x3 => ?_)
  refine s_dupR dX8_init_34 ?_
  refine s_bipush (v := 10) dX8_init_35 (by decide) ?_
  refine s_callI (rest := [.inr (.inr x3), .inr (.inr v0)]) (met_X4_init l x3 10) mth_X4_init rfl rfl dX8_init_37 w_125 w_78 ⟨Nat.le_of_ble_eq_true rfl, Nat.le_of_ble_eq_true rfl⟩ (Nat.le_of_ble_eq_true rfl) rfl ?_
  refine s_putRF (k := 2) cls_9 (by decide) rfl rfl rfl rfl rfl dX8_init_40 w_128 rfl ?_
  refine s_aloadn (j := 0) dX8_init_43 rfl ?_
  refine s_new cls_5 zck_5 dX8_init_44 w_124 w_76 w_7 (fun x4 => ?_)
  refine s_dupR dX8_init_47 ?_
  refine s_sipush (v := 1111) dX8_init_48 (by decide) ?_
  refine s_callI (rest := [.inr (.inr x4), .inr (.inr v0)]) (met_X4_init l x4 1111) mth_X4_init rfl rfl dX8_init_51 w_125 w_78 ⟨Nat.le_of_ble_eq_true rfl, Nat.le_of_ble_eq_true rfl⟩ (Nat.le_of_ble_eq_true rfl) rfl ?_
  refine s_putRF (k := 3) cls_9 (by decide) rfl rfl rfl rfl rfl dX8_init_54 w_129 rfl ?_
  refine s_aloadn (j := 0) dX8_init_57 rfl ?_
  refine s_new cls_5 zck_5 dX8_init_58 w_124 w_76 w_7 (fun x5 => ?_)
  refine s_dupR dX8_init_61 ?_
  refine s_sipush (v := 1558) dX8_init_62 (by decide) ?_
  refine s_callI (rest := [.inr (.inr x5), .inr (.inr v0)]) (met_X4_init l x5 1558) mth_X4_init rfl rfl dX8_init_65 w_125 w_78 ⟨Nat.le_of_ble_eq_true rfl, Nat.le_of_ble_eq_true rfl⟩ (Nat.le_of_ble_eq_true rfl) rfl ?_
  refine s_putRF (k := 4) cls_9 (by decide) rfl rfl rfl rfl rfl dX8_init_68 w_130 rfl ?_
  refine s_aloadn (j := 0) dX8_init_71 rfl ?_
  refine s_new cls_5 zck_5 dX8_init_72 w_124 w_76 w_7 (fun x6 => ?_)
  refine s_dupR dX8_init_75 ?_
  refine s_iconst (v := 5) dX8_init_76 (by decide) ?_
  refine s_callI (rest := [.inr (.inr x6), .inr (.inr v0)]) (met_X4_init l x6 5) mth_X4_init rfl rfl dX8_init_77 w_125 w_78 ⟨Nat.le_of_ble_eq_true rfl, Nat.le_of_ble_eq_true rfl⟩ (Nat.le_of_ble_eq_true rfl) rfl ?_
  refine s_putRF (k := 5) cls_9 (by decide) rfl rfl rfl rfl rfl dX8_init_80 w_131 rfl ?_
  exact s_vret dX8_init_83 rfl
theorem met_X8_init (l : Launch) (v0 : Option Nat) : zMet l yX8_init cX8_init 1 none 2 33 [.inr (.inr v0)] zcV (p_X8_init v0) :=
  zMet.of (by decide +kernel) (Nat.le_of_ble_eq_true rfl) rfl (sim_X8_init l v0)
def p_X8_addSound_b21 (v0 : Option Nat) (v1 : Int32) (v2 : Int32) (s0 : Int32) : ZM Int32 :=
  z_b (z_gR 9 0 v0) fun x1 => z_b (z_vr 5 x1 (p_X4_set x1 ((v1 * 8) + v2) 1)) fun _ => z_b (z_gR 9 0 v0) fun x2 => z_b (z_vr 5 x2 (p_X4_set x2 ((v2 * 8) + v1) 1)) fun _ => z_rz s0
def p_X8_addSound (v0 : Option Nat) (v1 : Int32) (v2 : Int32) : ZM Int32 :=
  z_b (z_gR 9 0 v0) fun x3 => z_b (z_vr 5 x3 (p_X4_get x3 ((v1 * 8) + v2))) fun x4 => if ¬ x4 = 0 then (p_X8_addSound_b21 v0 v1 v2 0)
  else (p_X8_addSound_b21 v0 v1 v2 1)
abbrev M_X8_addSound (l : Launch) : ZMe := (l, "SpellScribe$Suggester", cX8_addSound, 4, 1, 22, (some .boolean), "addSound", [])
set_option maxRecDepth 20000 in
theorem sim_X8_addSound_b21 (l : Launch) (v0 : Option Nat) (v1 : Int32) (v2 : Int32) (s0 : Int32) : Sim (M_X8_addSound l) (zFin zcI) 21 [(0, .inr (.inr v0)), (1, .inl v1), (2, .inl v2)] [.inl s0] (p_X8_addSound_b21 v0 v1 v2 s0) := by
  unfold p_X8_addSound_b21
  refine s_istoren (lv' := [(3, .inl s0), (0, .inr (.inr v0)), (1, .inl v1), (2, .inl v2)]) dX8_addSound_21 (Nat.le_of_ble_eq_true rfl) rfl ?_
  refine s_aloadn (j := 1) dX8_addSound_22 rfl ?_
  refine s_getR (k := 0) cls_9 (by decide) rfl dX8_addSound_23 w_126 rfl (fun x1 => ?_)
  refine s_iloadn (j := 2) dX8_addSound_26 rfl ?_
  refine s_bipush (v := 8) dX8_addSound_27 (by decide) ?_
  refine s_imul dX8_addSound_29 ?_
  refine s_iloadn (j := 3) dX8_addSound_30 rfl ?_
  refine s_iadd dX8_addSound_31 ?_
  refine s_iconst (v := 1) dX8_addSound_32 (by decide) ?_
  refine s_cVV (rest := []) (met_X4_set l x1 ((v1 * 8) + v2) 1) cls_5 mth_X4_set rfl dX8_addSound_33 w_547 w_347 w_348 ⟨Nat.le_of_ble_eq_true rfl, Nat.le_of_ble_eq_true rfl⟩ (Nat.le_of_ble_eq_true rfl) rfl ?_
  refine s_aloadn (j := 1) dX8_addSound_36 rfl ?_
  refine s_getR (k := 0) cls_9 (by decide) rfl dX8_addSound_37 w_126 rfl (fun x2 => ?_)
  refine s_iloadn (j := 3) dX8_addSound_40 rfl ?_
  refine s_bipush (v := 8) dX8_addSound_41 (by decide) ?_
  refine s_imul dX8_addSound_43 ?_
  refine s_iloadn (j := 2) dX8_addSound_44 rfl ?_
  refine s_iadd dX8_addSound_45 ?_
  refine s_iconst (v := 1) dX8_addSound_46 (by decide) ?_
  refine s_cVV (rest := []) (met_X4_set l x2 ((v2 * 8) + v1) 1) cls_5 mth_X4_set rfl dX8_addSound_47 w_547 w_347 w_348 ⟨Nat.le_of_ble_eq_true rfl, Nat.le_of_ble_eq_true rfl⟩ (Nat.le_of_ble_eq_true rfl) rfl ?_
  refine s_iloadn (j := 0) dX8_addSound_50 rfl ?_
  exact s_zret dX8_addSound_51 rfl
set_option maxRecDepth 20000 in
theorem sim_X8_addSound (l : Launch) (v0 : Option Nat) (v1 : Int32) (v2 : Int32) : Sim (M_X8_addSound l) (zFin zcI) 0 [(0, .inr (.inr v0)), (1, .inl v1), (2, .inl v2)] [] (p_X8_addSound v0 v1 v2) := by
  unfold p_X8_addSound
  refine s_aloadn (j := 0) dX8_addSound_0 rfl ?_
  refine s_getR (k := 0) cls_9 (by decide) rfl dX8_addSound_1 w_126 rfl (fun x3 => ?_)
  refine s_iloadn (j := 1) dX8_addSound_4 rfl ?_
  refine s_bipush (v := 8) dX8_addSound_5 (by decide) ?_
  refine s_imul dX8_addSound_7 ?_
  refine s_iloadn (j := 2) dX8_addSound_8 rfl ?_
  refine s_iadd dX8_addSound_9 ?_
  refine s_cVI (rest := []) (met_X4_get l x3 ((v1 * 8) + v2)) cls_5 mth_X4_get rfl dX8_addSound_10 w_580 w_355 w_356 ⟨Nat.le_of_ble_eq_true rfl, Nat.le_of_ble_eq_true rfl⟩ (Nat.le_of_ble_eq_true rfl) rfl (fun x4 => ?_)
  refine s_if_ne (tgt := 20) dX8_addSound_13 (by decide) ?_ ?_
  · refine s_iconst (v := 0) dX8_addSound_20 (by decide) ?_
    exact Sim.sub [0, 1, 2] rfl (sim_X8_addSound_b21 l v0 v1 v2 0)
  · refine s_iconst (v := 1) dX8_addSound_16 (by decide) ?_
    refine s_goto (tgt := 21) dX8_addSound_17 (by decide) ?_
    exact Sim.sub [0, 1, 2] rfl (sim_X8_addSound_b21 l v0 v1 v2 1)
theorem met_X8_addSound (l : Launch) (v0 : Option Nat) (v1 : Int32) (v2 : Int32) : zMet l yX8_addSound cX8_addSound 4 (some .boolean) 1 22 [.inr (.inr v0), .inl v1, .inl v2] zcI (p_X8_addSound v0 v1 v2) :=
  zMet.of (by decide +kernel) (Nat.le_of_ble_eq_true rfl) rfl (sim_X8_addSound l v0 v1 v2)
def p_X8_count (v0 : Option Nat) : ZM Int32 :=
  z_b (z_gI 9 7 v0) fun x1 => z_rt x1
abbrev M_X8_count (l : Launch) : ZMe := (l, "SpellScribe$Suggester", cX8_count, 1, 0, 0, (some .int), "count", [])
set_option maxRecDepth 20000 in
theorem sim_X8_count (l : Launch) (v0 : Option Nat) : Sim (M_X8_count l) (zFin zcI) 0 [(0, .inr (.inr v0))] [] (p_X8_count v0) := by
  unfold p_X8_count
  refine s_aloadn (j := 0) dX8_count_0 rfl ?_
  refine s_getI (k := 7) cls_9 (by decide) rfl dX8_count_1 w_133 rfl (fun x1 => ?_)
  exact s_iret dX8_count_4 rfl
theorem met_X8_count (l : Launch) (v0 : Option Nat) : zMet l yX8_count cX8_count 1 (some .int) 0 0 [.inr (.inr v0)] zcI (p_X8_count v0) :=
  zMet.of (by decide +kernel) (Nat.le_of_ble_eq_true rfl) rfl (sim_X8_count l v0)
def p_X8_listedWord (v0 : Option Nat) (v1 : Int32) : ZM Int32 :=
  z_b (z_gR 9 4 v0) fun x1 => z_b (z_vr 5 x1 (p_X4_get x1 v1)) fun x2 => z_rt x2
abbrev M_X8_listedWord (l : Launch) : ZMe := (l, "SpellScribe$Suggester", cX8_listedWord, 2, 1, 21, (some .int), "listedWord", [])
set_option maxRecDepth 20000 in
theorem sim_X8_listedWord (l : Launch) (v0 : Option Nat) (v1 : Int32) : Sim (M_X8_listedWord l) (zFin zcI) 0 [(0, .inr (.inr v0)), (1, .inl v1)] [] (p_X8_listedWord v0 v1) := by
  unfold p_X8_listedWord
  refine s_aloadn (j := 0) dX8_listedWord_0 rfl ?_
  refine s_getR (k := 4) cls_9 (by decide) rfl dX8_listedWord_1 w_130 rfl (fun x1 => ?_)
  refine s_iloadn (j := 1) dX8_listedWord_4 rfl ?_
  refine s_cVI (rest := []) (met_X4_get l x1 v1) cls_5 mth_X4_get rfl dX8_listedWord_5 w_580 w_355 w_356 ⟨Nat.le_of_ble_eq_true rfl, Nat.le_of_ble_eq_true rfl⟩ (Nat.le_of_ble_eq_true rfl) rfl (fun x2 => ?_)
  exact s_iret dX8_listedWord_8 rfl
theorem met_X8_listedWord (l : Launch) (v0 : Option Nat) (v1 : Int32) : zMet l yX8_listedWord cX8_listedWord 2 (some .int) 1 21 [.inr (.inr v0), .inl v1] zcI (p_X8_listedWord v0 v1) :=
  zMet.of (by decide +kernel) (Nat.le_of_ble_eq_true rfl) rfl (sim_X8_listedWord l v0 v1)
def p_X8_costOfListed_c2 (r2 : Option Nat → Int32 → Int32 → ZM Int32) (v0 : Option Nat) (v1 : Int32) (v2 : Int32) : ZM Int32 :=
  if 4 ≤ v2 then (z_rt v2)
  else (z_b (z_gR 9 5 v0) fun x1 => z_b (z_vr 5 x1 (p_X4_get x1 v2)) fun x2 => if v1 < x2 then (z_rt v2)
  else (z_n (v2 + 1 : Int32) fun y3 => r2 v0 v1 y3))
def p_X8_costOfListed_l2 : Nat → Option Nat → Int32 → Int32 → ZM Int32
  | 0, _, _, _ => z_fl
  | n + 1, v0, v1, v2 => p_X8_costOfListed_c2 (p_X8_costOfListed_l2 n) v0 v1 v2
def p_X8_costOfListed (v0 : Option Nat) (v1 : Int32) : ZM Int32 :=
  p_X8_costOfListed_l2 zFuel v0 v1 1
abbrev M_X8_costOfListed (l : Launch) : ZMe := (l, "SpellScribe$Suggester", cX8_costOfListed, 3, 1, 21, (some .int), "costOfListed", [])
set_option maxRecDepth 20000 in
theorem sim_X8_costOfListed_c2 (l : Launch) (r2 : Option Nat → Int32 → Int32 → ZM Int32) (hr2 : ∀ (v0 : Option Nat) (v1 : Int32) (v2 : Int32), Sim (M_X8_costOfListed l) (zFin zcI) 2 [(0, .inr (.inr v0)), (1, .inl v1), (2, .inl v2)] [] (r2 v0 v1 v2)) (v0 : Option Nat) (v1 : Int32) (v2 : Int32) : Sim (M_X8_costOfListed l) (zFin zcI) 2 [(0, .inr (.inr v0)), (1, .inl v1), (2, .inl v2)] [] (p_X8_costOfListed_c2 r2 v0 v1 v2) := by
  unfold p_X8_costOfListed_c2
  refine s_iloadn (j := 2) dX8_costOfListed_2 rfl ?_
  refine s_iconst (v := 4) dX8_costOfListed_3 (by decide) ?_
  refine s_icmp_ge (tgt := 25) dX8_costOfListed_4 (by decide) ?_ ?_
  · refine s_iloadn (j := 2) dX8_costOfListed_25 rfl ?_
    exact s_iret dX8_costOfListed_26 rfl
  · refine s_iloadn (j := 1) dX8_costOfListed_7 rfl ?_
    refine s_aloadn (j := 0) dX8_costOfListed_8 rfl ?_
    refine s_getR (k := 5) cls_9 (by decide) rfl dX8_costOfListed_9 w_131 rfl (fun x1 => ?_)
    refine s_iloadn (j := 2) dX8_costOfListed_12 rfl ?_
    refine s_cVI (rest := [.inl v1]) (met_X4_get l x1 v2) cls_5 mth_X4_get rfl dX8_costOfListed_13 w_580 w_355 w_356 ⟨Nat.le_of_ble_eq_true rfl, Nat.le_of_ble_eq_true rfl⟩ (Nat.le_of_ble_eq_true rfl) rfl (fun x2 => ?_)
    refine s_icmp_lt (tgt := 25) dX8_costOfListed_16 (by decide) ?_ ?_
    · refine s_iloadn (j := 2) dX8_costOfListed_25 rfl ?_
      exact s_iret dX8_costOfListed_26 rfl
    · refine s_n0 (fun y3 hy3 => ?_)
      refine s_iinc (j := 2) (v := y3) (d := 1) (lv' := [(2, .inl y3), (0, .inr (.inr v0)), (1, .inl v1)]) dX8_costOfListed_19 rfl (by decide) hy3 (Nat.le_of_ble_eq_true rfl) rfl ?_
      refine s_goto (tgt := 2) dX8_costOfListed_22 (by decide) ?_
      exact Sim.sub [1, 2, 0] rfl (hr2 v0 v1 y3)
theorem sim_X8_costOfListed_l2 (l : Launch) : ∀ (n : Nat) (v0 : Option Nat) (v1 : Int32) (v2 : Int32), Sim (M_X8_costOfListed l) (zFin zcI) 2 [(0, .inr (.inr v0)), (1, .inl v1), (2, .inl v2)] [] (p_X8_costOfListed_l2 n v0 v1 v2)
  | 0, _, _, _ => s_fl
  | n + 1, v0, v1, v2 => sim_X8_costOfListed_c2 l (p_X8_costOfListed_l2 n) (sim_X8_costOfListed_l2 l n) v0 v1 v2
set_option maxRecDepth 20000 in
theorem sim_X8_costOfListed (l : Launch) (v0 : Option Nat) (v1 : Int32) : Sim (M_X8_costOfListed l) (zFin zcI) 0 [(0, .inr (.inr v0)), (1, .inl v1)] [] (p_X8_costOfListed v0 v1) := by
  unfold p_X8_costOfListed
  refine s_iconst (v := 1) dX8_costOfListed_0 (by decide) ?_
  refine s_istoren (lv' := [(2, .inl 1), (0, .inr (.inr v0)), (1, .inl v1)]) dX8_costOfListed_1 (Nat.le_of_ble_eq_true rfl) rfl ?_
  exact Sim.sub [1, 2, 0] rfl (sim_X8_costOfListed_l2 l zFuel v0 v1 1)
theorem met_X8_costOfListed (l : Launch) (v0 : Option Nat) (v1 : Int32) : zMet l yX8_costOfListed cX8_costOfListed 3 (some .int) 1 21 [.inr (.inr v0), .inl v1] zcI (p_X8_costOfListed v0 v1) :=
  zMet.of (by decide +kernel) (Nat.le_of_ble_eq_true rfl) rfl (sim_X8_costOfListed l v0 v1)
def p_X9_wordSize (v0 : Option Nat) (v1 : Int32) : ZM Int32 :=
  z_b (z_gR 10 2 v0) fun x1 => z_b (z_vr 5 x1 (p_X4_get x1 v1)) fun x2 => z_rt x2
abbrev M_X9_wordSize (l : Launch) : ZMe := (l, "SpellScribe$Text", cX9_wordSize, 2, 1, 21, (some .int), "wordSize", [])
set_option maxRecDepth 20000 in
theorem sim_X9_wordSize (l : Launch) (v0 : Option Nat) (v1 : Int32) : Sim (M_X9_wordSize l) (zFin zcI) 0 [(0, .inr (.inr v0)), (1, .inl v1)] [] (p_X9_wordSize v0 v1) := by
  unfold p_X9_wordSize
  refine s_aloadn (j := 0) dX9_wordSize_0 rfl ?_
  refine s_getR (k := 2) cls_10 (by decide) rfl dX9_wordSize_1 w_180 rfl (fun x1 => ?_)
  refine s_iloadn (j := 1) dX9_wordSize_4 rfl ?_
  refine s_cVI (rest := []) (met_X4_get l x1 v1) cls_5 mth_X4_get rfl dX9_wordSize_5 w_354 w_355 w_356 ⟨Nat.le_of_ble_eq_true rfl, Nat.le_of_ble_eq_true rfl⟩ (Nat.le_of_ble_eq_true rfl) rfl (fun x2 => ?_)
  exact s_iret dX9_wordSize_8 rfl
theorem met_X9_wordSize (l : Launch) (v0 : Option Nat) (v1 : Int32) : zMet l yX9_wordSize cX9_wordSize 2 (some .int) 1 21 [.inr (.inr v0), .inl v1] zcI (p_X9_wordSize v0 v1) :=
  zMet.of (by decide +kernel) (Nat.le_of_ble_eq_true rfl) rfl (sim_X9_wordSize l v0 v1)
def p_X9_letterOfWord (v0 : Option Nat) (v1 : Int32) (v2 : Int32) : ZM Int32 :=
  z_b (z_gR 10 0 v0) fun x1 => z_b (z_gR 10 1 v0) fun x2 => z_b (z_vr 5 x2 (p_X4_get x2 v1)) fun x3 => z_b (z_vr 5 x1 (p_X4_get x1 (x3 + v2))) fun x4 => z_rt (x4 - 97)
abbrev M_X9_letterOfWord (l : Launch) : ZMe := (l, "SpellScribe$Text", cX9_letterOfWord, 3, 1, 21, (some .int), "letterOfWord", [])
set_option maxRecDepth 20000 in
theorem sim_X9_letterOfWord (l : Launch) (v0 : Option Nat) (v1 : Int32) (v2 : Int32) : Sim (M_X9_letterOfWord l) (zFin zcI) 0 [(0, .inr (.inr v0)), (1, .inl v1), (2, .inl v2)] [] (p_X9_letterOfWord v0 v1 v2) := by
  unfold p_X9_letterOfWord
  refine s_aloadn (j := 0) dX9_letterOfWord_0 rfl ?_
  refine s_getR (k := 0) cls_10 (by decide) rfl dX9_letterOfWord_1 w_178 rfl (fun x1 => ?_)
  refine s_aloadn (j := 0) dX9_letterOfWord_4 rfl ?_
  refine s_getR (k := 1) cls_10 (by decide) rfl dX9_letterOfWord_5 w_179 rfl (fun x2 => ?_)
  refine s_iloadn (j := 1) dX9_letterOfWord_8 rfl ?_
  refine s_cVI (rest := [.inr (.inr x1)]) (met_X4_get l x2 v1) cls_5 mth_X4_get rfl dX9_letterOfWord_9 w_354 w_355 w_356 ⟨Nat.le_of_ble_eq_true rfl, Nat.le_of_ble_eq_true rfl⟩ (Nat.le_of_ble_eq_true rfl) rfl (fun x3 => ?_)
  refine s_iloadn (j := 2) dX9_letterOfWord_12 rfl ?_
  refine s_iadd dX9_letterOfWord_13 ?_
  refine s_cVI (rest := []) (met_X4_get l x1 (x3 + v2)) cls_5 mth_X4_get rfl dX9_letterOfWord_14 w_354 w_355 w_356 ⟨Nat.le_of_ble_eq_true rfl, Nat.le_of_ble_eq_true rfl⟩ (Nat.le_of_ble_eq_true rfl) rfl (fun x4 => ?_)
  refine s_bipush (v := 97) dX9_letterOfWord_17 (by decide) ?_
  refine s_isub dX9_letterOfWord_19 ?_
  exact s_iret dX9_letterOfWord_20 rfl
theorem met_X9_letterOfWord (l : Launch) (v0 : Option Nat) (v1 : Int32) (v2 : Int32) : zMet l yX9_letterOfWord cX9_letterOfWord 3 (some .int) 1 21 [.inr (.inr v0), .inl v1, .inl v2] zcI (p_X9_letterOfWord v0 v1 v2) :=
  zMet.of (by decide +kernel) (Nat.le_of_ble_eq_true rfl) rfl (sim_X9_letterOfWord l v0 v1 v2)
def p_X8_costBefore_b23 (v0 : Option Nat) (v1 : Int32) (v2 : Int32) (s0 : Int32) : ZM Int32 :=
  if s0 = 0 then (z_rt 100000)
  else (z_b (z_gR 9 3 v0) fun x1 => z_b (z_vr 5 x1 (p_X4_get x1 ((v1 * 11) + v2))) fun x2 => z_rt x2)
def p_X8_costBefore_b22 (v0 : Option Nat) (v1 : Int32) (v2 : Int32) : ZM Int32 :=
  p_X8_costBefore_b23 v0 v1 v2 0
def p_X8_costBefore (v0 : Option Nat) (v1 : Int32) (v2 : Int32) (v3 : Int32) : ZM Int32 :=
  if v1 < 0 then (p_X8_costBefore_b22 v0 v1 v2)
  else (if v2 < 0 then (p_X8_costBefore_b22 v0 v1 v2)
  else (if v3 < (if 0 ≤ (v1 - v2) then (v1 - v2) else 0 - (v1 - v2)) then (p_X8_costBefore_b22 v0 v1 v2)
  else (p_X8_costBefore_b23 v0 v1 v2 1)))
abbrev M_X8_costBefore (l : Launch) : ZMe := (l, "SpellScribe$Suggester", cX8_costBefore, 5, 1, 40, (some .int), "costBefore", [])
set_option maxRecDepth 20000 in
theorem sim_X8_costBefore_b23 (l : Launch) (v0 : Option Nat) (v1 : Int32) (v2 : Int32) (s0 : Int32) : Sim (M_X8_costBefore l) (zFin zcI) 23 [(0, .inr (.inr v0)), (1, .inl v1), (2, .inl v2)] [.inl s0] (p_X8_costBefore_b23 v0 v1 v2 s0) := by
  unfold p_X8_costBefore_b23
  refine s_istore (lv' := [(4, .inl s0), (0, .inr (.inr v0)), (1, .inl v1), (2, .inl v2)]) dX8_costBefore_23 (Nat.le_of_ble_eq_true rfl) rfl ?_
  refine s_iload (j := 0) dX8_costBefore_25 rfl ?_
  refine s_if_eq (tgt := 46) dX8_costBefore_27 (by decide) ?_ ?_
  · refine s_ldc (v := 100000) dX8_costBefore_46 w_564 ?_
    exact s_iret dX8_costBefore_48 rfl
  · refine s_aloadn (j := 1) dX8_costBefore_30 rfl ?_
    refine s_getR (k := 3) cls_9 (by decide) rfl dX8_costBefore_31 w_129 rfl (fun x1 => ?_)
    refine s_iloadn (j := 2) dX8_costBefore_34 rfl ?_
    refine s_bipush (v := 11) dX8_costBefore_35 (by decide) ?_
    refine s_imul dX8_costBefore_37 ?_
    refine s_iloadn (j := 3) dX8_costBefore_38 rfl ?_
    refine s_iadd dX8_costBefore_39 ?_
    refine s_cVI (rest := []) (met_X4_get l x1 ((v1 * 11) + v2)) cls_5 mth_X4_get rfl dX8_costBefore_40 w_580 w_355 w_356 ⟨Nat.le_of_ble_eq_true rfl, Nat.le_of_ble_eq_true rfl⟩ (Nat.le_of_ble_eq_true rfl) rfl (fun x2 => ?_)
    refine s_goto (tgt := 48) dX8_costBefore_43 (by decide) ?_
    exact s_iret dX8_costBefore_48 rfl
set_option maxRecDepth 20000 in
theorem sim_X8_costBefore_b22 (l : Launch) (v0 : Option Nat) (v1 : Int32) (v2 : Int32) : Sim (M_X8_costBefore l) (zFin zcI) 22 [(0, .inr (.inr v0)), (1, .inl v1), (2, .inl v2)] [] (p_X8_costBefore_b22 v0 v1 v2) := by
  unfold p_X8_costBefore_b22
  refine s_iconst (v := 0) dX8_costBefore_22 (by decide) ?_
  exact Sim.sub [0, 1, 2] rfl (sim_X8_costBefore_b23 l v0 v1 v2 0)
set_option maxRecDepth 20000 in
theorem sim_X8_costBefore (l : Launch) (v0 : Option Nat) (v1 : Int32) (v2 : Int32) (v3 : Int32) : Sim (M_X8_costBefore l) (zFin zcI) 0 [(0, .inr (.inr v0)), (1, .inl v1), (2, .inl v2), (3, .inl v3)] [] (p_X8_costBefore v0 v1 v2 v3) := by
  unfold p_X8_costBefore
  refine s_iloadn (j := 1) dX8_costBefore_0 rfl ?_
  refine s_if_lt (tgt := 22) dX8_costBefore_1 (by decide) ?_ ?_
  · exact Sim.sub [0, 1, 2] rfl (sim_X8_costBefore_b22 l v0 v1 v2)
  · refine s_iloadn (j := 2) dX8_costBefore_4 rfl ?_
    refine s_if_lt (tgt := 22) dX8_costBefore_5 (by decide) ?_ ?_
    · exact Sim.sub [0, 1, 2] rfl (sim_X8_costBefore_b22 l v0 v1 v2)
    · refine s_iloadn (j := 1) dX8_costBefore_8 rfl ?_
      refine s_iloadn (j := 2) dX8_costBefore_9 rfl ?_
      refine s_isub dX8_costBefore_10 ?_
      refine s_mabs dX8_costBefore_11 w_561 w_562 w_22 w_563 (Nat.le_of_ble_eq_true rfl) (Nat.le_of_ble_eq_true rfl) ?_
      refine s_iloadn (j := 3) dX8_costBefore_14 rfl ?_
      refine s_icmp_gt (tgt := 22) dX8_costBefore_15 (by decide) ?_ ?_
      · exact Sim.sub [0, 1, 2] rfl (sim_X8_costBefore_b22 l v0 v1 v2)
      · refine s_iconst (v := 1) dX8_costBefore_18 (by decide) ?_
        refine s_goto (tgt := 23) dX8_costBefore_19 (by decide) ?_
        exact Sim.sub [0, 1, 2] rfl (sim_X8_costBefore_b23 l v0 v1 v2 1)
theorem met_X8_costBefore (l : Launch) (v0 : Option Nat) (v1 : Int32) (v2 : Int32) (v3 : Int32) : zMet l yX8_costBefore cX8_costBefore 5 (some .int) 1 40 [.inr (.inr v0), .inl v1, .inl v2, .inl v3] zcI (p_X8_costBefore v0 v1 v2 v3) :=
  zMet.of (by decide +kernel) (Nat.le_of_ble_eq_true rfl) rfl (sim_X8_costBefore l v0 v1 v2 v3)
def p_X8_costToBecome (v0 : Option Nat) (v1 : Int32) (v2 : Int32) : ZM Int32 :=
  z_b (z_gR 9 1 v0) fun x1 => z_b (z_vr 5 x1 (p_X4_get x1 v1)) fun x2 => z_b (z_gR 9 2 v0) fun x3 => z_b (z_vr 5 x3 (p_X4_get x3 v2)) fun x4 => if ¬ x2 = x4 then (if (if 0 ≤ (x2 - x4) then (x2 - x4) else 0 - (x2 - x4)) = 1 then (z_rt 1)
  else (z_b (z_gR 9 0 v0) fun x5 => z_b (z_vr 5 x5 (p_X4_get x5 ((x2 * 8) + x4))) fun x6 => if x6 = 0 then (z_rt 2)
  else (z_rt 1)))
  else (z_rt 0)
abbrev M_X8_costToBecome (l : Launch) : ZMe := (l, "SpellScribe$Suggester", cX8_costToBecome, 5, 1, 40, (some .int), "costToBecome", [])
set_option maxRecDepth 20000 in
theorem sim_X8_costToBecome (l : Launch) (v0 : Option Nat) (v1 : Int32) (v2 : Int32) : Sim (M_X8_costToBecome l) (zFin zcI) 0 [(0, .inr (.inr v0)), (1, .inl v1), (2, .inl v2)] [] (p_X8_costToBecome v0 v1 v2) := by
  unfold p_X8_costToBecome
  refine s_aloadn (j := 0) dX8_costToBecome_0 rfl ?_
  refine s_getR (k := 1) cls_9 (by decide) rfl dX8_costToBecome_1 w_127 rfl (fun x1 => ?_)
  refine s_iloadn (j := 1) dX8_costToBecome_4 rfl ?_
  refine s_cVI (rest := []) (met_X4_get l x1 v1) cls_5 mth_X4_get rfl dX8_costToBecome_5 w_580 w_355 w_356 ⟨Nat.le_of_ble_eq_true rfl, Nat.le_of_ble_eq_true rfl⟩ (Nat.le_of_ble_eq_true rfl) rfl (fun x2 => ?_)
  refine s_istoren (lv' := [(3, .inl x2), (0, .inr (.inr v0)), (1, .inl v1), (2, .inl v2)]) dX8_costToBecome_8 (Nat.le_of_ble_eq_true rfl) rfl ?_
  refine s_aloadn (j := 1) dX8_costToBecome_9 rfl ?_
  refine s_getR (k := 2) cls_9 (by decide) rfl dX8_costToBecome_10 w_128 rfl (fun x3 => ?_)
  refine s_iloadn (j := 3) dX8_costToBecome_13 rfl ?_
  refine s_cVI (rest := []) (met_X4_get l x3 v2) cls_5 mth_X4_get rfl dX8_costToBecome_14 w_580 w_355 w_356 ⟨Nat.le_of_ble_eq_true rfl, Nat.le_of_ble_eq_true rfl⟩ (Nat.le_of_ble_eq_true rfl) rfl (fun x4 => ?_)
  refine s_istore (lv' := [(4, .inl x4), (3, .inl x2), (0, .inr (.inr v0)), (1, .inl v1), (2, .inl v2)]) dX8_costToBecome_17 (Nat.le_of_ble_eq_true rfl) rfl ?_
  refine s_iloadn (j := 1) dX8_costToBecome_19 rfl ?_
  refine s_iload (j := 0) dX8_costToBecome_20 rfl ?_
  refine s_icmp_ne (tgt := 27) dX8_costToBecome_22 (by decide) ?_ ?_
  · refine s_iloadn (j := 1) dX8_costToBecome_27 rfl ?_
    refine s_iload (j := 0) dX8_costToBecome_28 rfl ?_
    refine s_isub dX8_costToBecome_30 ?_
    refine s_mabs dX8_costToBecome_31 w_561 w_562 w_22 w_563 (Nat.le_of_ble_eq_true rfl) (Nat.le_of_ble_eq_true rfl) ?_
    refine s_iconst (v := 1) dX8_costToBecome_34 (by decide) ?_
    refine s_icmp_eq (tgt := 55) dX8_costToBecome_35 (by decide) ?_ ?_
    · refine s_iconst (v := 1) dX8_costToBecome_55 (by decide) ?_
      refine s_goto (tgt := 60) dX8_costToBecome_56 (by decide) ?_
      exact s_iret dX8_costToBecome_60 rfl
    · refine s_aloadn (j := 2) dX8_costToBecome_38 rfl ?_
      refine s_getR (k := 0) cls_9 (by decide) rfl dX8_costToBecome_39 w_126 rfl (fun x5 => ?_)
      refine s_iloadn (j := 1) dX8_costToBecome_42 rfl ?_
      refine s_bipush (v := 8) dX8_costToBecome_43 (by decide) ?_
      refine s_imul dX8_costToBecome_45 ?_
      refine s_iload (j := 0) dX8_costToBecome_46 rfl ?_
      refine s_iadd dX8_costToBecome_48 ?_
      refine s_cVI (rest := []) (met_X4_get l x5 ((x2 * 8) + x4)) cls_5 mth_X4_get rfl dX8_costToBecome_49 w_580 w_355 w_356 ⟨Nat.le_of_ble_eq_true rfl, Nat.le_of_ble_eq_true rfl⟩ (Nat.le_of_ble_eq_true rfl) rfl (fun x6 => ?_)
      refine s_if_eq (tgt := 59) dX8_costToBecome_52 (by decide) ?_ ?_
      · refine s_iconst (v := 2) dX8_costToBecome_59 (by decide) ?_
        exact s_iret dX8_costToBecome_60 rfl
      · refine s_iconst (v := 1) dX8_costToBecome_55 (by decide) ?_
        refine s_goto (tgt := 60) dX8_costToBecome_56 (by decide) ?_
        exact s_iret dX8_costToBecome_60 rfl
  · refine s_iconst (v := 0) dX8_costToBecome_25 (by decide) ?_
    exact s_iret dX8_costToBecome_26 rfl
theorem met_X8_costToBecome (l : Launch) (v0 : Option Nat) (v1 : Int32) (v2 : Int32) : zMet l yX8_costToBecome cX8_costToBecome 5 (some .int) 1 40 [.inr (.inr v0), .inl v1, .inl v2] zcI (p_X8_costToBecome v0 v1 v2) :=
  zMet.of (by decide +kernel) (Nat.le_of_ble_eq_true rfl) rfl (sim_X8_costToBecome l v0 v1 v2)
def p_X8_isSwapped (v0 : Option Nat) (v1 : Int32) (v2 : Int32) : ZM Int32 :=
  z_b (z_gR 9 1 v0) fun x1 => z_b (z_vr 5 x1 (p_X4_get x1 (v1 - 1))) fun x2 => z_b (z_gR 9 2 v0) fun x3 => z_b (z_vr 5 x3 (p_X4_get x3 (v2 - 2))) fun x4 => if ¬ x2 = x4 then (z_rz 0)
  else (z_b (z_gR 9 1 v0) fun x5 => z_b (z_vr 5 x5 (p_X4_get x5 (v1 - 2))) fun x6 => z_b (z_gR 9 2 v0) fun x7 => z_b (z_vr 5 x7 (p_X4_get x7 (v2 - 1))) fun x8 => if ¬ x6 = x8 then (z_rz 0)
  else (z_rz 1))
abbrev M_X8_isSwapped (l : Launch) : ZMe := (l, "SpellScribe$Suggester", cX8_isSwapped, 3, 1, 21, (some .boolean), "isSwapped", [])
set_option maxRecDepth 20000 in
theorem sim_X8_isSwapped (l : Launch) (v0 : Option Nat) (v1 : Int32) (v2 : Int32) : Sim (M_X8_isSwapped l) (zFin zcI) 0 [(0, .inr (.inr v0)), (1, .inl v1), (2, .inl v2)] [] (p_X8_isSwapped v0 v1 v2) := by
  unfold p_X8_isSwapped
  refine s_aloadn (j := 0) dX8_isSwapped_0 rfl ?_
  refine s_getR (k := 1) cls_9 (by decide) rfl dX8_isSwapped_1 w_127 rfl (fun x1 => ?_)
  refine s_iloadn (j := 1) dX8_isSwapped_4 rfl ?_
  refine s_iconst (v := 1) dX8_isSwapped_5 (by decide) ?_
  refine s_isub dX8_isSwapped_6 ?_
  refine s_cVI (rest := []) (met_X4_get l x1 (v1 - 1)) cls_5 mth_X4_get rfl dX8_isSwapped_7 w_580 w_355 w_356 ⟨Nat.le_of_ble_eq_true rfl, Nat.le_of_ble_eq_true rfl⟩ (Nat.le_of_ble_eq_true rfl) rfl (fun x2 => ?_)
  refine s_aloadn (j := 0) dX8_isSwapped_10 rfl ?_
  refine s_getR (k := 2) cls_9 (by decide) rfl dX8_isSwapped_11 w_128 rfl (fun x3 => ?_)
  refine s_iloadn (j := 2) dX8_isSwapped_14 rfl ?_
  refine s_iconst (v := 2) dX8_isSwapped_15 (by decide) ?_
  refine s_isub dX8_isSwapped_16 ?_
  refine s_cVI (rest := [.inl x2]) (met_X4_get l x3 (v2 - 2)) cls_5 mth_X4_get rfl dX8_isSwapped_17 w_580 w_355 w_356 ⟨Nat.le_of_ble_eq_true rfl, Nat.le_of_ble_eq_true rfl⟩ (Nat.le_of_ble_eq_true rfl) rfl (fun x4 => ?_)
  refine s_icmp_ne (tgt := 50) dX8_isSwapped_20 (by decide) ?_ ?_
  · refine s_iconst (v := 0) dX8_isSwapped_50 (by decide) ?_
    exact s_zret dX8_isSwapped_51 rfl
  · refine s_aloadn (j := 0) dX8_isSwapped_23 rfl ?_
    refine s_getR (k := 1) cls_9 (by decide) rfl dX8_isSwapped_24 w_127 rfl (fun x5 => ?_)
    refine s_iloadn (j := 1) dX8_isSwapped_27 rfl ?_
    refine s_iconst (v := 2) dX8_isSwapped_28 (by decide) ?_
    refine s_isub dX8_isSwapped_29 ?_
    refine s_cVI (rest := []) (met_X4_get l x5 (v1 - 2)) cls_5 mth_X4_get rfl dX8_isSwapped_30 w_580 w_355 w_356 ⟨Nat.le_of_ble_eq_true rfl, Nat.le_of_ble_eq_true rfl⟩ (Nat.le_of_ble_eq_true rfl) rfl (fun x6 => ?_)
    refine s_aloadn (j := 0) dX8_isSwapped_33 rfl ?_
    refine s_getR (k := 2) cls_9 (by decide) rfl dX8_isSwapped_34 w_128 rfl (fun x7 => ?_)
    refine s_iloadn (j := 2) dX8_isSwapped_37 rfl ?_
    refine s_iconst (v := 1) dX8_isSwapped_38 (by decide) ?_
    refine s_isub dX8_isSwapped_39 ?_
    refine s_cVI (rest := [.inl x6]) (met_X4_get l x7 (v2 - 1)) cls_5 mth_X4_get rfl dX8_isSwapped_40 w_580 w_355 w_356 ⟨Nat.le_of_ble_eq_true rfl, Nat.le_of_ble_eq_true rfl⟩ (Nat.le_of_ble_eq_true rfl) rfl (fun x8 => ?_)
    refine s_icmp_ne (tgt := 50) dX8_isSwapped_43 (by decide) ?_ ?_
    · refine s_iconst (v := 0) dX8_isSwapped_50 (by decide) ?_
      exact s_zret dX8_isSwapped_51 rfl
    · refine s_iconst (v := 1) dX8_isSwapped_46 (by decide) ?_
      refine s_goto (tgt := 51) dX8_isSwapped_47 (by decide) ?_
      exact s_zret dX8_isSwapped_51 rfl
theorem met_X8_isSwapped (l : Launch) (v0 : Option Nat) (v1 : Int32) (v2 : Int32) : zMet l yX8_isSwapped cX8_isSwapped 3 (some .boolean) 1 21 [.inr (.inr v0), .inl v1, .inl v2] zcI (p_X8_isSwapped v0 v1 v2) :=
  zMet.of (by decide +kernel) (Nat.le_of_ble_eq_true rfl) rfl (sim_X8_isSwapped l v0 v1 v2)
def p_X8_leastCost_b76 (v0 : Option Nat) (v1 : Int32) (v2 : Int32) (v3 : Int32) (v5 : Int32) : ZM Int32 :=
  if v1 ≤ 1 then (z_rt v5)
  else (if v2 ≤ 1 then (z_rt v5)
  else (z_b (z_vr 9 v0 (p_X8_isSwapped v0 v1 v2)) fun x1 => if x1 = 0 then (z_rt v5)
  else (z_b (z_vr 9 v0 (p_X8_costBefore v0 (v1 - 2) (v2 - 2) v3)) fun x2 => z_n ((if (x2 + 1) < v5 then (x2 + 1) else v5) : Int32) fun y3 => z_rt y3)))
def p_X8_leastCost_b10 (v0 : Option Nat) (v1 : Int32) (v2 : Int32) (v3 : Int32) : ZM Int32 :=
  z_b (z_vr 9 v0 (p_X8_costBefore v0 (v1 - 1) v2 v3)) fun x4 => z_b (z_vr 9 v0 (p_X8_costBefore v0 v1 (v2 - 1) v3)) fun x5 => z_n ((if x5 < x4 then x5 else x4) : Int32) fun y6 => z_n ((y6 + 2) : Int32) fun y7 => if v1 ≤ 0 then (p_X8_leastCost_b76 v0 v1 v2 v3 y7)
  else (if v2 ≤ 0 then (p_X8_leastCost_b76 v0 v1 v2 v3 y7)
  else (z_b (z_vr 9 v0 (p_X8_costBefore v0 (v1 - 1) (v2 - 1) v3)) fun x8 => z_b (z_vr 9 v0 (p_X8_costToBecome v0 (v1 - 1) (v2 - 1))) fun x9 => z_n ((if (x8 + x9) < y7 then (x8 + x9) else y7) : Int32) fun y10 => p_X8_leastCost_b76 v0 v1 v2 v3 y10))
def p_X8_leastCost (v0 : Option Nat) (v1 : Int32) (v2 : Int32) (v3 : Int32) : ZM Int32 :=
  if ¬ v1 = 0 then (p_X8_leastCost_b10 v0 v1 v2 v3)
  else (if ¬ v2 = 0 then (p_X8_leastCost_b10 v0 v1 v2 v3)
  else (z_rt 0))
abbrev M_X8_leastCost (l : Launch) : ZMe := (l, "SpellScribe$Suggester", cX8_leastCost, 6, 2, 64, (some .int), "leastCost", [])
set_option maxRecDepth 20000 in
theorem sim_X8_leastCost_b76 (l : Launch) (v0 : Option Nat) (v1 : Int32) (v2 : Int32) (v3 : Int32) (v5 : Int32) : Sim (M_X8_leastCost l) (zFin zcI) 76 [(0, .inr (.inr v0)), (1, .inl v1), (2, .inl v2), (3, .inl v3), (5, .inl v5)] [] (p_X8_leastCost_b76 v0 v1 v2 v3 v5) := by
  unfold p_X8_leastCost_b76
  refine s_iloadn (j := 1) dX8_leastCost_76 rfl ?_
  refine s_iconst (v := 1) dX8_leastCost_77 (by decide) ?_
  refine s_icmp_le (tgt := 115) dX8_leastCost_78 (by decide) ?_ ?_
  · refine s_iload (j := 4) dX8_leastCost_115 rfl ?_
    exact s_iret dX8_leastCost_117 rfl
  · refine s_iloadn (j := 2) dX8_leastCost_81 rfl ?_
    refine s_iconst (v := 1) dX8_leastCost_82 (by decide) ?_
    refine s_icmp_le (tgt := 115) dX8_leastCost_83 (by decide) ?_ ?_
    · refine s_iload (j := 4) dX8_leastCost_115 rfl ?_
      exact s_iret dX8_leastCost_117 rfl
    · refine s_aloadn (j := 0) dX8_leastCost_86 rfl ?_
      refine s_iloadn (j := 1) dX8_leastCost_87 rfl ?_
      refine s_iloadn (j := 2) dX8_leastCost_88 rfl ?_
      refine s_cVI (rest := []) (met_X8_isSwapped l v0 v1 v2) cls_9 mth_X8_isSwapped rfl dX8_leastCost_89 w_585 w_587 wp_20 ⟨Nat.le_of_ble_eq_true rfl, Nat.le_of_ble_eq_true rfl⟩ (Nat.le_of_ble_eq_true rfl) rfl (fun x1 => ?_)
      refine s_if_eq (tgt := 115) dX8_leastCost_92 (by decide) ?_ ?_
      · refine s_iload (j := 4) dX8_leastCost_115 rfl ?_
        exact s_iret dX8_leastCost_117 rfl
      · refine s_iload (j := 4) dX8_leastCost_95 rfl ?_
        refine s_aloadn (j := 0) dX8_leastCost_97 rfl ?_
        refine s_iloadn (j := 1) dX8_leastCost_98 rfl ?_
        refine s_iconst (v := 2) dX8_leastCost_99 (by decide) ?_
        refine s_isub dX8_leastCost_100 ?_
        refine s_iloadn (j := 2) dX8_leastCost_101 rfl ?_
        refine s_iconst (v := 2) dX8_leastCost_102 (by decide) ?_
        refine s_isub dX8_leastCost_103 ?_
        refine s_iloadn (j := 3) dX8_leastCost_104 rfl ?_
        refine s_cVI (rest := [.inl v5]) (met_X8_costBefore l v0 (v1 - 2) (v2 - 2) v3) cls_9 mth_X8_costBefore rfl dX8_leastCost_105 w_576 w_578 wp_18 ⟨Nat.le_of_ble_eq_true rfl, Nat.le_of_ble_eq_true rfl⟩ (Nat.le_of_ble_eq_true rfl) rfl (fun x2 => ?_)
        refine s_iconst (v := 1) dX8_leastCost_108 (by decide) ?_
        refine s_iadd dX8_leastCost_109 ?_
        refine s_mmin dX8_leastCost_110 w_566 w_567 w_22 w_568 (Nat.le_of_ble_eq_true rfl) (Nat.le_of_ble_eq_true rfl) ?_
        refine s_nI (fun y3 => ?_)
        refine s_istore (lv' := [(5, .inl y3), (0, .inr (.inr v0)), (1, .inl v1), (2, .inl v2), (3, .inl v3)]) dX8_leastCost_113 (Nat.le_of_ble_eq_true rfl) rfl ?_
        refine s_iload (j := 0) dX8_leastCost_115 rfl ?_
        exact s_iret dX8_leastCost_117 rfl
set_option maxRecDepth 20000 in
theorem sim_X8_leastCost_b10 (l : Launch) (v0 : Option Nat) (v1 : Int32) (v2 : Int32) (v3 : Int32) : Sim (M_X8_leastCost l) (zFin zcI) 10 [(0, .inr (.inr v0)), (1, .inl v1), (2, .inl v2), (3, .inl v3)] [] (p_X8_leastCost_b10 v0 v1 v2 v3) := by
  unfold p_X8_leastCost_b10
  refine s_aloadn (j := 0) dX8_leastCost_10 rfl ?_
  refine s_iloadn (j := 1) dX8_leastCost_11 rfl ?_
  refine s_iconst (v := 1) dX8_leastCost_12 (by decide) ?_
  refine s_isub dX8_leastCost_13 ?_
  refine s_iloadn (j := 2) dX8_leastCost_14 rfl ?_
  refine s_iloadn (j := 3) dX8_leastCost_15 rfl ?_
  refine s_cVI (rest := []) (met_X8_costBefore l v0 (v1 - 1) v2 v3) cls_9 mth_X8_costBefore rfl dX8_leastCost_16 w_576 w_578 wp_18 ⟨Nat.le_of_ble_eq_true rfl, Nat.le_of_ble_eq_true rfl⟩ (Nat.le_of_ble_eq_true rfl) rfl (fun x4 => ?_)
  refine s_aloadn (j := 0) dX8_leastCost_19 rfl ?_
  refine s_iloadn (j := 1) dX8_leastCost_20 rfl ?_
  refine s_iloadn (j := 2) dX8_leastCost_21 rfl ?_
  refine s_iconst (v := 1) dX8_leastCost_22 (by decide) ?_
  refine s_isub dX8_leastCost_23 ?_
  refine s_iloadn (j := 3) dX8_leastCost_24 rfl ?_
  refine s_cVI (rest := [.inl x4]) (met_X8_costBefore l v0 v1 (v2 - 1) v3) cls_9 mth_X8_costBefore rfl dX8_leastCost_25 w_576 w_578 wp_18 ⟨Nat.le_of_ble_eq_true rfl, Nat.le_of_ble_eq_true rfl⟩ (Nat.le_of_ble_eq_true rfl) rfl (fun x5 => ?_)
  refine s_mmin dX8_leastCost_28 w_566 w_567 w_22 w_568 (Nat.le_of_ble_eq_true rfl) (Nat.le_of_ble_eq_true rfl) ?_
  refine s_nI (fun y6 => ?_)
  refine s_istore (lv' := [(4, .inl y6), (0, .inr (.inr v0)), (1, .inl v1), (2, .inl v2), (3, .inl v3)]) dX8_leastCost_31 (Nat.le_of_ble_eq_true rfl) rfl ?_
  refine s_iload (j := 0) dX8_leastCost_33 rfl ?_
  refine s_iconst (v := 2) dX8_leastCost_35 (by decide) ?_
  refine s_iadd dX8_leastCost_36 ?_
  refine s_nI (fun y7 => ?_)
  refine s_istore (lv' := [(5, .inl y7), (4, .inl y6), (0, .inr (.inr v0)), (1, .inl v1), (2, .inl v2), (3, .inl v3)]) dX8_leastCost_37 (Nat.le_of_ble_eq_true rfl) rfl ?_
  refine s_iloadn (j := 3) dX8_leastCost_39 rfl ?_
  refine s_if_le (tgt := 76) dX8_leastCost_40 (by decide) ?_ ?_
  · exact Sim.sub [2, 3, 4, 5, 0] rfl (sim_X8_leastCost_b76 l v0 v1 v2 v3 y7)
  · refine s_iloadn (j := 4) dX8_leastCost_43 rfl ?_
    refine s_if_le (tgt := 76) dX8_leastCost_44 (by decide) ?_ ?_
    · exact Sim.sub [2, 3, 4, 5, 0] rfl (sim_X8_leastCost_b76 l v0 v1 v2 v3 y7)
    · refine s_iload (j := 0) dX8_leastCost_47 rfl ?_
      refine s_aloadn (j := 2) dX8_leastCost_49 rfl ?_
      refine s_iloadn (j := 3) dX8_leastCost_50 rfl ?_
      refine s_iconst (v := 1) dX8_leastCost_51 (by decide) ?_
      refine s_isub dX8_leastCost_52 ?_
      refine s_iloadn (j := 4) dX8_leastCost_53 rfl ?_
      refine s_iconst (v := 1) dX8_leastCost_54 (by decide) ?_
      refine s_isub dX8_leastCost_55 ?_
      refine s_iloadn (j := 5) dX8_leastCost_56 rfl ?_
      refine s_cVI (rest := [.inl y7]) (met_X8_costBefore l v0 (v1 - 1) (v2 - 1) v3) cls_9 mth_X8_costBefore rfl dX8_leastCost_57 w_576 w_578 wp_18 ⟨Nat.le_of_ble_eq_true rfl, Nat.le_of_ble_eq_true rfl⟩ (Nat.le_of_ble_eq_true rfl) rfl (fun x8 => ?_)
      refine s_aloadn (j := 2) dX8_leastCost_60 rfl ?_
      refine s_iloadn (j := 3) dX8_leastCost_61 rfl ?_
      refine s_iconst (v := 1) dX8_leastCost_62 (by decide) ?_
      refine s_isub dX8_leastCost_63 ?_
      refine s_iloadn (j := 4) dX8_leastCost_64 rfl ?_
      refine s_iconst (v := 1) dX8_leastCost_65 (by decide) ?_
      refine s_isub dX8_leastCost_66 ?_
      refine s_cVI (rest := [.inl x8, .inl y7]) (met_X8_costToBecome l v0 (v1 - 1) (v2 - 1)) cls_9 mth_X8_costToBecome rfl dX8_leastCost_67 w_581 w_583 wp_19 ⟨Nat.le_of_ble_eq_true rfl, Nat.le_of_ble_eq_true rfl⟩ (Nat.le_of_ble_eq_true rfl) rfl (fun x9 => ?_)
      refine s_iadd dX8_leastCost_70 ?_
      refine s_mmin dX8_leastCost_71 w_566 w_567 w_22 w_568 (Nat.le_of_ble_eq_true rfl) (Nat.le_of_ble_eq_true rfl) ?_
      refine s_nI (fun y10 => ?_)
      refine s_istore (lv' := [(5, .inl y10), (4, .inl y6), (0, .inr (.inr v0)), (1, .inl v1), (2, .inl v2), (3, .inl v3)]) dX8_leastCost_74 (Nat.le_of_ble_eq_true rfl) rfl ?_
      exact Sim.sub [2, 3, 4, 5, 0] rfl (sim_X8_leastCost_b76 l v0 v1 v2 v3 y10)
set_option maxRecDepth 20000 in
theorem sim_X8_leastCost (l : Launch) (v0 : Option Nat) (v1 : Int32) (v2 : Int32) (v3 : Int32) : Sim (M_X8_leastCost l) (zFin zcI) 0 [(0, .inr (.inr v0)), (1, .inl v1), (2, .inl v2), (3, .inl v3)] [] (p_X8_leastCost v0 v1 v2 v3) := by
  unfold p_X8_leastCost
  refine s_iloadn (j := 1) dX8_leastCost_0 rfl ?_
  refine s_if_ne (tgt := 10) dX8_leastCost_1 (by decide) ?_ ?_
  · exact Sim.sub [0, 1, 2, 3] rfl (sim_X8_leastCost_b10 l v0 v1 v2 v3)
  · refine s_iloadn (j := 2) dX8_leastCost_4 rfl ?_
    refine s_if_ne (tgt := 10) dX8_leastCost_5 (by decide) ?_ ?_
    · exact Sim.sub [0, 1, 2, 3] rfl (sim_X8_leastCost_b10 l v0 v1 v2 v3)
    · refine s_iconst (v := 0) dX8_leastCost_8 (by decide) ?_
      exact s_iret dX8_leastCost_9 rfl
theorem met_X8_leastCost (l : Launch) (v0 : Option Nat) (v1 : Int32) (v2 : Int32) (v3 : Int32) : zMet l yX8_leastCost cX8_leastCost 6 (some .int) 2 64 [.inr (.inr v0), .inl v1, .inl v2, .inl v3] zcI (p_X8_leastCost v0 v1 v2 v3) :=
  zMet.of (by decide +kernel) (Nat.le_of_ble_eq_true rfl) rfl (sim_X8_leastCost l v0 v1 v2 v3)
def p_X8_costTo_b126 (v0 : Option Nat) (v3 : Int32) : ZM Int32 :=
  z_b (z_gR 9 3 v0) fun x1 => z_b (z_gI 9 6 v0) fun x2 => z_b (z_vr 5 x1 (p_X4_get x1 ((x2 * 11) + v3))) fun x3 => z_rt x3
def p_X8_costTo_b120 (r54 : Option Nat → Int32 → Int32 → Int32 → ZM Int32) (v0 : Option Nat) (v2 : Int32) (v3 : Int32) (v4 : Int32) : ZM Int32 :=
  z_n (v4 + 1 : Int32) fun y4 => r54 v0 v2 v3 y4
def p_X8_costTo_c83 (r54 : Option Nat → Int32 → Int32 → Int32 → ZM Int32) (r83 : Option Nat → Int32 → Int32 → Int32 → Int32 → Int32 → ZM Int32) (v0 : Option Nat) (v2 : Int32) (v3 : Int32) (v4 : Int32) (v5 : Int32) (v6 : Int32) : ZM Int32 :=
  if v5 < v6 then (p_X8_costTo_b120 r54 v0 v2 v3 v4)
  else (z_b (z_gR 9 3 v0) fun x5 => z_b (z_vr 9 v0 (p_X8_leastCost v0 v4 v6 v2)) fun x6 => z_b (z_vr 5 x5 (p_X4_set x5 ((v4 * 11) + v6) x6)) fun _ => z_n (v6 + 1 : Int32) fun y7 => r83 v0 v2 v3 v4 v5 y7)
def p_X8_costTo_l83 (r54 : Option Nat → Int32 → Int32 → Int32 → ZM Int32) : Nat → Option Nat → Int32 → Int32 → Int32 → Int32 → Int32 → ZM Int32
  | 0, _, _, _, _, _, _ => z_fl
  | n + 1, v0, v2, v3, v4, v5, v6 => p_X8_costTo_c83 r54 (p_X8_costTo_l83 r54 n) v0 v2 v3 v4 v5 v6
def p_X8_costTo_c54 (r54 : Option Nat → Int32 → Int32 → Int32 → ZM Int32) (v0 : Option Nat) (v2 : Int32) (v3 : Int32) (v4 : Int32) : ZM Int32 :=
  z_b (z_gI 9 6 v0) fun x8 => if x8 < v4 then (p_X8_costTo_b126 v0 v3)
  else (z_n ((if (v4 + v2) < v3 then (v4 + v2) else v3) : Int32) fun y9 => z_n ((if 0 < (v4 - v2) then (v4 - v2) else 0) : Int32) fun y10 => p_X8_costTo_l83 r54 zFuel v0 v2 v3 v4 y9 y10)
def p_X8_costTo_l54 : Nat → Option Nat → Int32 → Int32 → Int32 → ZM Int32
  | 0, _, _, _, _ => z_fl
  | n + 1, v0, v2, v3, v4 => p_X8_costTo_c54 (p_X8_costTo_l54 n) v0 v2 v3 v4
def p_X8_costTo_b51 (v0 : Option Nat) (v2 : Int32) (v3 : Int32) : ZM Int32 :=
  p_X8_costTo_l54 zFuel v0 v2 v3 0
def p_X8_costTo_c24 (r24 : Option Nat → Int32 → Int32 → Int32 → Int32 → ZM Int32) (v0 : Option Nat) (v1 : Int32) (v2 : Int32) (v3 : Int32) (v4 : Int32) : ZM Int32 :=
  if v3 ≤ v4 then (p_X8_costTo_b51 v0 v2 v3)
  else (z_b (z_gR 9 2 v0) fun x11 => z_b (p_X11_letterOf v1 v4) fun x12 => z_b (z_vr 5 x11 (p_X4_set x11 v4 x12)) fun _ => z_n (v4 + 1 : Int32) fun y13 => r24 v0 v1 v2 v3 y13)
def p_X8_costTo_l24 : Nat → Option Nat → Int32 → Int32 → Int32 → Int32 → ZM Int32
  | 0, _, _, _, _, _ => z_fl
  | n + 1, v0, v1, v2, v3, v4 => p_X8_costTo_c24 (p_X8_costTo_l24 n) v0 v1 v2 v3 v4
def p_X8_costTo (v0 : Option Nat) (v1 : Int32) (v2 : Int32) : ZM Int32 :=
  z_b (p_X11_sizeOf v1) fun x14 => z_b (z_gI 9 6 v0) fun x15 => if (if 0 ≤ (x15 - x14) then (x15 - x14) else 0 - (x15 - x14)) ≤ v2 then (p_X8_costTo_l24 zFuel v0 v1 v2 x14 0)
  else (z_rt 100000)
abbrev M_X8_costTo (l : Launch) : ZMe := (l, "SpellScribe$Suggester", cX8_costTo, 7, 3, 89, (some .int), "costTo", [])
set_option maxRecDepth 20000 in
theorem sim_X8_costTo_b126 (l : Launch) (v0 : Option Nat) (v3 : Int32) : Sim (M_X8_costTo l) (zFin zcI) 126 [(0, .inr (.inr v0)), (3, .inl v3)] [] (p_X8_costTo_b126 v0 v3) := by
  unfold p_X8_costTo_b126
  refine s_aloadn (j := 0) dX8_costTo_126 rfl ?_
  refine s_getR (k := 3) cls_9 (by decide) rfl dX8_costTo_127 w_129 rfl (fun x1 => ?_)
  refine s_aloadn (j := 0) dX8_costTo_130 rfl ?_
  refine s_getI (k := 6) cls_9 (by decide) rfl dX8_costTo_131 w_132 rfl (fun x2 => ?_)
  refine s_bipush (v := 11) dX8_costTo_134 (by decide) ?_
  refine s_imul dX8_costTo_136 ?_
  refine s_iloadn (j := 1) dX8_costTo_137 rfl ?_
  refine s_iadd dX8_costTo_138 ?_
  refine s_cVI (rest := []) (met_X4_get l x1 ((x2 * 11) + v3)) cls_5 mth_X4_get rfl dX8_costTo_139 w_580 w_355 w_356 ⟨Nat.le_of_ble_eq_true rfl, Nat.le_of_ble_eq_true rfl⟩ (Nat.le_of_ble_eq_true rfl) rfl (fun x3 => ?_)
  exact s_iret dX8_costTo_142 rfl
set_option maxRecDepth 20000 in
theorem sim_X8_costTo_b120 (l : Launch) (r54 : Option Nat → Int32 → Int32 → Int32 → ZM Int32) (hr54 : ∀ (v0 : Option Nat) (v2 : Int32) (v3 : Int32) (v4 : Int32), Sim (M_X8_costTo l) (zFin zcI) 54 [(0, .inr (.inr v0)), (2, .inl v2), (3, .inl v3), (4, .inl v4)] [] (r54 v0 v2 v3 v4)) (v0 : Option Nat) (v2 : Int32) (v3 : Int32) (v4 : Int32) : Sim (M_X8_costTo l) (zFin zcI) 120 [(0, .inr (.inr v0)), (2, .inl v2), (3, .inl v3), (4, .inl v4)] [] (p_X8_costTo_b120 r54 v0 v2 v3 v4) := by
  unfold p_X8_costTo_b120
  refine s_n0 (fun y4 hy4 => ?_)
  refine s_iinc (j := 3) (v := y4) (d := 1) (lv' := [(4, .inl y4), (0, .inr (.inr v0)), (2, .inl v2), (3, .inl v3)]) dX8_costTo_120 rfl (by decide) hy4 (Nat.le_of_ble_eq_true rfl) rfl ?_
  refine s_goto (tgt := 54) dX8_costTo_123 (by decide) ?_
  exact Sim.sub [1, 2, 3, 0] rfl (hr54 v0 v2 v3 y4)
set_option maxRecDepth 20000 in
theorem sim_X8_costTo_c83 (l : Launch) (r54 : Option Nat → Int32 → Int32 → Int32 → ZM Int32) (r83 : Option Nat → Int32 → Int32 → Int32 → Int32 → Int32 → ZM Int32) (hr54 : ∀ (v0 : Option Nat) (v2 : Int32) (v3 : Int32) (v4 : Int32), Sim (M_X8_costTo l) (zFin zcI) 54 [(0, .inr (.inr v0)), (2, .inl v2), (3, .inl v3), (4, .inl v4)] [] (r54 v0 v2 v3 v4)) (hr83 : ∀ (v0 : Option Nat) (v2 : Int32) (v3 : Int32) (v4 : Int32) (v5 : Int32) (v6 : Int32), Sim (M_X8_costTo l) (zFin zcI) 83 [(0, .inr (.inr v0)), (2, .inl v2), (3, .inl v3), (4, .inl v4), (5, .inl v5), (6, .inl v6)] [] (r83 v0 v2 v3 v4 v5 v6)) (v0 : Option Nat) (v2 : Int32) (v3 : Int32) (v4 : Int32) (v5 : Int32) (v6 : Int32) : Sim (M_X8_costTo l) (zFin zcI) 83 [(0, .inr (.inr v0)), (2, .inl v2), (3, .inl v3), (4, .inl v4), (5, .inl v5), (6, .inl v6)] [] (p_X8_costTo_c83 r54 r83 v0 v2 v3 v4 v5 v6) := by
  unfold p_X8_costTo_c83
  refine s_iload (j := 5) dX8_costTo_83 rfl ?_
  refine s_iload (j := 4) dX8_costTo_85 rfl ?_
  refine s_icmp_gt (tgt := 120) dX8_costTo_87 (by decide) ?_ ?_
  · exact Sim.sub [0, 1, 2, 3] rfl (sim_X8_costTo_b120 l r54 hr54 v0 v2 v3 v4)
  · refine s_aloadn (j := 0) dX8_costTo_90 rfl ?_
    refine s_getR (k := 3) cls_9 (by decide) rfl dX8_costTo_91 w_129 rfl (fun x5 => ?_)
    refine s_iload (j := 3) dX8_costTo_94 rfl ?_
    refine s_bipush (v := 11) dX8_costTo_96 (by decide) ?_
    refine s_imul dX8_costTo_98 ?_
    refine s_iload (j := 5) dX8_costTo_99 rfl ?_
    refine s_iadd dX8_costTo_101 ?_
    refine s_aloadn (j := 0) dX8_costTo_102 rfl ?_
    refine s_iload (j := 3) dX8_costTo_103 rfl ?_
    refine s_iload (j := 5) dX8_costTo_105 rfl ?_
    refine s_iloadn (j := 1) dX8_costTo_107 rfl ?_
    refine s_cVI (rest := [.inl ((v4 * 11) + v6), .inr (.inr x5)]) (met_X8_leastCost l v0 v4 v6 v2) cls_9 mth_X8_leastCost rfl dX8_costTo_108 w_572 w_574 wp_17 ⟨Nat.le_of_ble_eq_true rfl, Nat.le_of_ble_eq_true rfl⟩ (Nat.le_of_ble_eq_true rfl) rfl (fun x6 => ?_)
    refine s_cVV (rest := []) (met_X4_set l x5 ((v4 * 11) + v6) x6) cls_5 mth_X4_set rfl dX8_costTo_111 w_547 w_347 w_348 ⟨Nat.le_of_ble_eq_true rfl, Nat.le_of_ble_eq_true rfl⟩ (Nat.le_of_ble_eq_true rfl) rfl ?_
    refine s_n0 (fun y7 hy7 => ?_)
    refine s_iinc (j := 5) (v := y7) (d := 1) (lv' := [(6, .inl y7), (0, .inr (.inr v0)), (2, .inl v2), (3, .inl v3), (4, .inl v4), (5, .inl v5)]) dX8_costTo_114 rfl (by decide) hy7 (Nat.le_of_ble_eq_true rfl) rfl ?_
    refine s_goto (tgt := 83) dX8_costTo_117 (by decide) ?_
    exact Sim.sub [1, 2, 3, 4, 5, 0] rfl (hr83 v0 v2 v3 v4 v5 y7)
theorem sim_X8_costTo_l83 (l : Launch) (r54 : Option Nat → Int32 → Int32 → Int32 → ZM Int32) (hr54 : ∀ (v0 : Option Nat) (v2 : Int32) (v3 : Int32) (v4 : Int32), Sim (M_X8_costTo l) (zFin zcI) 54 [(0, .inr (.inr v0)), (2, .inl v2), (3, .inl v3), (4, .inl v4)] [] (r54 v0 v2 v3 v4)) : ∀ (n : Nat) (v0 : Option Nat) (v2 : Int32) (v3 : Int32) (v4 : Int32) (v5 : Int32) (v6 : Int32), Sim (M_X8_costTo l) (zFin zcI) 83 [(0, .inr (.inr v0)), (2, .inl v2), (3, .inl v3), (4, .inl v4), (5, .inl v5), (6, .inl v6)] [] (p_X8_costTo_l83 r54 n v0 v2 v3 v4 v5 v6)
  | 0, _, _, _, _, _, _ => s_fl
  | n + 1, v0, v2, v3, v4, v5, v6 => sim_X8_costTo_c83 l r54 (p_X8_costTo_l83 r54 n) hr54 (sim_X8_costTo_l83 l r54 hr54 n) v0 v2 v3 v4 v5 v6
set_option maxRecDepth 20000 in
theorem sim_X8_costTo_c54 (l : Launch) (r54 : Option Nat → Int32 → Int32 → Int32 → ZM Int32) (hr54 : ∀ (v0 : Option Nat) (v2 : Int32) (v3 : Int32) (v4 : Int32), Sim (M_X8_costTo l) (zFin zcI) 54 [(0, .inr (.inr v0)), (2, .inl v2), (3, .inl v3), (4, .inl v4)] [] (r54 v0 v2 v3 v4)) (v0 : Option Nat) (v2 : Int32) (v3 : Int32) (v4 : Int32) : Sim (M_X8_costTo l) (zFin zcI) 54 [(0, .inr (.inr v0)), (2, .inl v2), (3, .inl v3), (4, .inl v4)] [] (p_X8_costTo_c54 r54 v0 v2 v3 v4) := by
  unfold p_X8_costTo_c54
  refine s_iload (j := 3) dX8_costTo_54 rfl ?_
  refine s_aloadn (j := 0) dX8_costTo_56 rfl ?_
  refine s_getI (k := 6) cls_9 (by decide) rfl dX8_costTo_57 w_132 rfl (fun x8 => ?_)
  refine s_icmp_gt (tgt := 126) dX8_costTo_60 (by decide) ?_ ?_
  · exact Sim.sub [0, 2] rfl (sim_X8_costTo_b126 l v0 v3)
  · refine s_iloadn (j := 2) dX8_costTo_63 rfl ?_
    refine s_iload (j := 3) dX8_costTo_64 rfl ?_
    refine s_iloadn (j := 1) dX8_costTo_66 rfl ?_
    refine s_iadd dX8_costTo_67 ?_
    refine s_mmin dX8_costTo_68 w_566 w_567 w_22 w_568 (Nat.le_of_ble_eq_true rfl) (Nat.le_of_ble_eq_true rfl) ?_
    refine s_nI (fun y9 => ?_)
    refine s_istore (lv' := [(5, .inl y9), (0, .inr (.inr v0)), (2, .inl v2), (3, .inl v3), (4, .inl v4)]) dX8_costTo_71 (Nat.le_of_ble_eq_true rfl) rfl ?_
    refine s_iconst (v := 0) dX8_costTo_73 (by decide) ?_
    refine s_iload (j := 4) dX8_costTo_74 rfl ?_
    refine s_iloadn (j := 2) dX8_costTo_76 rfl ?_
    refine s_isub dX8_costTo_77 ?_
    refine s_mmax dX8_costTo_78 w_569 w_570 w_22 w_571 (Nat.le_of_ble_eq_true rfl) (Nat.le_of_ble_eq_true rfl) ?_
    refine s_nI (fun y10 => ?_)
    refine s_istore (lv' := [(6, .inl y10), (5, .inl y9), (0, .inr (.inr v0)), (2, .inl v2), (3, .inl v3), (4, .inl v4)]) dX8_costTo_81 (Nat.le_of_ble_eq_true rfl) rfl ?_
    exact Sim.sub [2, 3, 4, 5, 1, 0] rfl (sim_X8_costTo_l83 l r54 hr54 zFuel v0 v2 v3 v4 y9 y10)
theorem sim_X8_costTo_l54 (l : Launch) : ∀ (n : Nat) (v0 : Option Nat) (v2 : Int32) (v3 : Int32) (v4 : Int32), Sim (M_X8_costTo l) (zFin zcI) 54 [(0, .inr (.inr v0)), (2, .inl v2), (3, .inl v3), (4, .inl v4)] [] (p_X8_costTo_l54 n v0 v2 v3 v4)
  | 0, _, _, _, _ => s_fl
  | n + 1, v0, v2, v3, v4 => sim_X8_costTo_c54 l (p_X8_costTo_l54 n) (sim_X8_costTo_l54 l n) v0 v2 v3 v4
set_option maxRecDepth 20000 in
theorem sim_X8_costTo_b51 (l : Launch) (v0 : Option Nat) (v2 : Int32) (v3 : Int32) : Sim (M_X8_costTo l) (zFin zcI) 51 [(0, .inr (.inr v0)), (2, .inl v2), (3, .inl v3)] [] (p_X8_costTo_b51 v0 v2 v3) := by
  unfold p_X8_costTo_b51
  refine s_iconst (v := 0) dX8_costTo_51 (by decide) ?_
  refine s_istore (lv' := [(4, .inl 0), (0, .inr (.inr v0)), (2, .inl v2), (3, .inl v3)]) dX8_costTo_52 (Nat.le_of_ble_eq_true rfl) rfl ?_
  exact Sim.sub [1, 2, 3, 0] rfl (sim_X8_costTo_l54 l zFuel v0 v2 v3 0)
set_option maxRecDepth 20000 in
theorem sim_X8_costTo_c24 (l : Launch) (r24 : Option Nat → Int32 → Int32 → Int32 → Int32 → ZM Int32) (hr24 : ∀ (v0 : Option Nat) (v1 : Int32) (v2 : Int32) (v3 : Int32) (v4 : Int32), Sim (M_X8_costTo l) (zFin zcI) 24 [(0, .inr (.inr v0)), (1, .inl v1), (2, .inl v2), (3, .inl v3), (4, .inl v4)] [] (r24 v0 v1 v2 v3 v4)) (v0 : Option Nat) (v1 : Int32) (v2 : Int32) (v3 : Int32) (v4 : Int32) : Sim (M_X8_costTo l) (zFin zcI) 24 [(0, .inr (.inr v0)), (1, .inl v1), (2, .inl v2), (3, .inl v3), (4, .inl v4)] [] (p_X8_costTo_c24 r24 v0 v1 v2 v3 v4) := by
  unfold p_X8_costTo_c24
  refine s_iload (j := 4) dX8_costTo_24 rfl ?_
  refine s_iloadn (j := 3) dX8_costTo_26 rfl ?_
  refine s_icmp_ge (tgt := 51) dX8_costTo_27 (by decide) ?_ ?_
  · exact Sim.sub [0, 2, 3] rfl (sim_X8_costTo_b51 l v0 v2 v3)
  · refine s_aloadn (j := 0) dX8_costTo_30 rfl ?_
    refine s_getR (k := 2) cls_9 (by decide) rfl dX8_costTo_31 w_128 rfl (fun x11 => ?_)
    refine s_iload (j := 4) dX8_costTo_34 rfl ?_
    refine s_iloadn (j := 1) dX8_costTo_36 rfl ?_
    refine s_iload (j := 4) dX8_costTo_37 rfl ?_
    refine s_cSIN (rest := [.inl v4, .inr (.inr x11)]) (met_X11_letterOf l v1 v4) mth_X11_letterOf rfl dX8_costTo_39 w_565 w_397 ⟨Nat.le_of_ble_eq_true rfl, Nat.le_of_ble_eq_true rfl⟩ (Nat.le_of_ble_eq_true rfl) rfl (fun x12 => ?_)
    refine s_cVV (rest := []) (met_X4_set l x11 v4 x12) cls_5 mth_X4_set rfl dX8_costTo_42 w_547 w_347 w_348 ⟨Nat.le_of_ble_eq_true rfl, Nat.le_of_ble_eq_true rfl⟩ (Nat.le_of_ble_eq_true rfl) rfl ?_
    refine s_n0 (fun y13 hy13 => ?_)
    refine s_iinc (j := 4) (v := y13) (d := 1) (lv' := [(4, .inl y13), (0, .inr (.inr v0)), (1, .inl v1), (2, .inl v2), (3, .inl v3)]) dX8_costTo_45 rfl (by decide) hy13 (Nat.le_of_ble_eq_true rfl) rfl ?_
    refine s_goto (tgt := 24) dX8_costTo_48 (by decide) ?_
    exact Sim.sub [1, 2, 3, 4, 0] rfl (hr24 v0 v1 v2 v3 y13)
theorem sim_X8_costTo_l24 (l : Launch) : ∀ (n : Nat) (v0 : Option Nat) (v1 : Int32) (v2 : Int32) (v3 : Int32) (v4 : Int32), Sim (M_X8_costTo l) (zFin zcI) 24 [(0, .inr (.inr v0)), (1, .inl v1), (2, .inl v2), (3, .inl v3), (4, .inl v4)] [] (p_X8_costTo_l24 n v0 v1 v2 v3 v4)
  | 0, _, _, _, _, _ => s_fl
  | n + 1, v0, v1, v2, v3, v4 => sim_X8_costTo_c24 l (p_X8_costTo_l24 n) (sim_X8_costTo_l24 l n) v0 v1 v2 v3 v4
set_option maxRecDepth 20000 in
theorem sim_X8_costTo (l : Launch) (v0 : Option Nat) (v1 : Int32) (v2 : Int32) : Sim (M_X8_costTo l) (zFin zcI) 0 [(0, .inr (.inr v0)), (1, .inl v1), (2, .inl v2)] [] (p_X8_costTo v0 v1 v2) := by
  unfold p_X8_costTo
  refine s_iloadn (j := 1) dX8_costTo_0 rfl ?_
  refine s_cSIN (rest := []) (met_X11_sizeOf l v1) mth_X11_sizeOf rfl dX8_costTo_1 w_560 w_328 ⟨Nat.le_of_ble_eq_true rfl, Nat.le_of_ble_eq_true rfl⟩ (Nat.le_of_ble_eq_true rfl) rfl (fun x14 => ?_)
  refine s_istoren (lv' := [(3, .inl x14), (0, .inr (.inr v0)), (1, .inl v1), (2, .inl v2)]) dX8_costTo_4 (Nat.le_of_ble_eq_true rfl) rfl ?_
  refine s_aloadn (j := 1) dX8_costTo_5 rfl ?_
  refine s_getI (k := 6) cls_9 (by decide) rfl dX8_costTo_6 w_132 rfl (fun x15 => ?_)
  refine s_iloadn (j := 0) dX8_costTo_9 rfl ?_
  refine s_isub dX8_costTo_10 ?_
  refine s_mabs dX8_costTo_11 w_561 w_562 w_22 w_563 (Nat.le_of_ble_eq_true rfl) (Nat.le_of_ble_eq_true rfl) ?_
  refine s_iloadn (j := 3) dX8_costTo_14 rfl ?_
  refine s_icmp_le (tgt := 21) dX8_costTo_15 (by decide) ?_ ?_
  · refine s_iconst (v := 0) dX8_costTo_21 (by decide) ?_
    refine s_istore (lv' := [(4, .inl 0), (3, .inl x14), (0, .inr (.inr v0)), (1, .inl v1), (2, .inl v2)]) dX8_costTo_22 (Nat.le_of_ble_eq_true rfl) rfl ?_
    exact Sim.sub [2, 3, 4, 1, 0] rfl (sim_X8_costTo_l24 l zFuel v0 v1 v2 x14 0)
  · refine s_ldc (v := 100000) dX8_costTo_18 w_564 ?_
    exact s_iret dX8_costTo_20 rfl
theorem met_X8_costTo (l : Launch) (v0 : Option Nat) (v1 : Int32) (v2 : Int32) : zMet l yX8_costTo cX8_costTo 7 (some .int) 3 89 [.inr (.inr v0), .inl v1, .inl v2] zcI (p_X8_costTo v0 v1 v2) :=
  zMet.of (by decide +kernel) (Nat.le_of_ble_eq_true rfl) rfl (sim_X8_costTo l v0 v1 v2)
def p_X8_addSuggestion_c32 (r32 : Option Nat → Int32 → ZM Unit) (v0 : Option Nat) (v3 : Int32) : ZM Unit :=
  if 4 < v3 then (z_rt ())
  else (z_b (z_gR 9 5 v0) fun x1 => z_b (z_gR 9 5 v0) fun x2 => z_b (z_vr 5 x2 (p_X4_get x2 v3)) fun x3 => z_b (z_vr 5 x1 (p_X4_set x1 v3 (x3 + 1))) fun _ => z_n (v3 + 1 : Int32) fun y4 => r32 v0 y4)
def p_X8_addSuggestion_l32 : Nat → Option Nat → Int32 → ZM Unit
  | 0, _, _ => z_fl
  | n + 1, v0, v3 => p_X8_addSuggestion_c32 (p_X8_addSuggestion_l32 n) v0 v3
def p_X8_addSuggestion (v0 : Option Nat) (v1 : Int32) (v2 : Int32) : ZM Unit :=
  z_b (z_gR 9 4 v0) fun x5 => z_b (z_gR 9 5 v0) fun x6 => z_b (z_vr 5 x6 (p_X4_get x6 v2)) fun x7 => z_b (z_gI 9 7 v0) fun x8 => z_b (z_vr 5 x5 (p_X4_insert x5 x7 v1 x8)) fun _ => z_b (z_gI 9 7 v0) fun x9 => z_b (z_pI 9 7 v0 (x9 + 1)) fun _ => p_X8_addSuggestion_l32 zFuel v0 v2
abbrev M_X8_addSuggestion (l : Launch) : ZMe := (l, "SpellScribe$Suggester", cX8_addSuggestion, 4, 2, 63, none, "addSuggestion", [])
set_option maxRecDepth 20000 in
theorem sim_X8_addSuggestion_c32 (l : Launch) (r32 : Option Nat → Int32 → ZM Unit) (hr32 : ∀ (v0 : Option Nat) (v3 : Int32), Sim (M_X8_addSuggestion l) (zFin zcV) 32 [(0, .inr (.inr v0)), (3, .inl v3)] [] (r32 v0 v3)) (v0 : Option Nat) (v3 : Int32) : Sim (M_X8_addSuggestion l) (zFin zcV) 32 [(0, .inr (.inr v0)), (3, .inl v3)] [] (p_X8_addSuggestion_c32 r32 v0 v3) := by
  unfold p_X8_addSuggestion_c32
  refine s_iloadn (j := 1) dX8_addSuggestion_32 rfl ?_
  refine s_iconst (v := 4) dX8_addSuggestion_33 (by decide) ?_
  refine s_icmp_gt (tgt := 61) dX8_addSuggestion_34 (by decide) ?_ ?_
  · exact s_vret dX8_addSuggestion_61 rfl
  · refine s_aloadn (j := 0) dX8_addSuggestion_37 rfl ?_
    refine s_getR (k := 5) cls_9 (by decide) rfl dX8_addSuggestion_38 w_131 rfl (fun x1 => ?_)
    refine s_iloadn (j := 1) dX8_addSuggestion_41 rfl ?_
    refine s_aloadn (j := 0) dX8_addSuggestion_42 rfl ?_
    refine s_getR (k := 5) cls_9 (by decide) rfl dX8_addSuggestion_43 w_131 rfl (fun x2 => ?_)
    refine s_iloadn (j := 1) dX8_addSuggestion_46 rfl ?_
    refine s_cVI (rest := [.inl v3, .inr (.inr x1)]) (met_X4_get l x2 v3) cls_5 mth_X4_get rfl dX8_addSuggestion_47 w_580 w_355 w_356 ⟨Nat.le_of_ble_eq_true rfl, Nat.le_of_ble_eq_true rfl⟩ (Nat.le_of_ble_eq_true rfl) rfl (fun x3 => ?_)
    refine s_iconst (v := 1) dX8_addSuggestion_50 (by decide) ?_
    refine s_iadd dX8_addSuggestion_51 ?_
    refine s_cVV (rest := []) (met_X4_set l x1 v3 (x3 + 1)) cls_5 mth_X4_set rfl dX8_addSuggestion_52 w_547 w_347 w_348 ⟨Nat.le_of_ble_eq_true rfl, Nat.le_of_ble_eq_true rfl⟩ (Nat.le_of_ble_eq_true rfl) rfl ?_
    refine s_n0 (fun y4 hy4 => ?_)
    refine s_iinc (j := 1) (v := y4) (d := 1) (lv' := [(3, .inl y4), (0, .inr (.inr v0))]) dX8_addSuggestion_55 rfl (by decide) hy4 (Nat.le_of_ble_eq_true rfl) rfl ?_
    refine s_goto (tgt := 32) dX8_addSuggestion_58 (by decide) ?_
    exact Sim.sub [1, 0] rfl (hr32 v0 y4)
theorem sim_X8_addSuggestion_l32 (l : Launch) : ∀ (n : Nat) (v0 : Option Nat) (v3 : Int32), Sim (M_X8_addSuggestion l) (zFin zcV) 32 [(0, .inr (.inr v0)), (3, .inl v3)] [] (p_X8_addSuggestion_l32 n v0 v3)
  | 0, _, _ => s_fl
  | n + 1, v0, v3 => sim_X8_addSuggestion_c32 l (p_X8_addSuggestion_l32 n) (sim_X8_addSuggestion_l32 l n) v0 v3
set_option maxRecDepth 20000 in
theorem sim_X8_addSuggestion (l : Launch) (v0 : Option Nat) (v1 : Int32) (v2 : Int32) : Sim (M_X8_addSuggestion l) (zFin zcV) 0 [(0, .inr (.inr v0)), (1, .inl v1), (2, .inl v2)] [] (p_X8_addSuggestion v0 v1 v2) := by
  unfold p_X8_addSuggestion
  refine s_aloadn (j := 0) dX8_addSuggestion_0 rfl ?_
  refine s_getR (k := 4) cls_9 (by decide) rfl dX8_addSuggestion_1 w_130 rfl (fun x5 => ?_)
  refine s_aloadn (j := 0) dX8_addSuggestion_4 rfl ?_
  refine s_getR (k := 5) cls_9 (by decide) rfl dX8_addSuggestion_5 w_131 rfl (fun x6 => ?_)
  refine s_iloadn (j := 2) dX8_addSuggestion_8 rfl ?_
  refine s_cVI (rest := [.inr (.inr x5)]) (met_X4_get l x6 v2) cls_5 mth_X4_get rfl dX8_addSuggestion_9 w_580 w_355 w_356 ⟨Nat.le_of_ble_eq_true rfl, Nat.le_of_ble_eq_true rfl⟩ (Nat.le_of_ble_eq_true rfl) rfl (fun x7 => ?_)
  refine s_iloadn (j := 1) dX8_addSuggestion_12 rfl ?_
  refine s_aloadn (j := 0) dX8_addSuggestion_13 rfl ?_
  refine s_getI (k := 7) cls_9 (by decide) rfl dX8_addSuggestion_14 w_133 rfl (fun x8 => ?_)
  refine s_cVV (rest := []) (met_X4_insert l x5 x7 v1 x8) cls_5 mth_X4_insert rfl dX8_addSuggestion_17 w_594 w_595 w_596 ⟨Nat.le_of_ble_eq_true rfl, Nat.le_of_ble_eq_true rfl⟩ (Nat.le_of_ble_eq_true rfl) rfl ?_
  refine s_aloadn (j := 0) dX8_addSuggestion_20 rfl ?_
  refine s_dupR dX8_addSuggestion_21 ?_
  refine s_getI (k := 7) cls_9 (by decide) rfl dX8_addSuggestion_22 w_133 rfl (fun x9 => ?_)
  refine s_iconst (v := 1) dX8_addSuggestion_25 (by decide) ?_
  refine s_iadd dX8_addSuggestion_26 ?_
  refine s_putI (k := 7) cls_9 (by decide) rfl rfl rfl dX8_addSuggestion_27 w_133 rfl ?_
  refine s_iloadn (j := 2) dX8_addSuggestion_30 rfl ?_
  refine s_istoren (lv' := [(3, .inl v2), (0, .inr (.inr v0)), (1, .inl v1), (2, .inl v2)]) dX8_addSuggestion_31 (Nat.le_of_ble_eq_true rfl) rfl ?_
  exact Sim.sub [1, 0] rfl (sim_X8_addSuggestion_l32 l zFuel v0 v2)
theorem met_X8_addSuggestion (l : Launch) (v0 : Option Nat) (v1 : Int32) (v2 : Int32) : zMet l yX8_addSuggestion cX8_addSuggestion 4 none 2 63 [.inr (.inr v0), .inl v1, .inl v2] zcV (p_X8_addSuggestion v0 v1 v2) :=
  zMet.of (by decide +kernel) (Nat.le_of_ble_eq_true rfl) rfl (sim_X8_addSuggestion l v0 v1 v2)
def p_X8_list_b121 (r76 : Option Nat → Option Nat → Int32 → Int32 → ZM Unit) (v0 : Option Nat) (v3 : Option Nat) (v4 : Int32) (v5 : Int32) : ZM Unit :=
  z_n (v5 + 1 : Int32) fun y1 => r76 v0 v3 v4 y1
def p_X8_list_c76 (r76 : Option Nat → Option Nat → Int32 → Int32 → ZM Unit) (v0 : Option Nat) (v3 : Option Nat) (v4 : Int32) (v5 : Int32) : ZM Unit :=
  z_b (z_vr 11 v3 (p_X10_count v3)) fun x2 => if x2 ≤ v5 then (z_rt ())
  else (z_b (z_vr 11 v3 (p_X10_wordOn v3 v5)) fun x3 => z_b (z_vr 9 v0 (p_X8_costTo v0 x3 v4)) fun x4 => z_b (p_X11_isIn x4 1 4) fun x5 => if x5 = 0 then (p_X8_list_b121 r76 v0 v3 v4 v5)
  else (z_b (z_vr 9 v0 (p_X8_addSuggestion v0 x3 x4)) fun _ => p_X8_list_b121 r76 v0 v3 v4 v5))
def p_X8_list_l76 : Nat → Option Nat → Option Nat → Int32 → Int32 → ZM Unit
  | 0, _, _, _, _ => z_fl
  | n + 1, v0, v3, v4, v5 => p_X8_list_c76 (p_X8_list_l76 n) v0 v3 v4 v5
def p_X8_list_b73 (v0 : Option Nat) (v3 : Option Nat) (v4 : Int32) : ZM Unit :=
  p_X8_list_l76 zFuel v0 v3 v4 0
def p_X8_list_c51 (r51 : Option Nat → Option Nat → Int32 → Int32 → ZM Unit) (v0 : Option Nat) (v3 : Option Nat) (v4 : Int32) (v5 : Int32) : ZM Unit :=
  if 4 < v5 then (p_X8_list_b73 v0 v3 v4)
  else (z_b (z_gR 9 5 v0) fun x6 => z_b (z_vr 5 x6 (p_X4_set x6 v5 0)) fun _ => z_n (v5 + 1 : Int32) fun y7 => r51 v0 v3 v4 y7)
def p_X8_list_l51 : Nat → Option Nat → Option Nat → Int32 → Int32 → ZM Unit
  | 0, _, _, _, _ => z_fl
  | n + 1, v0, v3, v4, v5 => p_X8_list_c51 (p_X8_list_l51 n) v0 v3 v4 v5
def p_X8_list_b43 (v0 : Option Nat) (v3 : Option Nat) (v4 : Int32) : ZM Unit :=
  z_b (z_pI 9 7 v0 0) fun _ => p_X8_list_l51 zFuel v0 v3 v4 1
def p_X8_list_c12 (r12 : Option Nat → Option Nat → Int32 → Option Nat → Int32 → Int32 → ZM Unit) (v0 : Option Nat) (v1 : Option Nat) (v2 : Int32) (v3 : Option Nat) (v4 : Int32) (v5 : Int32) : ZM Unit :=
  z_b (z_gI 9 6 v0) fun x8 => if x8 ≤ v5 then (p_X8_list_b43 v0 v3 v4)
  else (z_b (z_gR 9 1 v0) fun x9 => z_b (z_vr 10 v1 (p_X9_letterOfWord v1 v2 v5)) fun x10 => z_b (z_vr 5 x9 (p_X4_set x9 v5 x10)) fun _ => z_n (v5 + 1 : Int32) fun y11 => r12 v0 v1 v2 v3 v4 y11)
def p_X8_list_l12 : Nat → Option Nat → Option Nat → Int32 → Option Nat → Int32 → Int32 → ZM Unit
  | 0, _, _, _, _, _, _ => z_fl
  | n + 1, v0, v1, v2, v3, v4, v5 => p_X8_list_c12 (p_X8_list_l12 n) v0 v1 v2 v3 v4 v5
def p_X8_list (v0 : Option Nat) (v1 : Option Nat) (v2 : Int32) (v3 : Option Nat) (v4 : Int32) : ZM Unit :=
  z_b (z_vr 10 v1 (p_X9_wordSize v1 v2)) fun x12 => z_b (z_pI 9 6 v0 x12) fun _ => p_X8_list_l12 zFuel v0 v1 v2 v3 v4 0
abbrev M_X8_list (l : Launch) : ZMe := (l, "SpellScribe$Suggester", cX8_list, 8, 4, 115, none, "list", [])
set_option maxRecDepth 20000 in
theorem sim_X8_list_b121 (l : Launch) (r76 : Option Nat → Option Nat → Int32 → Int32 → ZM Unit) (hr76 : ∀ (v0 : Option Nat) (v3 : Option Nat) (v4 : Int32) (v5 : Int32), Sim (M_X8_list l) (zFin zcV) 76 [(0, .inr (.inr v0)), (3, .inr (.inr v3)), (4, .inl v4), (5, .inl v5)] [] (r76 v0 v3 v4 v5)) (v0 : Option Nat) (v3 : Option Nat) (v4 : Int32) (v5 : Int32) : Sim (M_X8_list l) (zFin zcV) 121 [(0, .inr (.inr v0)), (3, .inr (.inr v3)), (4, .inl v4), (5, .inl v5)] [] (p_X8_list_b121 r76 v0 v3 v4 v5) := by
  unfold p_X8_list_b121
  refine s_n0 (fun y1 hy1 => ?_)
  refine s_iinc (j := 3) (v := y1) (d := 1) (lv' := [(5, .inl y1), (0, .inr (.inr v0)), (3, .inr (.inr v3)), (4, .inl v4)]) dX8_list_121 rfl (by decide) hy1 (Nat.le_of_ble_eq_true rfl) rfl ?_
  refine s_goto (tgt := 76) dX8_list_124 (by decide) ?_
  exact Sim.sub [1, 2, 3, 0] rfl (hr76 v0 v3 v4 y1)
set_option maxRecDepth 20000 in
theorem sim_X8_list_c76 (l : Launch) (r76 : Option Nat → Option Nat → Int32 → Int32 → ZM Unit) (hr76 : ∀ (v0 : Option Nat) (v3 : Option Nat) (v4 : Int32) (v5 : Int32), Sim (M_X8_list l) (zFin zcV) 76 [(0, .inr (.inr v0)), (3, .inr (.inr v3)), (4, .inl v4), (5, .inl v5)] [] (r76 v0 v3 v4 v5)) (v0 : Option Nat) (v3 : Option Nat) (v4 : Int32) (v5 : Int32) : Sim (M_X8_list l) (zFin zcV) 76 [(0, .inr (.inr v0)), (3, .inr (.inr v3)), (4, .inl v4), (5, .inl v5)] [] (p_X8_list_c76 r76 v0 v3 v4 v5) := by
  unfold p_X8_list_c76
  refine s_iload (j := 3) dX8_list_76 rfl ?_
  refine s_aloadn (j := 1) dX8_list_78 rfl ?_
  refine s_cVI (rest := [.inl v5]) (met_X10_count l v3) cls_11 mth_X10_count rfl dX8_list_79 w_548 w_549 w_550 ⟨Nat.le_of_ble_eq_true rfl, Nat.le_of_ble_eq_true rfl⟩ (Nat.le_of_ble_eq_true rfl) rfl (fun x2 => ?_)
  refine s_icmp_ge (tgt := 127) dX8_list_82 (by decide) ?_ ?_
  · exact s_vret dX8_list_127 rfl
  · refine s_aloadn (j := 1) dX8_list_85 rfl ?_
    refine s_iload (j := 3) dX8_list_86 rfl ?_
    refine s_cVI (rest := []) (met_X10_wordOn l v3 v5) cls_11 mth_X10_wordOn rfl dX8_list_88 w_552 w_553 w_554 ⟨Nat.le_of_ble_eq_true rfl, Nat.le_of_ble_eq_true rfl⟩ (Nat.le_of_ble_eq_true rfl) rfl (fun x3 => ?_)
    refine s_istore (lv' := [(6, .inl x3), (0, .inr (.inr v0)), (3, .inr (.inr v3)), (4, .inl v4), (5, .inl v5)]) dX8_list_91 (Nat.le_of_ble_eq_true rfl) rfl ?_
    refine s_aloadn (j := 1) dX8_list_93 rfl ?_
    refine s_iload (j := 0) dX8_list_94 rfl ?_
    refine s_iload (j := 3) dX8_list_96 rfl ?_
    refine s_cVI (rest := []) (met_X8_costTo l v0 x3 v4) cls_9 mth_X8_costTo rfl dX8_list_98 w_556 w_558 wp_16 ⟨Nat.le_of_ble_eq_true rfl, Nat.le_of_ble_eq_true rfl⟩ (Nat.le_of_ble_eq_true rfl) rfl (fun x4 => ?_)
    refine s_istore (lv' := [(7, .inl x4), (6, .inl x3), (0, .inr (.inr v0)), (3, .inr (.inr v3)), (4, .inl v4), (5, .inl v5)]) dX8_list_101 (Nat.le_of_ble_eq_true rfl) rfl ?_
    refine s_iload (j := 0) dX8_list_103 rfl ?_
    refine s_iconst (v := 1) dX8_list_105 (by decide) ?_
    refine s_iconst (v := 4) dX8_list_106 (by decide) ?_
    refine s_cSIN (rest := []) (met_X11_isIn l x4 1 4) mth_X11_isIn rfl dX8_list_107 w_589 w_505 ⟨Nat.le_of_ble_eq_true rfl, Nat.le_of_ble_eq_true rfl⟩ (Nat.le_of_ble_eq_true rfl) rfl (fun x5 => ?_)
    refine s_if_eq (tgt := 121) dX8_list_110 (by decide) ?_ ?_
    · exact Sim.sub [2, 3, 4, 5] rfl (sim_X8_list_b121 l r76 hr76 v0 v3 v4 v5)
    · refine s_aloadn (j := 2) dX8_list_113 rfl ?_
      refine s_iload (j := 1) dX8_list_114 rfl ?_
      refine s_iload (j := 0) dX8_list_116 rfl ?_
      refine s_cVV (rest := []) (met_X8_addSuggestion l v0 x3 x4) cls_9 mth_X8_addSuggestion rfl dX8_list_118 w_590 w_592 wp_21 ⟨Nat.le_of_ble_eq_true rfl, Nat.le_of_ble_eq_true rfl⟩ (Nat.le_of_ble_eq_true rfl) rfl ?_
      exact Sim.sub [2, 3, 4, 5] rfl (sim_X8_list_b121 l r76 hr76 v0 v3 v4 v5)
theorem sim_X8_list_l76 (l : Launch) : ∀ (n : Nat) (v0 : Option Nat) (v3 : Option Nat) (v4 : Int32) (v5 : Int32), Sim (M_X8_list l) (zFin zcV) 76 [(0, .inr (.inr v0)), (3, .inr (.inr v3)), (4, .inl v4), (5, .inl v5)] [] (p_X8_list_l76 n v0 v3 v4 v5)
  | 0, _, _, _, _ => s_fl
  | n + 1, v0, v3, v4, v5 => sim_X8_list_c76 l (p_X8_list_l76 n) (sim_X8_list_l76 l n) v0 v3 v4 v5
set_option maxRecDepth 20000 in
theorem sim_X8_list_b73 (l : Launch) (v0 : Option Nat) (v3 : Option Nat) (v4 : Int32) : Sim (M_X8_list l) (zFin zcV) 73 [(0, .inr (.inr v0)), (3, .inr (.inr v3)), (4, .inl v4)] [] (p_X8_list_b73 v0 v3 v4) := by
  unfold p_X8_list_b73
  refine s_iconst (v := 0) dX8_list_73 (by decide) ?_
  refine s_istore (lv' := [(5, .inl 0), (0, .inr (.inr v0)), (3, .inr (.inr v3)), (4, .inl v4)]) dX8_list_74 (Nat.le_of_ble_eq_true rfl) rfl ?_
  exact Sim.sub [1, 2, 3, 0] rfl (sim_X8_list_l76 l zFuel v0 v3 v4 0)
set_option maxRecDepth 20000 in
theorem sim_X8_list_c51 (l : Launch) (r51 : Option Nat → Option Nat → Int32 → Int32 → ZM Unit) (hr51 : ∀ (v0 : Option Nat) (v3 : Option Nat) (v4 : Int32) (v5 : Int32), Sim (M_X8_list l) (zFin zcV) 51 [(0, .inr (.inr v0)), (3, .inr (.inr v3)), (4, .inl v4), (5, .inl v5)] [] (r51 v0 v3 v4 v5)) (v0 : Option Nat) (v3 : Option Nat) (v4 : Int32) (v5 : Int32) : Sim (M_X8_list l) (zFin zcV) 51 [(0, .inr (.inr v0)), (3, .inr (.inr v3)), (4, .inl v4), (5, .inl v5)] [] (p_X8_list_c51 r51 v0 v3 v4 v5) := by
  unfold p_X8_list_c51
  refine s_iload (j := 3) dX8_list_51 rfl ?_
  refine s_iconst (v := 4) dX8_list_53 (by decide) ?_
  refine s_icmp_gt (tgt := 73) dX8_list_54 (by decide) ?_ ?_
  · exact Sim.sub [0, 1, 2] rfl (sim_X8_list_b73 l v0 v3 v4)
  · refine s_aloadn (j := 0) dX8_list_57 rfl ?_
    refine s_getR (k := 5) cls_9 (by decide) rfl dX8_list_58 w_131 rfl (fun x6 => ?_)
    refine s_iload (j := 3) dX8_list_61 rfl ?_
    refine s_iconst (v := 0) dX8_list_63 (by decide) ?_
    refine s_cVV (rest := []) (met_X4_set l x6 v5 0) cls_5 mth_X4_set rfl dX8_list_64 w_547 w_347 w_348 ⟨Nat.le_of_ble_eq_true rfl, Nat.le_of_ble_eq_true rfl⟩ (Nat.le_of_ble_eq_true rfl) rfl ?_
    refine s_n0 (fun y7 hy7 => ?_)
    refine s_iinc (j := 3) (v := y7) (d := 1) (lv' := [(5, .inl y7), (0, .inr (.inr v0)), (3, .inr (.inr v3)), (4, .inl v4)]) dX8_list_67 rfl (by decide) hy7 (Nat.le_of_ble_eq_true rfl) rfl ?_
    refine s_goto (tgt := 51) dX8_list_70 (by decide) ?_
    exact Sim.sub [1, 2, 3, 0] rfl (hr51 v0 v3 v4 y7)
theorem sim_X8_list_l51 (l : Launch) : ∀ (n : Nat) (v0 : Option Nat) (v3 : Option Nat) (v4 : Int32) (v5 : Int32), Sim (M_X8_list l) (zFin zcV) 51 [(0, .inr (.inr v0)), (3, .inr (.inr v3)), (4, .inl v4), (5, .inl v5)] [] (p_X8_list_l51 n v0 v3 v4 v5)
  | 0, _, _, _, _ => s_fl
  | n + 1, v0, v3, v4, v5 => sim_X8_list_c51 l (p_X8_list_l51 n) (sim_X8_list_l51 l n) v0 v3 v4 v5
set_option maxRecDepth 20000 in
theorem sim_X8_list_b43 (l : Launch) (v0 : Option Nat) (v3 : Option Nat) (v4 : Int32) : Sim (M_X8_list l) (zFin zcV) 43 [(0, .inr (.inr v0)), (3, .inr (.inr v3)), (4, .inl v4)] [] (p_X8_list_b43 v0 v3 v4) := by
  unfold p_X8_list_b43
  refine s_aloadn (j := 0) dX8_list_43 rfl ?_
  refine s_iconst (v := 0) dX8_list_44 (by decide) ?_
  refine s_putI (k := 7) cls_9 (by decide) rfl rfl rfl dX8_list_45 w_133 rfl ?_
  refine s_iconst (v := 1) dX8_list_48 (by decide) ?_
  refine s_istore (lv' := [(5, .inl 1), (0, .inr (.inr v0)), (3, .inr (.inr v3)), (4, .inl v4)]) dX8_list_49 (Nat.le_of_ble_eq_true rfl) rfl ?_
  exact Sim.sub [1, 2, 3, 0] rfl (sim_X8_list_l51 l zFuel v0 v3 v4 1)
set_option maxRecDepth 20000 in
theorem sim_X8_list_c12 (l : Launch) (r12 : Option Nat → Option Nat → Int32 → Option Nat → Int32 → Int32 → ZM Unit) (hr12 : ∀ (v0 : Option Nat) (v1 : Option Nat) (v2 : Int32) (v3 : Option Nat) (v4 : Int32) (v5 : Int32), Sim (M_X8_list l) (zFin zcV) 12 [(0, .inr (.inr v0)), (1, .inr (.inr v1)), (2, .inl v2), (3, .inr (.inr v3)), (4, .inl v4), (5, .inl v5)] [] (r12 v0 v1 v2 v3 v4 v5)) (v0 : Option Nat) (v1 : Option Nat) (v2 : Int32) (v3 : Option Nat) (v4 : Int32) (v5 : Int32) : Sim (M_X8_list l) (zFin zcV) 12 [(0, .inr (.inr v0)), (1, .inr (.inr v1)), (2, .inl v2), (3, .inr (.inr v3)), (4, .inl v4), (5, .inl v5)] [] (p_X8_list_c12 r12 v0 v1 v2 v3 v4 v5) := by
  unfold p_X8_list_c12
  refine s_iload (j := 5) dX8_list_12 rfl ?_
  refine s_aloadn (j := 0) dX8_list_14 rfl ?_
  refine s_getI (k := 6) cls_9 (by decide) rfl dX8_list_15 w_132 rfl (fun x8 => ?_)
  refine s_icmp_ge (tgt := 43) dX8_list_18 (by decide) ?_ ?_
  · exact Sim.sub [0, 3, 4] rfl (sim_X8_list_b43 l v0 v3 v4)
  · refine s_aloadn (j := 0) dX8_list_21 rfl ?_
    refine s_getR (k := 1) cls_9 (by decide) rfl dX8_list_22 w_127 rfl (fun x9 => ?_)
    refine s_iload (j := 5) dX8_list_25 rfl ?_
    refine s_aloadn (j := 1) dX8_list_27 rfl ?_
    refine s_iloadn (j := 2) dX8_list_28 rfl ?_
    refine s_iload (j := 5) dX8_list_29 rfl ?_
    refine s_cVI (rest := [.inl v5, .inr (.inr x9)]) (met_X9_letterOfWord l v1 v2 v5) cls_10 mth_X9_letterOfWord rfl dX8_list_31 w_543 w_544 w_545 ⟨Nat.le_of_ble_eq_true rfl, Nat.le_of_ble_eq_true rfl⟩ (Nat.le_of_ble_eq_true rfl) rfl (fun x10 => ?_)
    refine s_cVV (rest := []) (met_X4_set l x9 v5 x10) cls_5 mth_X4_set rfl dX8_list_34 w_547 w_347 w_348 ⟨Nat.le_of_ble_eq_true rfl, Nat.le_of_ble_eq_true rfl⟩ (Nat.le_of_ble_eq_true rfl) rfl ?_
    refine s_n0 (fun y11 hy11 => ?_)
    refine s_iinc (j := 5) (v := y11) (d := 1) (lv' := [(5, .inl y11), (0, .inr (.inr v0)), (1, .inr (.inr v1)), (2, .inl v2), (3, .inr (.inr v3)), (4, .inl v4)]) dX8_list_37 rfl (by decide) hy11 (Nat.le_of_ble_eq_true rfl) rfl ?_
    refine s_goto (tgt := 12) dX8_list_40 (by decide) ?_
    exact Sim.sub [1, 2, 3, 4, 5, 0] rfl (hr12 v0 v1 v2 v3 v4 y11)
theorem sim_X8_list_l12 (l : Launch) : ∀ (n : Nat) (v0 : Option Nat) (v1 : Option Nat) (v2 : Int32) (v3 : Option Nat) (v4 : Int32) (v5 : Int32), Sim (M_X8_list l) (zFin zcV) 12 [(0, .inr (.inr v0)), (1, .inr (.inr v1)), (2, .inl v2), (3, .inr (.inr v3)), (4, .inl v4), (5, .inl v5)] [] (p_X8_list_l12 n v0 v1 v2 v3 v4 v5)
  | 0, _, _, _, _, _, _ => s_fl
  | n + 1, v0, v1, v2, v3, v4, v5 => sim_X8_list_c12 l (p_X8_list_l12 n) (sim_X8_list_l12 l n) v0 v1 v2 v3 v4 v5
set_option maxRecDepth 20000 in
theorem sim_X8_list (l : Launch) (v0 : Option Nat) (v1 : Option Nat) (v2 : Int32) (v3 : Option Nat) (v4 : Int32) : Sim (M_X8_list l) (zFin zcV) 0 [(0, .inr (.inr v0)), (1, .inr (.inr v1)), (2, .inl v2), (3, .inr (.inr v3)), (4, .inl v4)] [] (p_X8_list v0 v1 v2 v3 v4) := by
  unfold p_X8_list
  refine s_aloadn (j := 0) dX8_list_0 rfl ?_
  refine s_aloadn (j := 1) dX8_list_1 rfl ?_
  refine s_iloadn (j := 2) dX8_list_2 rfl ?_
  refine s_cVI (rest := [.inr (.inr v0)]) (met_X9_wordSize l v1 v2) cls_10 mth_X9_wordSize rfl dX8_list_3 w_539 w_540 w_541 ⟨Nat.le_of_ble_eq_true rfl, Nat.le_of_ble_eq_true rfl⟩ (Nat.le_of_ble_eq_true rfl) rfl (fun x12 => ?_)
  refine s_putI (k := 6) cls_9 (by decide) rfl rfl rfl dX8_list_6 w_132 rfl ?_
  refine s_iconst (v := 0) dX8_list_9 (by decide) ?_
  refine s_istore (lv' := [(5, .inl 0), (0, .inr (.inr v0)), (1, .inr (.inr v1)), (2, .inl v2), (3, .inr (.inr v3)), (4, .inl v4)]) dX8_list_10 (Nat.le_of_ble_eq_true rfl) rfl ?_
  exact Sim.sub [1, 2, 3, 4, 5, 0] rfl (sim_X8_list_l12 l zFuel v0 v1 v2 v3 v4 0)
theorem met_X8_list (l : Launch) (v0 : Option Nat) (v1 : Option Nat) (v2 : Int32) (v3 : Option Nat) (v4 : Int32) : zMet l yX8_list cX8_list 8 none 4 115 [.inr (.inr v0), .inr (.inr v1), .inl v2, .inr (.inr v3), .inl v4] zcV (p_X8_list v0 v1 v2 v3 v4) :=
  zMet.of (by decide +kernel) (Nat.le_of_ble_eq_true rfl) rfl (sim_X8_list l v0 v1 v2 v3 v4)
def p_X9_init (v0 : Option Nat) : ZM Unit :=
  z_b (z_ii v0 (z_rt ())) fun _ => z_b (z_nO 5 1) fun x1 => z_b (z_ii x1 (p_X4_init x1 100)) fun _ => z_b (z_pR 10 0 v0 x1) fun _ => z_b (z_nO 5 1) fun x2 => z_b (z_ii x2 (p_X4_init x2 50)) fun _ => z_b (z_pR 10 1 v0 x2) fun _ => z_b (z_nO 5 1) fun x3 => z_b (z_ii x3 (p_X4_init x3 50)) fun _ => z_b (z_pR 10 2 v0 x3) fun _ => z_b (z_nO 5 1) fun x4 => z_b (z_ii x4 (p_X4_init x4 50)) fun _ => z_b (z_pR 10 3 v0 x4) fun _ => z_b (z_nO 5 1) fun x5 => z_b (z_ii x5 (p_X4_init x5 102)) fun _ => z_b (z_pR 10 4 v0 x5) fun _ => z_b (z_nO 5 1) fun x6 => z_b (z_ii x6 (p_X4_init x6 102)) fun _ => z_b (z_pR 10 5 v0 x6) fun _ => z_rt ()
abbrev M_X9_init (l : Launch) : ZMe := (l, "SpellScribe$Text", cX9_init, 1, 2, 33, none, "<init>", [])
set_option maxRecDepth 20000 in
theorem sim_X9_init (l : Launch) (v0 : Option Nat) : Sim (M_X9_init l) (zFin zcV) 0 [(0, .inr (.inr v0))] [] (p_X9_init v0) := by
  unfold p_X9_init
  refine s_aloadn (j := 0) dX9_init_0 rfl ?_
  refine s_objInit dX9_init_1 w_175 w_35 w_36 ⟨Nat.le_of_ble_eq_true rfl, Nat.le_of_ble_eq_true rfl⟩ ?_
  refine s_aloadn (j := 0) dX9_init_4 rfl ?_
  refine s_new cls_5 zck_5 dX9_init_5 w_176 w_76 w_7 (fun x1 => ?_)
  refine s_dupR dX9_init_8 ?_
  refine s_bipush (v := 100) dX9_init_9 (by decide) ?_
  refine s_callI (rest := [.inr (.inr x1), .inr (.inr v0)]) (met_X4_init l x1 100) mth_X4_init rfl rfl dX9_init_11 w_177 w_78 ⟨Nat.le_of_ble_eq_true rfl, Nat.le_of_ble_eq_true rfl⟩ (Nat.le_of_ble_eq_true rfl) rfl ?_
  refine s_putRF (k := 0) cls_10 (by decide) rfl rfl rfl rfl rfl dX9_init_14 w_178 rfl ?_
  refine s_aloadn (j := 0) dX9_init_17 rfl ?_
  refine s_new cls_5 zck_5 dX9_init_18 w_176 w_76 w_7 (fun x2 => ?_)
  refine s_dupR dX9_init_21 ?_
  refine s_bipush (v := 50) dX9_init_22 (by decide) ?_
  refine s_callI (rest := [.inr (.inr x2), .inr (.inr v0)]) (met_X4_init l x2 50) mth_X4_init rfl rfl dX9_init_24 w_177 w_78 ⟨Nat.le_of_ble_eq_true rfl, Nat.le_of_ble_eq_true rfl⟩ (Nat.le_of_ble_eq_true rfl) rfl ?_
  refine s_putRF (k := 1) cls_10 (by decide) rfl rfl rfl rfl rfl dX9_init_27 w_179 rfl ?_
  refine s_aloadn (j := 0) dX9_init_30 rfl ?_
  refine s_new cls_5 zck_5 dX9_init_31 w_176 w_76 w_7 (fun x3 => ?_)
  refine s_dupR dX9_init_34 ?_
  refine s_bipush (v := 50) dX9_init_35 (by decide) ?_
  refine s_callI (rest := [.inr (.inr x3), .inr (.inr v0)]) (met_X4_init l x3 50) mth_X4_init rfl rfl dX9_init_37 w_177 w_78 ⟨Nat.le_of_ble_eq_true rfl, Nat.le_of_ble_eq_true rfl⟩ (Nat.le_of_ble_eq_true rfl) rfl ?_
  refine s_putRF (k := 2) cls_10 (by decide) rfl rfl rfl rfl rfl dX9_init_40 w_180 rfl ?_
  refine s_aloadn (j := 0) dX9_init_43 rfl ?_
  refine s_new cls_5 zck_5 dX9_init_44 w_176 w_76 w_7 (fun x4 => ?_)
  refine s_dupR dX9_init_47 ?_
  refine s_bipush (v := 50) dX9_init_48 (by decide) ?_
  refine s_callI (rest := [.inr (.inr x4), .inr (.inr v0)]) (met_X4_init l x4 50) mth_X4_init rfl rfl dX9_init_50 w_177 w_78 ⟨Nat.le_of_ble_eq_true rfl, Nat.le_of_ble_eq_true rfl⟩ (Nat.le_of_ble_eq_true rfl) rfl ?_
  refine s_putRF (k := 3) cls_10 (by decide) rfl rfl rfl rfl rfl dX9_init_53 w_181 rfl ?_
  refine s_aloadn (j := 0) dX9_init_56 rfl ?_
  refine s_new cls_5 zck_5 dX9_init_57 w_176 w_76 w_7 (fun x5 => ?_)
  refine s_dupR dX9_init_60 ?_
  refine s_bipush (v := 102) dX9_init_61 (by decide) ?_
  refine s_callI (rest := [.inr (.inr x5), .inr (.inr v0)]) (met_X4_init l x5 102) mth_X4_init rfl rfl dX9_init_63 w_177 w_78 ⟨Nat.le_of_ble_eq_true rfl, Nat.le_of_ble_eq_true rfl⟩ (Nat.le_of_ble_eq_true rfl) rfl ?_
  refine s_putRF (k := 4) cls_10 (by decide) rfl rfl rfl rfl rfl dX9_init_66 w_182 rfl ?_
  refine s_aloadn (j := 0) dX9_init_69 rfl ?_
  refine s_new cls_5 zck_5 dX9_init_70 w_176 w_76 w_7 (fun x6 => ?_)
  refine s_dupR dX9_init_73 ?_
  refine s_bipush (v := 102) dX9_init_74 (by decide) ?_
  refine s_callI (rest := [.inr (.inr x6), .inr (.inr v0)]) (met_X4_init l x6 102) mth_X4_init rfl rfl dX9_init_76 w_177 w_78 ⟨Nat.le_of_ble_eq_true rfl, Nat.le_of_ble_eq_true rfl⟩ (Nat.le_of_ble_eq_true rfl) rfl ?_
  refine s_putRF (k := 5) cls_10 (by decide) rfl rfl rfl rfl rfl dX9_init_79 w_183 rfl ?_
  exact s_vret dX9_init_82 rfl
theorem met_X9_init (l : Launch) (v0 : Option Nat) : zMet l yX9_init cX9_init 1 none 2 33 [.inr (.inr v0)] zcV (p_X9_init v0) :=
  zMet.of (by decide +kernel) (Nat.le_of_ble_eq_true rfl) rfl (sim_X9_init l v0)
def p_X9_wordStart (v0 : Option Nat) (v1 : Int32) : ZM Int32 :=
  z_b (z_gR 10 1 v0) fun x1 => z_b (z_vr 5 x1 (p_X4_get x1 v1)) fun x2 => z_rt x2
abbrev M_X9_wordStart (l : Launch) : ZMe := (l, "SpellScribe$Text", cX9_wordStart, 2, 1, 21, (some .int), "wordStart", [])
set_option maxRecDepth 20000 in
theorem sim_X9_wordStart (l : Launch) (v0 : Option Nat) (v1 : Int32) : Sim (M_X9_wordStart l) (zFin zcI) 0 [(0, .inr (.inr v0)), (1, .inl v1)] [] (p_X9_wordStart v0 v1) := by
  unfold p_X9_wordStart
  refine s_aloadn (j := 0) dX9_wordStart_0 rfl ?_
  refine s_getR (k := 1) cls_10 (by decide) rfl dX9_wordStart_1 w_179 rfl (fun x1 => ?_)
  refine s_iloadn (j := 1) dX9_wordStart_4 rfl ?_
  refine s_cVI (rest := []) (met_X4_get l x1 v1) cls_5 mth_X4_get rfl dX9_wordStart_5 w_354 w_355 w_356 ⟨Nat.le_of_ble_eq_true rfl, Nat.le_of_ble_eq_true rfl⟩ (Nat.le_of_ble_eq_true rfl) rfl (fun x2 => ?_)
  exact s_iret dX9_wordStart_8 rfl
theorem met_X9_wordStart (l : Launch) (v0 : Option Nat) (v1 : Int32) : zMet l yX9_wordStart cX9_wordStart 2 (some .int) 1 21 [.inr (.inr v0), .inl v1] zcI (p_X9_wordStart v0 v1) :=
  zMet.of (by decide +kernel) (Nat.le_of_ble_eq_true rfl) rfl (sim_X9_wordStart l v0 v1)
def p_X11_withLetter (v0 : Int32) (v1 : Int32) : ZM Int32 :=
  z_rt ((v0 <<< (3 &&& 31)) ||| v1)
abbrev M_X11_withLetter (l : Launch) : ZMe := (l, "SpellScribe", cX11_withLetter, 2, 0, 0, (some .int), "withLetter", [])
set_option maxRecDepth 20000 in
theorem sim_X11_withLetter (l : Launch) (v0 : Int32) (v1 : Int32) : Sim (M_X11_withLetter l) (zFin zcI) 0 [(0, .inl v0), (1, .inl v1)] [] (p_X11_withLetter v0 v1) := by
  unfold p_X11_withLetter
  refine s_iloadn (j := 0) dX11_withLetter_0 rfl ?_
  refine s_iconst (v := 3) dX11_withLetter_1 (by decide) ?_
  refine s_ishl dX11_withLetter_2 ?_
  refine s_iloadn (j := 1) dX11_withLetter_3 rfl ?_
  refine s_ior dX11_withLetter_4 ?_
  exact s_iret dX11_withLetter_5 rfl
theorem met_X11_withLetter (l : Launch) (v0 : Int32) (v1 : Int32) : zMet l yX11_withLetter cX11_withLetter 2 (some .int) 0 0 [.inl v0, .inl v1] zcI (p_X11_withLetter v0 v1) :=
  zMet.of (by decide +kernel) (Nat.le_of_ble_eq_true rfl) rfl (sim_X11_withLetter l v0 v1)
def p_X9_partOfWord_c16 (r16 : Option Nat → Int32 → Int32 → Int32 → Int32 → ZM Int32) (v0 : Option Nat) (v1 : Int32) (v3 : Int32) (v4 : Int32) (v5 : Int32) : ZM Int32 :=
  if v3 ≤ v5 then (z_rt v4)
  else (z_b (z_vr 10 v0 (p_X9_letterOfWord v0 v1 v5)) fun x1 => z_b (p_X11_withLetter v4 x1) fun x2 => z_n (v5 + 1 : Int32) fun y3 => r16 v0 v1 v3 x2 y3)
def p_X9_partOfWord_l16 : Nat → Option Nat → Int32 → Int32 → Int32 → Int32 → ZM Int32
  | 0, _, _, _, _, _ => z_fl
  | n + 1, v0, v1, v3, v4, v5 => p_X9_partOfWord_c16 (p_X9_partOfWord_l16 n) v0 v1 v3 v4 v5
def p_X9_partOfWord (v0 : Option Nat) (v1 : Int32) (v2 : Int32) (v3 : Int32) : ZM Int32 :=
  if (v3 - v2) ≤ 10 then (p_X9_partOfWord_l16 zFuel v0 v1 v3 1 v2)
  else (z_rt 0)
abbrev M_X9_partOfWord (l : Launch) : ZMe := (l, "SpellScribe$Text", cX9_partOfWord, 6, 2, 43, (some .int), "partOfWord", [])
set_option maxRecDepth 20000 in
theorem sim_X9_partOfWord_c16 (l : Launch) (r16 : Option Nat → Int32 → Int32 → Int32 → Int32 → ZM Int32) (hr16 : ∀ (v0 : Option Nat) (v1 : Int32) (v3 : Int32) (v4 : Int32) (v5 : Int32), Sim (M_X9_partOfWord l) (zFin zcI) 16 [(0, .inr (.inr v0)), (1, .inl v1), (3, .inl v3), (4, .inl v4), (5, .inl v5)] [] (r16 v0 v1 v3 v4 v5)) (v0 : Option Nat) (v1 : Int32) (v3 : Int32) (v4 : Int32) (v5 : Int32) : Sim (M_X9_partOfWord l) (zFin zcI) 16 [(0, .inr (.inr v0)), (1, .inl v1), (3, .inl v3), (4, .inl v4), (5, .inl v5)] [] (p_X9_partOfWord_c16 r16 v0 v1 v3 v4 v5) := by
  unfold p_X9_partOfWord_c16
  refine s_iload (j := 4) dX9_partOfWord_16 rfl ?_
  refine s_iloadn (j := 2) dX9_partOfWord_18 rfl ?_
  refine s_icmp_ge (tgt := 42) dX9_partOfWord_19 (by decide) ?_ ?_
  · refine s_iload (j := 3) dX9_partOfWord_42 rfl ?_
    exact s_iret dX9_partOfWord_44 rfl
  · refine s_iload (j := 3) dX9_partOfWord_22 rfl ?_
    refine s_aloadn (j := 0) dX9_partOfWord_24 rfl ?_
    refine s_iloadn (j := 1) dX9_partOfWord_25 rfl ?_
    refine s_iload (j := 4) dX9_partOfWord_26 rfl ?_
    refine s_cVI (rest := [.inl v4]) (met_X9_letterOfWord l v0 v1 v5) cls_10 mth_X9_letterOfWord rfl dX9_partOfWord_28 w_1279 w_544 w_545 ⟨Nat.le_of_ble_eq_true rfl, Nat.le_of_ble_eq_true rfl⟩ (Nat.le_of_ble_eq_true rfl) rfl (fun x1 => ?_)
    refine s_cSIN (rest := []) (met_X11_withLetter l v4 x1) mth_X11_withLetter rfl dX9_partOfWord_31 w_651 w_652 ⟨Nat.le_of_ble_eq_true rfl, Nat.le_of_ble_eq_true rfl⟩ (Nat.le_of_ble_eq_true rfl) rfl (fun x2 => ?_)
    refine s_istore (lv' := [(4, .inl x2), (0, .inr (.inr v0)), (1, .inl v1), (3, .inl v3), (5, .inl v5)]) dX9_partOfWord_34 (Nat.le_of_ble_eq_true rfl) rfl ?_
    refine s_n0 (fun y3 hy3 => ?_)
    refine s_iinc (j := 4) (v := y3) (d := 1) (lv' := [(5, .inl y3), (4, .inl x2), (0, .inr (.inr v0)), (1, .inl v1), (3, .inl v3)]) dX9_partOfWord_36 rfl (by decide) hy3 (Nat.le_of_ble_eq_true rfl) rfl ?_
    refine s_goto (tgt := 16) dX9_partOfWord_39 (by decide) ?_
    exact Sim.sub [2, 3, 4, 1, 0] rfl (hr16 v0 v1 v3 x2 y3)
theorem sim_X9_partOfWord_l16 (l : Launch) : ∀ (n : Nat) (v0 : Option Nat) (v1 : Int32) (v3 : Int32) (v4 : Int32) (v5 : Int32), Sim (M_X9_partOfWord l) (zFin zcI) 16 [(0, .inr (.inr v0)), (1, .inl v1), (3, .inl v3), (4, .inl v4), (5, .inl v5)] [] (p_X9_partOfWord_l16 n v0 v1 v3 v4 v5)
  | 0, _, _, _, _, _ => s_fl
  | n + 1, v0, v1, v3, v4, v5 => sim_X9_partOfWord_c16 l (p_X9_partOfWord_l16 n) (sim_X9_partOfWord_l16 l n) v0 v1 v3 v4 v5
set_option maxRecDepth 20000 in
theorem sim_X9_partOfWord (l : Launch) (v0 : Option Nat) (v1 : Int32) (v2 : Int32) (v3 : Int32) : Sim (M_X9_partOfWord l) (zFin zcI) 0 [(0, .inr (.inr v0)), (1, .inl v1), (2, .inl v2), (3, .inl v3)] [] (p_X9_partOfWord v0 v1 v2 v3) := by
  unfold p_X9_partOfWord
  refine s_iconst (v := 1) dX9_partOfWord_0 (by decide) ?_
  refine s_istore (lv' := [(4, .inl 1), (0, .inr (.inr v0)), (1, .inl v1), (2, .inl v2), (3, .inl v3)]) dX9_partOfWord_1 (Nat.le_of_ble_eq_true rfl) rfl ?_
  refine s_iloadn (j := 4) dX9_partOfWord_3 rfl ?_
  refine s_iloadn (j := 3) dX9_partOfWord_4 rfl ?_
  refine s_isub dX9_partOfWord_5 ?_
  refine s_bipush (v := 10) dX9_partOfWord_6 (by decide) ?_
  refine s_icmp_le (tgt := 13) dX9_partOfWord_8 (by decide) ?_ ?_
  · refine s_iloadn (j := 3) dX9_partOfWord_13 rfl ?_
    refine s_istore (lv' := [(5, .inl v2), (4, .inl 1), (0, .inr (.inr v0)), (1, .inl v1), (2, .inl v2), (3, .inl v3)]) dX9_partOfWord_14 (Nat.le_of_ble_eq_true rfl) rfl ?_
    exact Sim.sub [2, 3, 5, 1, 0] rfl (sim_X9_partOfWord_l16 l zFuel v0 v1 v3 1 v2)
  · refine s_iconst (v := 0) dX9_partOfWord_11 (by decide) ?_
    exact s_iret dX9_partOfWord_12 rfl
theorem met_X9_partOfWord (l : Launch) (v0 : Option Nat) (v1 : Int32) (v2 : Int32) (v3 : Int32) : zMet l yX9_partOfWord cX9_partOfWord 6 (some .int) 2 43 [.inr (.inr v0), .inl v1, .inl v2, .inl v3] zcI (p_X9_partOfWord v0 v1 v2 v3) :=
  zMet.of (by decide +kernel) (Nat.le_of_ble_eq_true rfl) rfl (sim_X9_partOfWord l v0 v1 v2 v3)
def p_X9_insertSign (v0 : Option Nat) (v1 : Int32) (v2 : Int32) : ZM Unit :=
  z_b (z_gI 10 6 v0) fun x1 => if 100 ≤ x1 then (z_rt ())
  else (z_b (z_gR 10 0 v0) fun x2 => z_b (z_gI 10 6 v0) fun x3 => z_b (z_vr 5 x2 (p_X4_insert x2 v1 v2 x3)) fun _ => z_b (z_gI 10 6 v0) fun x4 => z_b (z_pI 10 6 v0 (x4 + 1)) fun _ => z_rt ())
abbrev M_X9_insertSign (l : Launch) : ZMe := (l, "SpellScribe$Text", cX9_insertSign, 3, 2, 63, none, "insertSign", [])
set_option maxRecDepth 20000 in
theorem sim_X9_insertSign (l : Launch) (v0 : Option Nat) (v1 : Int32) (v2 : Int32) : Sim (M_X9_insertSign l) (zFin zcV) 0 [(0, .inr (.inr v0)), (1, .inl v1), (2, .inl v2)] [] (p_X9_insertSign v0 v1 v2) := by
  unfold p_X9_insertSign
  refine s_aloadn (j := 0) dX9_insertSign_0 rfl ?_
  refine s_getI (k := 6) cls_10 (by decide) rfl dX9_insertSign_1 w_184 rfl (fun x1 => ?_)
  refine s_bipush (v := 100) dX9_insertSign_4 (by decide) ?_
  refine s_icmp_ge (tgt := 32) dX9_insertSign_6 (by decide) ?_ ?_
  · exact s_vret dX9_insertSign_32 rfl
  · refine s_aloadn (j := 0) dX9_insertSign_9 rfl ?_
    refine s_getR (k := 0) cls_10 (by decide) rfl dX9_insertSign_10 w_178 rfl (fun x2 => ?_)
    refine s_iloadn (j := 1) dX9_insertSign_13 rfl ?_
    refine s_iloadn (j := 2) dX9_insertSign_14 rfl ?_
    refine s_aloadn (j := 0) dX9_insertSign_15 rfl ?_
    refine s_getI (k := 6) cls_10 (by decide) rfl dX9_insertSign_16 w_184 rfl (fun x3 => ?_)
    refine s_cVV (rest := []) (met_X4_insert l x2 v1 v2 x3) cls_5 mth_X4_insert rfl dX9_insertSign_19 w_638 w_595 w_596 ⟨Nat.le_of_ble_eq_true rfl, Nat.le_of_ble_eq_true rfl⟩ (Nat.le_of_ble_eq_true rfl) rfl ?_
    refine s_aloadn (j := 0) dX9_insertSign_22 rfl ?_
    refine s_dupR dX9_insertSign_23 ?_
    refine s_getI (k := 6) cls_10 (by decide) rfl dX9_insertSign_24 w_184 rfl (fun x4 => ?_)
    refine s_iconst (v := 1) dX9_insertSign_27 (by decide) ?_
    refine s_iadd dX9_insertSign_28 ?_
    refine s_putI (k := 6) cls_10 (by decide) rfl rfl rfl dX9_insertSign_29 w_184 rfl ?_
    exact s_vret dX9_insertSign_32 rfl
theorem met_X9_insertSign (l : Launch) (v0 : Option Nat) (v1 : Int32) (v2 : Int32) : zMet l yX9_insertSign cX9_insertSign 3 none 2 63 [.inr (.inr v0), .inl v1, .inl v2] zcV (p_X9_insertSign v0 v1 v2) :=
  zMet.of (by decide +kernel) (Nat.le_of_ble_eq_true rfl) rfl (sim_X9_insertSign l v0 v1 v2)
def p_X9_removeSign (v0 : Option Nat) (v1 : Int32) : ZM Unit :=
  z_b (z_gI 10 6 v0) fun x1 => if x1 ≤ 0 then (z_rt ())
  else (z_b (z_gR 10 0 v0) fun x2 => z_b (z_gI 10 6 v0) fun x3 => z_b (z_vr 5 x2 (p_X4_remove x2 v1 x3)) fun _ => z_b (z_gI 10 6 v0) fun x4 => z_b (z_pI 10 6 v0 (x4 - 1)) fun _ => z_rt ())
abbrev M_X9_removeSign (l : Launch) : ZMe := (l, "SpellScribe$Text", cX9_removeSign, 2, 2, 62, none, "removeSign", [])
set_option maxRecDepth 20000 in
theorem sim_X9_removeSign (l : Launch) (v0 : Option Nat) (v1 : Int32) : Sim (M_X9_removeSign l) (zFin zcV) 0 [(0, .inr (.inr v0)), (1, .inl v1)] [] (p_X9_removeSign v0 v1) := by
  unfold p_X9_removeSign
  refine s_aloadn (j := 0) dX9_removeSign_0 rfl ?_
  refine s_getI (k := 6) cls_10 (by decide) rfl dX9_removeSign_1 w_184 rfl (fun x1 => ?_)
  refine s_if_le (tgt := 29) dX9_removeSign_4 (by decide) ?_ ?_
  · exact s_vret dX9_removeSign_29 rfl
  · refine s_aloadn (j := 0) dX9_removeSign_7 rfl ?_
    refine s_getR (k := 0) cls_10 (by decide) rfl dX9_removeSign_8 w_178 rfl (fun x2 => ?_)
    refine s_iloadn (j := 1) dX9_removeSign_11 rfl ?_
    refine s_aloadn (j := 0) dX9_removeSign_12 rfl ?_
    refine s_getI (k := 6) cls_10 (by decide) rfl dX9_removeSign_13 w_184 rfl (fun x3 => ?_)
    refine s_cVV (rest := []) (met_X4_remove l x2 v1 x3) cls_5 mth_X4_remove rfl dX9_removeSign_16 w_628 w_629 w_630 ⟨Nat.le_of_ble_eq_true rfl, Nat.le_of_ble_eq_true rfl⟩ (Nat.le_of_ble_eq_true rfl) rfl ?_
    refine s_aloadn (j := 0) dX9_removeSign_19 rfl ?_
    refine s_dupR dX9_removeSign_20 ?_
    refine s_getI (k := 6) cls_10 (by decide) rfl dX9_removeSign_21 w_184 rfl (fun x4 => ?_)
    refine s_iconst (v := 1) dX9_removeSign_24 (by decide) ?_
    refine s_isub dX9_removeSign_25 ?_
    refine s_putI (k := 6) cls_10 (by decide) rfl rfl rfl dX9_removeSign_26 w_184 rfl ?_
    exact s_vret dX9_removeSign_29 rfl
theorem met_X9_removeSign (l : Launch) (v0 : Option Nat) (v1 : Int32) : zMet l yX9_removeSign cX9_removeSign 2 none 2 62 [.inr (.inr v0), .inl v1] zcV (p_X9_removeSign v0 v1) :=
  zMet.of (by decide +kernel) (Nat.le_of_ble_eq_true rfl) rfl (sim_X9_removeSign l v0 v1)
def p_X9_replaceWord_c33 (r33 : Option Nat → Int32 → Int32 → Int32 → ZM Unit) (v0 : Option Nat) (v2 : Int32) (v3 : Int32) (v4 : Int32) : ZM Unit :=
  z_b (p_X11_sizeOf v2) fun x1 => if x1 ≤ v4 then (z_rt ())
  else (z_b (p_X11_letterOf v2 v4) fun x2 => z_b (z_vr 10 v0 (p_X9_insertSign v0 (v3 + v4) (97 + x2))) fun _ => z_n (v4 + 1 : Int32) fun y3 => r33 v0 v2 v3 y3)
def p_X9_replaceWord_l33 : Nat → Option Nat → Int32 → Int32 → Int32 → ZM Unit
  | 0, _, _, _, _ => z_fl
  | n + 1, v0, v2, v3, v4 => p_X9_replaceWord_c33 (p_X9_replaceWord_l33 n) v0 v2 v3 v4
def p_X9_replaceWord_b30 (v0 : Option Nat) (v2 : Int32) (v3 : Int32) : ZM Unit :=
  p_X9_replaceWord_l33 zFuel v0 v2 v3 0
def p_X9_replaceWord_c9 (r9 : Option Nat → Int32 → Int32 → Int32 → Int32 → ZM Unit) (v0 : Option Nat) (v1 : Int32) (v2 : Int32) (v3 : Int32) (v4 : Int32) : ZM Unit :=
  z_b (z_vr 10 v0 (p_X9_wordSize v0 v1)) fun x4 => if x4 ≤ v4 then (p_X9_replaceWord_b30 v0 v2 v3)
  else (z_b (z_vr 10 v0 (p_X9_removeSign v0 v3)) fun _ => z_n (v4 + 1 : Int32) fun y5 => r9 v0 v1 v2 v3 y5)
def p_X9_replaceWord_l9 : Nat → Option Nat → Int32 → Int32 → Int32 → Int32 → ZM Unit
  | 0, _, _, _, _, _ => z_fl
  | n + 1, v0, v1, v2, v3, v4 => p_X9_replaceWord_c9 (p_X9_replaceWord_l9 n) v0 v1 v2 v3 v4
def p_X9_replaceWord (v0 : Option Nat) (v1 : Int32) (v2 : Int32) : ZM Unit :=
  z_b (z_vr 10 v0 (p_X9_wordStart v0 v1)) fun x6 => p_X9_replaceWord_l9 zFuel v0 v1 v2 x6 0
abbrev M_X9_replaceWord (l : Launch) : ZMe := (l, "SpellScribe$Text", cX9_replaceWord, 5, 3, 85, none, "replaceWord", [])
set_option maxRecDepth 20000 in
theorem sim_X9_replaceWord_c33 (l : Launch) (r33 : Option Nat → Int32 → Int32 → Int32 → ZM Unit) (hr33 : ∀ (v0 : Option Nat) (v2 : Int32) (v3 : Int32) (v4 : Int32), Sim (M_X9_replaceWord l) (zFin zcV) 33 [(0, .inr (.inr v0)), (2, .inl v2), (3, .inl v3), (4, .inl v4)] [] (r33 v0 v2 v3 v4)) (v0 : Option Nat) (v2 : Int32) (v3 : Int32) (v4 : Int32) : Sim (M_X9_replaceWord l) (zFin zcV) 33 [(0, .inr (.inr v0)), (2, .inl v2), (3, .inl v3), (4, .inl v4)] [] (p_X9_replaceWord_c33 r33 v0 v2 v3 v4) := by
  unfold p_X9_replaceWord_c33
  refine s_iload (j := 3) dX9_replaceWord_33 rfl ?_
  refine s_iloadn (j := 1) dX9_replaceWord_35 rfl ?_
  refine s_cSIN (rest := [.inl v4]) (met_X11_sizeOf l v2) mth_X11_sizeOf rfl dX9_replaceWord_36 w_632 w_328 ⟨Nat.le_of_ble_eq_true rfl, Nat.le_of_ble_eq_true rfl⟩ (Nat.le_of_ble_eq_true rfl) rfl (fun x1 => ?_)
  refine s_icmp_ge (tgt := 65) dX9_replaceWord_39 (by decide) ?_ ?_
  · exact s_vret dX9_replaceWord_65 rfl
  · refine s_aloadn (j := 0) dX9_replaceWord_42 rfl ?_
    refine s_iloadn (j := 2) dX9_replaceWord_43 rfl ?_
    refine s_iload (j := 3) dX9_replaceWord_44 rfl ?_
    refine s_iadd dX9_replaceWord_46 ?_
    refine s_bipush (v := 97) dX9_replaceWord_47 (by decide) ?_
    refine s_iloadn (j := 1) dX9_replaceWord_49 rfl ?_
    refine s_iload (j := 3) dX9_replaceWord_50 rfl ?_
    refine s_cSIN (rest := [.inl 97, .inl (v3 + v4), .inr (.inr v0)]) (met_X11_letterOf l v2 v4) mth_X11_letterOf rfl dX9_replaceWord_52 w_633 w_397 ⟨Nat.le_of_ble_eq_true rfl, Nat.le_of_ble_eq_true rfl⟩ (Nat.le_of_ble_eq_true rfl) rfl (fun x2 => ?_)
    refine s_iadd dX9_replaceWord_55 ?_
    refine s_cVV (rest := []) (met_X9_insertSign l v0 (v3 + v4) (97 + x2)) cls_10 mth_X9_insertSign rfl dX9_replaceWord_56 w_634 w_635 w_636 ⟨Nat.le_of_ble_eq_true rfl, Nat.le_of_ble_eq_true rfl⟩ (Nat.le_of_ble_eq_true rfl) rfl ?_
    refine s_n0 (fun y3 hy3 => ?_)
    refine s_iinc (j := 3) (v := y3) (d := 1) (lv' := [(4, .inl y3), (0, .inr (.inr v0)), (2, .inl v2), (3, .inl v3)]) dX9_replaceWord_59 rfl (by decide) hy3 (Nat.le_of_ble_eq_true rfl) rfl ?_
    refine s_goto (tgt := 33) dX9_replaceWord_62 (by decide) ?_
    exact Sim.sub [1, 2, 3, 0] rfl (hr33 v0 v2 v3 y3)
theorem sim_X9_replaceWord_l33 (l : Launch) : ∀ (n : Nat) (v0 : Option Nat) (v2 : Int32) (v3 : Int32) (v4 : Int32), Sim (M_X9_replaceWord l) (zFin zcV) 33 [(0, .inr (.inr v0)), (2, .inl v2), (3, .inl v3), (4, .inl v4)] [] (p_X9_replaceWord_l33 n v0 v2 v3 v4)
  | 0, _, _, _, _ => s_fl
  | n + 1, v0, v2, v3, v4 => sim_X9_replaceWord_c33 l (p_X9_replaceWord_l33 n) (sim_X9_replaceWord_l33 l n) v0 v2 v3 v4
set_option maxRecDepth 20000 in
theorem sim_X9_replaceWord_b30 (l : Launch) (v0 : Option Nat) (v2 : Int32) (v3 : Int32) : Sim (M_X9_replaceWord l) (zFin zcV) 30 [(0, .inr (.inr v0)), (2, .inl v2), (3, .inl v3)] [] (p_X9_replaceWord_b30 v0 v2 v3) := by
  unfold p_X9_replaceWord_b30
  refine s_iconst (v := 0) dX9_replaceWord_30 (by decide) ?_
  refine s_istore (lv' := [(4, .inl 0), (0, .inr (.inr v0)), (2, .inl v2), (3, .inl v3)]) dX9_replaceWord_31 (Nat.le_of_ble_eq_true rfl) rfl ?_
  exact Sim.sub [1, 2, 3, 0] rfl (sim_X9_replaceWord_l33 l zFuel v0 v2 v3 0)
set_option maxRecDepth 20000 in
theorem sim_X9_replaceWord_c9 (l : Launch) (r9 : Option Nat → Int32 → Int32 → Int32 → Int32 → ZM Unit) (hr9 : ∀ (v0 : Option Nat) (v1 : Int32) (v2 : Int32) (v3 : Int32) (v4 : Int32), Sim (M_X9_replaceWord l) (zFin zcV) 9 [(0, .inr (.inr v0)), (1, .inl v1), (2, .inl v2), (3, .inl v3), (4, .inl v4)] [] (r9 v0 v1 v2 v3 v4)) (v0 : Option Nat) (v1 : Int32) (v2 : Int32) (v3 : Int32) (v4 : Int32) : Sim (M_X9_replaceWord l) (zFin zcV) 9 [(0, .inr (.inr v0)), (1, .inl v1), (2, .inl v2), (3, .inl v3), (4, .inl v4)] [] (p_X9_replaceWord_c9 r9 v0 v1 v2 v3 v4) := by
  unfold p_X9_replaceWord_c9
  refine s_iload (j := 4) dX9_replaceWord_9 rfl ?_
  refine s_aloadn (j := 0) dX9_replaceWord_11 rfl ?_
  refine s_iloadn (j := 1) dX9_replaceWord_12 rfl ?_
  refine s_cVI (rest := [.inl v4]) (met_X9_wordSize l v0 v1) cls_10 mth_X9_wordSize rfl dX9_replaceWord_13 w_623 w_540 w_541 ⟨Nat.le_of_ble_eq_true rfl, Nat.le_of_ble_eq_true rfl⟩ (Nat.le_of_ble_eq_true rfl) rfl (fun x4 => ?_)
  refine s_icmp_ge (tgt := 30) dX9_replaceWord_16 (by decide) ?_ ?_
  · exact Sim.sub [0, 2, 3] rfl (sim_X9_replaceWord_b30 l v0 v2 v3)
  · refine s_aloadn (j := 0) dX9_replaceWord_19 rfl ?_
    refine s_iloadn (j := 3) dX9_replaceWord_20 rfl ?_
    refine s_cVV (rest := []) (met_X9_removeSign l v0 v3) cls_10 mth_X9_removeSign rfl dX9_replaceWord_21 w_624 w_625 w_626 ⟨Nat.le_of_ble_eq_true rfl, Nat.le_of_ble_eq_true rfl⟩ (Nat.le_of_ble_eq_true rfl) rfl ?_
    refine s_n0 (fun y5 hy5 => ?_)
    refine s_iinc (j := 4) (v := y5) (d := 1) (lv' := [(4, .inl y5), (0, .inr (.inr v0)), (1, .inl v1), (2, .inl v2), (3, .inl v3)]) dX9_replaceWord_24 rfl (by decide) hy5 (Nat.le_of_ble_eq_true rfl) rfl ?_
    refine s_goto (tgt := 9) dX9_replaceWord_27 (by decide) ?_
    exact Sim.sub [1, 2, 3, 4, 0] rfl (hr9 v0 v1 v2 v3 y5)
theorem sim_X9_replaceWord_l9 (l : Launch) : ∀ (n : Nat) (v0 : Option Nat) (v1 : Int32) (v2 : Int32) (v3 : Int32) (v4 : Int32), Sim (M_X9_replaceWord l) (zFin zcV) 9 [(0, .inr (.inr v0)), (1, .inl v1), (2, .inl v2), (3, .inl v3), (4, .inl v4)] [] (p_X9_replaceWord_l9 n v0 v1 v2 v3 v4)
  | 0, _, _, _, _, _ => s_fl
  | n + 1, v0, v1, v2, v3, v4 => sim_X9_replaceWord_c9 l (p_X9_replaceWord_l9 n) (sim_X9_replaceWord_l9 l n) v0 v1 v2 v3 v4
set_option maxRecDepth 20000 in
theorem sim_X9_replaceWord (l : Launch) (v0 : Option Nat) (v1 : Int32) (v2 : Int32) : Sim (M_X9_replaceWord l) (zFin zcV) 0 [(0, .inr (.inr v0)), (1, .inl v1), (2, .inl v2)] [] (p_X9_replaceWord v0 v1 v2) := by
  unfold p_X9_replaceWord
  refine s_aloadn (j := 0) dX9_replaceWord_0 rfl ?_
  refine s_iloadn (j := 1) dX9_replaceWord_1 rfl ?_
  refine s_cVI (rest := []) (met_X9_wordStart l v0 v1) cls_10 mth_X9_wordStart rfl dX9_replaceWord_2 w_619 w_620 w_621 ⟨Nat.le_of_ble_eq_true rfl, Nat.le_of_ble_eq_true rfl⟩ (Nat.le_of_ble_eq_true rfl) rfl (fun x6 => ?_)
  refine s_istoren (lv' := [(3, .inl x6), (0, .inr (.inr v0)), (1, .inl v1), (2, .inl v2)]) dX9_replaceWord_5 (Nat.le_of_ble_eq_true rfl) rfl ?_
  refine s_iconst (v := 0) dX9_replaceWord_6 (by decide) ?_
  refine s_istore (lv' := [(4, .inl 0), (3, .inl x6), (0, .inr (.inr v0)), (1, .inl v1), (2, .inl v2)]) dX9_replaceWord_7 (Nat.le_of_ble_eq_true rfl) rfl ?_
  exact Sim.sub [2, 3, 4, 1, 0] rfl (sim_X9_replaceWord_l9 l zFuel v0 v1 v2 x6 0)
theorem met_X9_replaceWord (l : Launch) (v0 : Option Nat) (v1 : Int32) (v2 : Int32) : zMet l yX9_replaceWord cX9_replaceWord 5 none 3 85 [.inr (.inr v0), .inl v1, .inl v2] zcV (p_X9_replaceWord v0 v1 v2) :=
  zMet.of (by decide +kernel) (Nat.le_of_ble_eq_true rfl) rfl (sim_X9_replaceWord l v0 v1 v2)
def p_X11_isLetter (v0 : Int32) : ZM Int32 :=
  z_b (p_X11_isIn v0 97 104) fun x1 => z_rz x1
abbrev M_X11_isLetter (l : Launch) : ZMe := (l, "SpellScribe", cX11_isLetter, 1, 1, 22, (some .boolean), "isLetter", [])
set_option maxRecDepth 20000 in
theorem sim_X11_isLetter (l : Launch) (v0 : Int32) : Sim (M_X11_isLetter l) (zFin zcI) 0 [(0, .inl v0)] [] (p_X11_isLetter v0) := by
  unfold p_X11_isLetter
  refine s_iloadn (j := 0) dX11_isLetter_0 rfl ?_
  refine s_bipush (v := 97) dX11_isLetter_1 (by decide) ?_
  refine s_bipush (v := 104) dX11_isLetter_3 (by decide) ?_
  refine s_cSI (rest := []) (met_X11_isIn l v0 97 104) mth_X11_isIn rfl dX11_isLetter_5 w_504 w_505 ⟨Nat.le_of_ble_eq_true rfl, Nat.le_of_ble_eq_true rfl⟩ (Nat.le_of_ble_eq_true rfl) rfl (fun x1 => ?_)
  exact s_zret dX11_isLetter_8 rfl
theorem met_X11_isLetter (l : Launch) (v0 : Int32) : zMet l yX11_isLetter cX11_isLetter 1 (some .boolean) 1 22 [.inl v0] zcI (p_X11_isLetter v0) :=
  zMet.of (by decide +kernel) (Nat.le_of_ble_eq_true rfl) rfl (sim_X11_isLetter l v0)
def p_X9_addLetter_b112 (s0 : Option Nat) (s1 : Int32) (s2 : Int32) : ZM Unit :=
  z_b (z_vr 5 s0 (p_X4_set s0 s1 s2)) fun _ => z_rt ()
def p_X9_addLetter_b50 (v0 : Option Nat) (v2 : Int32) : ZM Unit :=
  z_b (z_gI 10 7 v0) fun x1 => z_n ((x1 - 1) : Int32) fun y2 => z_b (z_gR 10 2 v0) fun x3 => z_b (z_vr 5 x3 (p_X4_get x3 y2)) fun x4 => z_b (z_gR 10 2 v0) fun x5 => z_b (z_vr 5 x5 (p_X4_set x5 y2 (x4 + 1))) fun _ => z_b (z_gR 10 3 v0) fun x6 => if 10 ≤ x4 then (p_X9_addLetter_b112 x6 y2 0)
  else (z_b (z_gR 10 3 v0) fun x7 => z_b (z_vr 5 x7 (p_X4_get x7 y2)) fun x8 => z_b (p_X11_withLetter x8 v2) fun x9 => p_X9_addLetter_b112 x6 y2 x9)
def p_X9_addLetter (v0 : Option Nat) (v1 : Int32) (v2 : Int32) (v3 : Int32) : ZM Unit :=
  if ¬ v3 = 0 then (p_X9_addLetter_b50 v0 v2)
  else (z_b (z_gR 10 1 v0) fun x10 => z_b (z_gI 10 7 v0) fun x11 => z_b (z_vr 5 x10 (p_X4_set x10 x11 v1)) fun _ => z_b (z_gR 10 2 v0) fun x12 => z_b (z_gI 10 7 v0) fun x13 => z_b (z_vr 5 x12 (p_X4_set x12 x13 0)) fun _ => z_b (z_gR 10 3 v0) fun x14 => z_b (z_gI 10 7 v0) fun x15 => z_b (z_vr 5 x14 (p_X4_set x14 x15 1)) fun _ => z_b (z_gI 10 7 v0) fun x16 => z_b (z_pI 10 7 v0 (x16 + 1)) fun _ => p_X9_addLetter_b50 v0 v2)
abbrev M_X9_addLetter (l : Launch) : ZMe := (l, "SpellScribe$Text", cX9_addLetter, 6, 1, 22, none, "addLetter", [])
set_option maxRecDepth 20000 in
theorem sim_X9_addLetter_b112 (l : Launch) (s0 : Option Nat) (s1 : Int32) (s2 : Int32) : Sim (M_X9_addLetter l) (zFin zcV) 112 [] [.inl s2, .inl s1, .inr (.inr s0)] (p_X9_addLetter_b112 s0 s1 s2) := by
  unfold p_X9_addLetter_b112
  refine s_cVV (rest := []) (met_X4_set l s0 s1 s2) cls_5 mth_X4_set rfl dX9_addLetter_112 w_650 w_347 w_348 ⟨Nat.le_of_ble_eq_true rfl, Nat.le_of_ble_eq_true rfl⟩ (Nat.le_of_ble_eq_true rfl) rfl ?_
  exact s_vret dX9_addLetter_115 rfl
set_option maxRecDepth 20000 in
theorem sim_X9_addLetter_b50 (l : Launch) (v0 : Option Nat) (v2 : Int32) : Sim (M_X9_addLetter l) (zFin zcV) 50 [(0, .inr (.inr v0)), (2, .inl v2)] [] (p_X9_addLetter_b50 v0 v2) := by
  unfold p_X9_addLetter_b50
  refine s_aloadn (j := 0) dX9_addLetter_50 rfl ?_
  refine s_getI (k := 7) cls_10 (by decide) rfl dX9_addLetter_51 w_185 rfl (fun x1 => ?_)
  refine s_iconst (v := 1) dX9_addLetter_54 (by decide) ?_
  refine s_isub dX9_addLetter_55 ?_
  refine s_nI (fun y2 => ?_)
  refine s_istore (lv' := [(4, .inl y2), (0, .inr (.inr v0)), (2, .inl v2)]) dX9_addLetter_56 (Nat.le_of_ble_eq_true rfl) rfl ?_
  refine s_aloadn (j := 1) dX9_addLetter_58 rfl ?_
  refine s_getR (k := 2) cls_10 (by decide) rfl dX9_addLetter_59 w_180 rfl (fun x3 => ?_)
  refine s_iload (j := 0) dX9_addLetter_62 rfl ?_
  refine s_cVI (rest := []) (met_X4_get l x3 y2) cls_5 mth_X4_get rfl dX9_addLetter_64 w_354 w_355 w_356 ⟨Nat.le_of_ble_eq_true rfl, Nat.le_of_ble_eq_true rfl⟩ (Nat.le_of_ble_eq_true rfl) rfl (fun x4 => ?_)
  refine s_istore (lv' := [(5, .inl x4), (4, .inl y2), (0, .inr (.inr v0)), (2, .inl v2)]) dX9_addLetter_67 (Nat.le_of_ble_eq_true rfl) rfl ?_
  refine s_aloadn (j := 2) dX9_addLetter_69 rfl ?_
  refine s_getR (k := 2) cls_10 (by decide) rfl dX9_addLetter_70 w_180 rfl (fun x5 => ?_)
  refine s_iload (j := 1) dX9_addLetter_73 rfl ?_
  refine s_iload (j := 0) dX9_addLetter_75 rfl ?_
  refine s_iconst (v := 1) dX9_addLetter_77 (by decide) ?_
  refine s_iadd dX9_addLetter_78 ?_
  refine s_cVV (rest := []) (met_X4_set l x5 y2 (x4 + 1)) cls_5 mth_X4_set rfl dX9_addLetter_79 w_650 w_347 w_348 ⟨Nat.le_of_ble_eq_true rfl, Nat.le_of_ble_eq_true rfl⟩ (Nat.le_of_ble_eq_true rfl) rfl ?_
  refine s_aloadn (j := 2) dX9_addLetter_82 rfl ?_
  refine s_getR (k := 3) cls_10 (by decide) rfl dX9_addLetter_83 w_181 rfl (fun x6 => ?_)
  refine s_iload (j := 1) dX9_addLetter_86 rfl ?_
  refine s_iload (j := 0) dX9_addLetter_88 rfl ?_
  refine s_bipush (v := 10) dX9_addLetter_90 (by decide) ?_
  refine s_icmp_ge (tgt := 111) dX9_addLetter_92 (by decide) ?_ ?_
  · refine s_iconst (v := 0) dX9_addLetter_111 (by decide) ?_
    exact Sim.sub [] rfl (sim_X9_addLetter_b112 l x6 y2 0)
  · refine s_aloadn (j := 2) dX9_addLetter_95 rfl ?_
    refine s_getR (k := 3) cls_10 (by decide) rfl dX9_addLetter_96 w_181 rfl (fun x7 => ?_)
    refine s_iload (j := 1) dX9_addLetter_99 rfl ?_
    refine s_cVI (rest := [.inl y2, .inr (.inr x6)]) (met_X4_get l x7 y2) cls_5 mth_X4_get rfl dX9_addLetter_101 w_354 w_355 w_356 ⟨Nat.le_of_ble_eq_true rfl, Nat.le_of_ble_eq_true rfl⟩ (Nat.le_of_ble_eq_true rfl) rfl (fun x8 => ?_)
    refine s_iloadn (j := 3) dX9_addLetter_104 rfl ?_
    refine s_cSIN (rest := [.inl y2, .inr (.inr x6)]) (met_X11_withLetter l x8 v2) mth_X11_withLetter rfl dX9_addLetter_105 w_651 w_652 ⟨Nat.le_of_ble_eq_true rfl, Nat.le_of_ble_eq_true rfl⟩ (Nat.le_of_ble_eq_true rfl) rfl (fun x9 => ?_)
    refine s_goto (tgt := 112) dX9_addLetter_108 (by decide) ?_
    exact Sim.sub [] rfl (sim_X9_addLetter_b112 l x6 y2 x9)
set_option maxRecDepth 20000 in
theorem sim_X9_addLetter (l : Launch) (v0 : Option Nat) (v1 : Int32) (v2 : Int32) (v3 : Int32) : Sim (M_X9_addLetter l) (zFin zcV) 0 [(0, .inr (.inr v0)), (1, .inl v1), (2, .inl v2), (3, .inl v3)] [] (p_X9_addLetter v0 v1 v2 v3) := by
  unfold p_X9_addLetter
  refine s_iloadn (j := 3) dX9_addLetter_0 rfl ?_
  refine s_if_ne (tgt := 50) dX9_addLetter_1 (by decide) ?_ ?_
  · exact Sim.sub [0, 2] rfl (sim_X9_addLetter_b50 l v0 v2)
  · refine s_aloadn (j := 0) dX9_addLetter_4 rfl ?_
    refine s_getR (k := 1) cls_10 (by decide) rfl dX9_addLetter_5 w_179 rfl (fun x10 => ?_)
    refine s_aloadn (j := 0) dX9_addLetter_8 rfl ?_
    refine s_getI (k := 7) cls_10 (by decide) rfl dX9_addLetter_9 w_185 rfl (fun x11 => ?_)
    refine s_iloadn (j := 1) dX9_addLetter_12 rfl ?_
    refine s_cVV (rest := []) (met_X4_set l x10 x11 v1) cls_5 mth_X4_set rfl dX9_addLetter_13 w_650 w_347 w_348 ⟨Nat.le_of_ble_eq_true rfl, Nat.le_of_ble_eq_true rfl⟩ (Nat.le_of_ble_eq_true rfl) rfl ?_
    refine s_aloadn (j := 0) dX9_addLetter_16 rfl ?_
    refine s_getR (k := 2) cls_10 (by decide) rfl dX9_addLetter_17 w_180 rfl (fun x12 => ?_)
    refine s_aloadn (j := 0) dX9_addLetter_20 rfl ?_
    refine s_getI (k := 7) cls_10 (by decide) rfl dX9_addLetter_21 w_185 rfl (fun x13 => ?_)
    refine s_iconst (v := 0) dX9_addLetter_24 (by decide) ?_
    refine s_cVV (rest := []) (met_X4_set l x12 x13 0) cls_5 mth_X4_set rfl dX9_addLetter_25 w_650 w_347 w_348 ⟨Nat.le_of_ble_eq_true rfl, Nat.le_of_ble_eq_true rfl⟩ (Nat.le_of_ble_eq_true rfl) rfl ?_
    refine s_aloadn (j := 0) dX9_addLetter_28 rfl ?_
    refine s_getR (k := 3) cls_10 (by decide) rfl dX9_addLetter_29 w_181 rfl (fun x14 => ?_)
    refine s_aloadn (j := 0) dX9_addLetter_32 rfl ?_
    refine s_getI (k := 7) cls_10 (by decide) rfl dX9_addLetter_33 w_185 rfl (fun x15 => ?_)
    refine s_iconst (v := 1) dX9_addLetter_36 (by decide) ?_
    refine s_cVV (rest := []) (met_X4_set l x14 x15 1) cls_5 mth_X4_set rfl dX9_addLetter_37 w_650 w_347 w_348 ⟨Nat.le_of_ble_eq_true rfl, Nat.le_of_ble_eq_true rfl⟩ (Nat.le_of_ble_eq_true rfl) rfl ?_
    refine s_aloadn (j := 0) dX9_addLetter_40 rfl ?_
    refine s_dupR dX9_addLetter_41 ?_
    refine s_getI (k := 7) cls_10 (by decide) rfl dX9_addLetter_42 w_185 rfl (fun x16 => ?_)
    refine s_iconst (v := 1) dX9_addLetter_45 (by decide) ?_
    refine s_iadd dX9_addLetter_46 ?_
    refine s_putI (k := 7) cls_10 (by decide) rfl rfl rfl dX9_addLetter_47 w_185 rfl ?_
    exact Sim.sub [0, 2] rfl (sim_X9_addLetter_b50 l v0 v2)
theorem met_X9_addLetter (l : Launch) (v0 : Option Nat) (v1 : Int32) (v2 : Int32) (v3 : Int32) : zMet l yX9_addLetter cX9_addLetter 6 none 1 22 [.inr (.inr v0), .inl v1, .inl v2, .inl v3] zcV (p_X9_addLetter v0 v1 v2 v3) :=
  zMet.of (by decide +kernel) (Nat.le_of_ble_eq_true rfl) rfl (sim_X9_addLetter l v0 v1 v2 v3)
def p_X9_endSentence (v0 : Option Nat) (v1 : Int32) : ZM Unit :=
  z_b (z_gI 10 8 v0) fun x1 => z_b (z_pI 10 8 v0 (x1 + 1)) fun _ => z_b (z_gR 10 4 v0) fun x2 => z_b (z_gI 10 8 v0) fun x3 => z_b (z_vr 5 x2 (p_X4_set x2 x3 v1)) fun _ => z_b (z_gR 10 5 v0) fun x4 => z_b (z_gI 10 8 v0) fun x5 => z_b (z_gI 10 7 v0) fun x6 => z_b (z_vr 5 x4 (p_X4_set x4 x5 x6)) fun _ => z_rt ()
abbrev M_X9_endSentence (l : Launch) : ZMe := (l, "SpellScribe$Text", cX9_endSentence, 2, 1, 22, none, "endSentence", [])
set_option maxRecDepth 20000 in
theorem sim_X9_endSentence (l : Launch) (v0 : Option Nat) (v1 : Int32) : Sim (M_X9_endSentence l) (zFin zcV) 0 [(0, .inr (.inr v0)), (1, .inl v1)] [] (p_X9_endSentence v0 v1) := by
  unfold p_X9_endSentence
  refine s_aloadn (j := 0) dX9_endSentence_0 rfl ?_
  refine s_dupR dX9_endSentence_1 ?_
  refine s_getI (k := 8) cls_10 (by decide) rfl dX9_endSentence_2 w_186 rfl (fun x1 => ?_)
  refine s_iconst (v := 1) dX9_endSentence_5 (by decide) ?_
  refine s_iadd dX9_endSentence_6 ?_
  refine s_putI (k := 8) cls_10 (by decide) rfl rfl rfl dX9_endSentence_7 w_186 rfl ?_
  refine s_aloadn (j := 0) dX9_endSentence_10 rfl ?_
  refine s_getR (k := 4) cls_10 (by decide) rfl dX9_endSentence_11 w_182 rfl (fun x2 => ?_)
  refine s_aloadn (j := 0) dX9_endSentence_14 rfl ?_
  refine s_getI (k := 8) cls_10 (by decide) rfl dX9_endSentence_15 w_186 rfl (fun x3 => ?_)
  refine s_iloadn (j := 1) dX9_endSentence_18 rfl ?_
  refine s_cVV (rest := []) (met_X4_set l x2 x3 v1) cls_5 mth_X4_set rfl dX9_endSentence_19 w_650 w_347 w_348 ⟨Nat.le_of_ble_eq_true rfl, Nat.le_of_ble_eq_true rfl⟩ (Nat.le_of_ble_eq_true rfl) rfl ?_
  refine s_aloadn (j := 0) dX9_endSentence_22 rfl ?_
  refine s_getR (k := 5) cls_10 (by decide) rfl dX9_endSentence_23 w_183 rfl (fun x4 => ?_)
  refine s_aloadn (j := 0) dX9_endSentence_26 rfl ?_
  refine s_getI (k := 8) cls_10 (by decide) rfl dX9_endSentence_27 w_186 rfl (fun x5 => ?_)
  refine s_aloadn (j := 0) dX9_endSentence_30 rfl ?_
  refine s_getI (k := 7) cls_10 (by decide) rfl dX9_endSentence_31 w_185 rfl (fun x6 => ?_)
  refine s_cVV (rest := []) (met_X4_set l x4 x5 x6) cls_5 mth_X4_set rfl dX9_endSentence_34 w_650 w_347 w_348 ⟨Nat.le_of_ble_eq_true rfl, Nat.le_of_ble_eq_true rfl⟩ (Nat.le_of_ble_eq_true rfl) rfl ?_
  exact s_vret dX9_endSentence_37 rfl
theorem met_X9_endSentence (l : Launch) (v0 : Option Nat) (v1 : Int32) : zMet l yX9_endSentence cX9_endSentence 2 none 1 22 [.inr (.inr v0), .inl v1] zcV (p_X9_endSentence v0 v1) :=
  zMet.of (by decide +kernel) (Nat.le_of_ble_eq_true rfl) rfl (sim_X9_endSentence l v0 v1)
def p_X9_findWords_b129 (v0 : Option Nat) : ZM Unit :=
  z_b (z_gI 10 6 v0) fun x1 => z_b (z_vr 10 v0 (p_X9_endSentence v0 x1)) fun _ => z_rt ()
def p_X9_findWords_b120 (r16 : Option Nat → Int32 → Int32 → Int32 → ZM Unit) (v0 : Option Nat) (v1 : Int32) (v3 : Int32) (v5 : Int32) : ZM Unit :=
  z_n (v3 + 1 : Int32) fun y2 => r16 v0 v1 v5 y2
def p_X9_findWords_b119 (r16 : Option Nat → Int32 → Int32 → Int32 → ZM Unit) (v0 : Option Nat) (v3 : Int32) (v5 : Int32) (s0 : Int32) : ZM Unit :=
  p_X9_findWords_b120 r16 v0 s0 v3 v5
def p_X9_findWords_b107 (r16 : Option Nat → Int32 → Int32 → Int32 → ZM Unit) (v0 : Option Nat) (v3 : Int32) (v4 : Int32) (v5 : Int32) : ZM Unit :=
  if ¬ v4 = 60 then (p_X9_findWords_b119 r16 v0 v3 v5 0)
  else (p_X9_findWords_b119 r16 v0 v3 v5 1)
def p_X9_findWords_b93 (r16 : Option Nat → Int32 → Int32 → Int32 → ZM Unit) (v0 : Option Nat) (v1 : Int32) (v3 : Int32) (v4 : Int32) (v5 : Int32) : ZM Unit :=
  if v4 = 60 then (p_X9_findWords_b107 r16 v0 v3 v4 v5)
  else (if ¬ v4 = 62 then (p_X9_findWords_b120 r16 v0 v1 v3 v5)
  else (p_X9_findWords_b107 r16 v0 v3 v4 v5))
def p_X9_findWords_b51 (r16 : Option Nat → Int32 → Int32 → Int32 → ZM Unit) (v0 : Option Nat) (v1 : Int32) (v2 : Int32) (v3 : Int32) (v4 : Int32) (s0 : Int32) : ZM Unit :=
  if s0 = 0 then (if ¬ v4 = 46 then (p_X9_findWords_b93 r16 v0 v1 v3 v4 s0)
  else (if ¬ v1 = 0 then (p_X9_findWords_b93 r16 v0 v1 v3 v4 s0)
  else (z_b (z_vr 10 v0 (p_X9_endSentence v0 (v3 + 1))) fun _ => p_X9_findWords_b120 r16 v0 v1 v3 s0)))
  else (z_b (z_vr 10 v0 (p_X9_addLetter v0 v3 (v4 - 97) v2)) fun _ => p_X9_findWords_b120 r16 v0 v1 v3 s0)
def p_X9_findWords_b50 (r16 : Option Nat → Int32 → Int32 → Int32 → ZM Unit) (v0 : Option Nat) (v1 : Int32) (v2 : Int32) (v3 : Int32) (v4 : Int32) : ZM Unit :=
  p_X9_findWords_b51 r16 v0 v1 v2 v3 v4 0
def p_X9_findWords_c16 (r16 : Option Nat → Int32 → Int32 → Int32 → ZM Unit) (v0 : Option Nat) (v1 : Int32) (v2 : Int32) (v3 : Int32) : ZM Unit :=
  z_b (z_gI 10 6 v0) fun x3 => if x3 ≤ v3 then (p_X9_findWords_b129 v0)
  else (z_b (z_gR 10 0 v0) fun x4 => z_b (z_vr 5 x4 (p_X4_get x4 v3)) fun x5 => if ¬ v1 = 0 then (p_X9_findWords_b50 r16 v0 v1 v2 v3 x5)
  else (z_b (p_X11_isLetter x5) fun x6 => if x6 = 0 then (p_X9_findWords_b50 r16 v0 v1 v2 v3 x5)
  else (p_X9_findWords_b51 r16 v0 v1 v2 v3 x5 1)))
def p_X9_findWords_l16 : Nat → Option Nat → Int32 → Int32 → Int32 → ZM Unit
  | 0, _, _, _, _ => z_fl
  | n + 1, v0, v1, v2, v3 => p_X9_findWords_c16 (p_X9_findWords_l16 n) v0 v1 v2 v3
def p_X9_findWords (v0 : Option Nat) : ZM Unit :=
  z_b (z_pI 10 7 v0 0) fun _ => z_b (z_pI 10 8 v0 0) fun _ => p_X9_findWords_l16 zFuel v0 0 0 0
abbrev M_X9_findWords (l : Launch) : ZMe := (l, "SpellScribe$Text", cX9_findWords, 6, 2, 47, none, "findWords", [])
set_option maxRecDepth 20000 in
theorem sim_X9_findWords_b129 (l : Launch) (v0 : Option Nat) : Sim (M_X9_findWords l) (zFin zcV) 129 [(0, .inr (.inr v0))] [] (p_X9_findWords_b129 v0) := by
  unfold p_X9_findWords_b129
  refine s_aloadn (j := 0) dX9_findWords_129 rfl ?_
  refine s_aloadn (j := 0) dX9_findWords_130 rfl ?_
  refine s_getI (k := 6) cls_10 (by decide) rfl dX9_findWords_131 w_184 rfl (fun x1 => ?_)
  refine s_cVV (rest := []) (met_X9_endSentence l v0 x1) cls_10 mth_X9_endSentence rfl dX9_findWords_134 w_654 w_656 wp_24 ⟨Nat.le_of_ble_eq_true rfl, Nat.le_of_ble_eq_true rfl⟩ (Nat.le_of_ble_eq_true rfl) rfl ?_
  exact s_vret dX9_findWords_137 rfl
set_option maxRecDepth 20000 in
theorem sim_X9_findWords_b120 (l : Launch) (r16 : Option Nat → Int32 → Int32 → Int32 → ZM Unit) (hr16 : ∀ (v0 : Option Nat) (v1 : Int32) (v2 : Int32) (v3 : Int32), Sim (M_X9_findWords l) (zFin zcV) 16 [(0, .inr (.inr v0)), (1, .inl v1), (2, .inl v2), (3, .inl v3)] [] (r16 v0 v1 v2 v3)) (v0 : Option Nat) (v1 : Int32) (v3 : Int32) (v5 : Int32) : Sim (M_X9_findWords l) (zFin zcV) 120 [(0, .inr (.inr v0)), (1, .inl v1), (3, .inl v3), (5, .inl v5)] [] (p_X9_findWords_b120 r16 v0 v1 v3 v5) := by
  unfold p_X9_findWords_b120
  refine s_iload (j := 3) dX9_findWords_120 rfl ?_
  refine s_istoren (lv' := [(2, .inl v5), (0, .inr (.inr v0)), (1, .inl v1), (3, .inl v3), (5, .inl v5)]) dX9_findWords_122 (Nat.le_of_ble_eq_true rfl) rfl ?_
  refine s_n0 (fun y2 hy2 => ?_)
  refine s_iinc (j := 3) (v := y2) (d := 1) (lv' := [(3, .inl y2), (2, .inl v5), (0, .inr (.inr v0)), (1, .inl v1), (5, .inl v5)]) dX9_findWords_123 rfl (by decide) hy2 (Nat.le_of_ble_eq_true rfl) rfl ?_
  refine s_goto (tgt := 16) dX9_findWords_126 (by decide) ?_
  exact Sim.sub [2, 3, 1, 0] rfl (hr16 v0 v1 v5 y2)
set_option maxRecDepth 20000 in
theorem sim_X9_findWords_b119 (l : Launch) (r16 : Option Nat → Int32 → Int32 → Int32 → ZM Unit) (hr16 : ∀ (v0 : Option Nat) (v1 : Int32) (v2 : Int32) (v3 : Int32), Sim (M_X9_findWords l) (zFin zcV) 16 [(0, .inr (.inr v0)), (1, .inl v1), (2, .inl v2), (3, .inl v3)] [] (r16 v0 v1 v2 v3)) (v0 : Option Nat) (v3 : Int32) (v5 : Int32) (s0 : Int32) : Sim (M_X9_findWords l) (zFin zcV) 119 [(0, .inr (.inr v0)), (3, .inl v3), (5, .inl v5)] [.inl s0] (p_X9_findWords_b119 r16 v0 v3 v5 s0) := by
  unfold p_X9_findWords_b119
  refine s_istoren (lv' := [(1, .inl s0), (0, .inr (.inr v0)), (3, .inl v3), (5, .inl v5)]) dX9_findWords_119 (Nat.le_of_ble_eq_true rfl) rfl ?_
  exact Sim.sub [1, 0, 2, 3] rfl (sim_X9_findWords_b120 l r16 hr16 v0 s0 v3 v5)
set_option maxRecDepth 20000 in
theorem sim_X9_findWords_b107 (l : Launch) (r16 : Option Nat → Int32 → Int32 → Int32 → ZM Unit) (hr16 : ∀ (v0 : Option Nat) (v1 : Int32) (v2 : Int32) (v3 : Int32), Sim (M_X9_findWords l) (zFin zcV) 16 [(0, .inr (.inr v0)), (1, .inl v1), (2, .inl v2), (3, .inl v3)] [] (r16 v0 v1 v2 v3)) (v0 : Option Nat) (v3 : Int32) (v4 : Int32) (v5 : Int32) : Sim (M_X9_findWords l) (zFin zcV) 107 [(0, .inr (.inr v0)), (3, .inl v3), (4, .inl v4), (5, .inl v5)] [] (p_X9_findWords_b107 r16 v0 v3 v4 v5) := by
  unfold p_X9_findWords_b107
  refine s_iload (j := 2) dX9_findWords_107 rfl ?_
  refine s_bipush (v := 60) dX9_findWords_109 (by decide) ?_
  refine s_icmp_ne (tgt := 118) dX9_findWords_111 (by decide) ?_ ?_
  · refine s_iconst (v := 0) dX9_findWords_118 (by decide) ?_
    exact Sim.sub [0, 1, 3] rfl (sim_X9_findWords_b119 l r16 hr16 v0 v3 v5 0)
  · refine s_iconst (v := 1) dX9_findWords_114 (by decide) ?_
    refine s_goto (tgt := 119) dX9_findWords_115 (by decide) ?_
    exact Sim.sub [0, 1, 3] rfl (sim_X9_findWords_b119 l r16 hr16 v0 v3 v5 1)
set_option maxRecDepth 20000 in
theorem sim_X9_findWords_b93 (l : Launch) (r16 : Option Nat → Int32 → Int32 → Int32 → ZM Unit) (hr16 : ∀ (v0 : Option Nat) (v1 : Int32) (v2 : Int32) (v3 : Int32), Sim (M_X9_findWords l) (zFin zcV) 16 [(0, .inr (.inr v0)), (1, .inl v1), (2, .inl v2), (3, .inl v3)] [] (r16 v0 v1 v2 v3)) (v0 : Option Nat) (v1 : Int32) (v3 : Int32) (v4 : Int32) (v5 : Int32) : Sim (M_X9_findWords l) (zFin zcV) 93 [(0, .inr (.inr v0)), (1, .inl v1), (3, .inl v3), (4, .inl v4), (5, .inl v5)] [] (p_X9_findWords_b93 r16 v0 v1 v3 v4 v5) := by
  unfold p_X9_findWords_b93
  refine s_iload (j := 3) dX9_findWords_93 rfl ?_
  refine s_bipush (v := 60) dX9_findWords_95 (by decide) ?_
  refine s_icmp_eq (tgt := 107) dX9_findWords_97 (by decide) ?_ ?_
  · exact Sim.sub [0, 2, 3, 4] rfl (sim_X9_findWords_b107 l r16 hr16 v0 v3 v4 v5)
  · refine s_iload (j := 3) dX9_findWords_100 rfl ?_
    refine s_bipush (v := 62) dX9_findWords_102 (by decide) ?_
    refine s_icmp_ne (tgt := 120) dX9_findWords_104 (by decide) ?_ ?_
    · exact Sim.sub [0, 1, 2, 4] rfl (sim_X9_findWords_b120 l r16 hr16 v0 v1 v3 v5)
    · exact Sim.sub [0, 2, 3, 4] rfl (sim_X9_findWords_b107 l r16 hr16 v0 v3 v4 v5)
set_option maxRecDepth 20000 in
theorem sim_X9_findWords_b51 (l : Launch) (r16 : Option Nat → Int32 → Int32 → Int32 → ZM Unit) (hr16 : ∀ (v0 : Option Nat) (v1 : Int32) (v2 : Int32) (v3 : Int32), Sim (M_X9_findWords l) (zFin zcV) 16 [(0, .inr (.inr v0)), (1, .inl v1), (2, .inl v2), (3, .inl v3)] [] (r16 v0 v1 v2 v3)) (v0 : Option Nat) (v1 : Int32) (v2 : Int32) (v3 : Int32) (v4 : Int32) (s0 : Int32) : Sim (M_X9_findWords l) (zFin zcV) 51 [(0, .inr (.inr v0)), (1, .inl v1), (2, .inl v2), (3, .inl v3), (4, .inl v4)] [.inl s0] (p_X9_findWords_b51 r16 v0 v1 v2 v3 v4 s0) := by
  unfold p_X9_findWords_b51
  refine s_istore (lv' := [(5, .inl s0), (0, .inr (.inr v0)), (1, .inl v1), (2, .inl v2), (3, .inl v3), (4, .inl v4)]) dX9_findWords_51 (Nat.le_of_ble_eq_true rfl) rfl ?_
  refine s_iload (j := 0) dX9_findWords_53 rfl ?_
  refine s_if_eq (tgt := 72) dX9_findWords_55 (by decide) ?_ ?_
  · refine s_iload (j := 5) dX9_findWords_72 rfl ?_
    refine s_bipush (v := 46) dX9_findWords_74 (by decide) ?_
    refine s_icmp_ne (tgt := 93) dX9_findWords_76 (by decide) ?_ ?_
    · exact Sim.sub [1, 2, 4, 5, 0] rfl (sim_X9_findWords_b93 l r16 hr16 v0 v1 v3 v4 s0)
    · refine s_iloadn (j := 2) dX9_findWords_79 rfl ?_
      refine s_if_ne (tgt := 93) dX9_findWords_80 (by decide) ?_ ?_
      · exact Sim.sub [1, 2, 4, 5, 0] rfl (sim_X9_findWords_b93 l r16 hr16 v0 v1 v3 v4 s0)
      · refine s_aloadn (j := 1) dX9_findWords_83 rfl ?_
        refine s_iloadn (j := 4) dX9_findWords_84 rfl ?_
        refine s_iconst (v := 1) dX9_findWords_85 (by decide) ?_
        refine s_iadd dX9_findWords_86 ?_
        refine s_cVV (rest := []) (met_X9_endSentence l v0 (v3 + 1)) cls_10 mth_X9_endSentence rfl dX9_findWords_87 w_654 w_656 wp_24 ⟨Nat.le_of_ble_eq_true rfl, Nat.le_of_ble_eq_true rfl⟩ (Nat.le_of_ble_eq_true rfl) rfl ?_
        refine s_goto (tgt := 120) dX9_findWords_90 (by decide) ?_
        exact Sim.sub [1, 2, 4, 0] rfl (sim_X9_findWords_b120 l r16 hr16 v0 v1 v3 s0)
  · refine s_aloadn (j := 1) dX9_findWords_58 rfl ?_
    refine s_iloadn (j := 4) dX9_findWords_59 rfl ?_
    refine s_iload (j := 5) dX9_findWords_60 rfl ?_
    refine s_bipush (v := 97) dX9_findWords_62 (by decide) ?_
    refine s_isub dX9_findWords_64 ?_
    refine s_iloadn (j := 3) dX9_findWords_65 rfl ?_
    refine s_cVV (rest := []) (met_X9_addLetter l v0 v3 (v4 - 97) v2) cls_10 mth_X9_addLetter rfl dX9_findWords_66 w_646 w_648 wp_23 ⟨Nat.le_of_ble_eq_true rfl, Nat.le_of_ble_eq_true rfl⟩ (Nat.le_of_ble_eq_true rfl) rfl ?_
    refine s_goto (tgt := 120) dX9_findWords_69 (by decide) ?_
    exact Sim.sub [1, 2, 4, 0] rfl (sim_X9_findWords_b120 l r16 hr16 v0 v1 v3 s0)
set_option maxRecDepth 20000 in
theorem sim_X9_findWords_b50 (l : Launch) (r16 : Option Nat → Int32 → Int32 → Int32 → ZM Unit) (hr16 : ∀ (v0 : Option Nat) (v1 : Int32) (v2 : Int32) (v3 : Int32), Sim (M_X9_findWords l) (zFin zcV) 16 [(0, .inr (.inr v0)), (1, .inl v1), (2, .inl v2), (3, .inl v3)] [] (r16 v0 v1 v2 v3)) (v0 : Option Nat) (v1 : Int32) (v2 : Int32) (v3 : Int32) (v4 : Int32) : Sim (M_X9_findWords l) (zFin zcV) 50 [(0, .inr (.inr v0)), (1, .inl v1), (2, .inl v2), (3, .inl v3), (4, .inl v4)] [] (p_X9_findWords_b50 r16 v0 v1 v2 v3 v4) := by
  unfold p_X9_findWords_b50
  refine s_iconst (v := 0) dX9_findWords_50 (by decide) ?_
  exact Sim.sub [0, 1, 2, 3, 4] rfl (sim_X9_findWords_b51 l r16 hr16 v0 v1 v2 v3 v4 0)
set_option maxRecDepth 20000 in
theorem sim_X9_findWords_c16 (l : Launch) (r16 : Option Nat → Int32 → Int32 → Int32 → ZM Unit) (hr16 : ∀ (v0 : Option Nat) (v1 : Int32) (v2 : Int32) (v3 : Int32), Sim (M_X9_findWords l) (zFin zcV) 16 [(0, .inr (.inr v0)), (1, .inl v1), (2, .inl v2), (3, .inl v3)] [] (r16 v0 v1 v2 v3)) (v0 : Option Nat) (v1 : Int32) (v2 : Int32) (v3 : Int32) : Sim (M_X9_findWords l) (zFin zcV) 16 [(0, .inr (.inr v0)), (1, .inl v1), (2, .inl v2), (3, .inl v3)] [] (p_X9_findWords_c16 r16 v0 v1 v2 v3) := by
  unfold p_X9_findWords_c16
  refine s_iloadn (j := 3) dX9_findWords_16 rfl ?_
  refine s_aloadn (j := 0) dX9_findWords_17 rfl ?_
  refine s_getI (k := 6) cls_10 (by decide) rfl dX9_findWords_18 w_184 rfl (fun x3 => ?_)
  refine s_icmp_ge (tgt := 129) dX9_findWords_21 (by decide) ?_ ?_
  · exact Sim.sub [0] rfl (sim_X9_findWords_b129 l v0)
  · refine s_aloadn (j := 0) dX9_findWords_24 rfl ?_
    refine s_getR (k := 0) cls_10 (by decide) rfl dX9_findWords_25 w_178 rfl (fun x4 => ?_)
    refine s_iloadn (j := 3) dX9_findWords_28 rfl ?_
    refine s_cVI (rest := []) (met_X4_get l x4 v3) cls_5 mth_X4_get rfl dX9_findWords_29 w_354 w_355 w_356 ⟨Nat.le_of_ble_eq_true rfl, Nat.le_of_ble_eq_true rfl⟩ (Nat.le_of_ble_eq_true rfl) rfl (fun x5 => ?_)
    refine s_istore (lv' := [(4, .inl x5), (0, .inr (.inr v0)), (1, .inl v1), (2, .inl v2), (3, .inl v3)]) dX9_findWords_32 (Nat.le_of_ble_eq_true rfl) rfl ?_
    refine s_iloadn (j := 2) dX9_findWords_34 rfl ?_
    refine s_if_ne (tgt := 50) dX9_findWords_35 (by decide) ?_ ?_
    · exact Sim.sub [1, 2, 3, 4, 0] rfl (sim_X9_findWords_b50 l r16 hr16 v0 v1 v2 v3 x5)
    · refine s_iload (j := 0) dX9_findWords_38 rfl ?_
      refine s_cSIN (rest := []) (met_X11_isLetter l x5) mth_X11_isLetter rfl dX9_findWords_40 w_643 w_644 ⟨Nat.le_of_ble_eq_true rfl, Nat.le_of_ble_eq_true rfl⟩ (Nat.le_of_ble_eq_true rfl) rfl (fun x6 => ?_)
      refine s_if_eq (tgt := 50) dX9_findWords_43 (by decide) ?_ ?_
      · exact Sim.sub [1, 2, 3, 4, 0] rfl (sim_X9_findWords_b50 l r16 hr16 v0 v1 v2 v3 x5)
      · refine s_iconst (v := 1) dX9_findWords_46 (by decide) ?_
        refine s_goto (tgt := 51) dX9_findWords_47 (by decide) ?_
        exact Sim.sub [1, 2, 3, 4, 0] rfl (sim_X9_findWords_b51 l r16 hr16 v0 v1 v2 v3 x5 1)
theorem sim_X9_findWords_l16 (l : Launch) : ∀ (n : Nat) (v0 : Option Nat) (v1 : Int32) (v2 : Int32) (v3 : Int32), Sim (M_X9_findWords l) (zFin zcV) 16 [(0, .inr (.inr v0)), (1, .inl v1), (2, .inl v2), (3, .inl v3)] [] (p_X9_findWords_l16 n v0 v1 v2 v3)
  | 0, _, _, _, _ => s_fl
  | n + 1, v0, v1, v2, v3 => sim_X9_findWords_c16 l (p_X9_findWords_l16 n) (sim_X9_findWords_l16 l n) v0 v1 v2 v3
set_option maxRecDepth 20000 in
theorem sim_X9_findWords (l : Launch) (v0 : Option Nat) : Sim (M_X9_findWords l) (zFin zcV) 0 [(0, .inr (.inr v0))] [] (p_X9_findWords v0) := by
  unfold p_X9_findWords
  refine s_iconst (v := 0) dX9_findWords_0 (by decide) ?_
  refine s_istoren (lv' := [(1, .inl 0), (0, .inr (.inr v0))]) dX9_findWords_1 (Nat.le_of_ble_eq_true rfl) rfl ?_
  refine s_iconst (v := 0) dX9_findWords_2 (by decide) ?_
  refine s_istoren (lv' := [(2, .inl 0), (1, .inl 0), (0, .inr (.inr v0))]) dX9_findWords_3 (Nat.le_of_ble_eq_true rfl) rfl ?_
  refine s_aloadn (j := 2) dX9_findWords_4 rfl ?_
  refine s_iconst (v := 0) dX9_findWords_5 (by decide) ?_
  refine s_putI (k := 7) cls_10 (by decide) rfl rfl rfl dX9_findWords_6 w_185 rfl ?_
  refine s_aloadn (j := 2) dX9_findWords_9 rfl ?_
  refine s_iconst (v := 0) dX9_findWords_10 (by decide) ?_
  refine s_putI (k := 8) cls_10 (by decide) rfl rfl rfl dX9_findWords_11 w_186 rfl ?_
  refine s_iconst (v := 0) dX9_findWords_14 (by decide) ?_
  refine s_istoren (lv' := [(3, .inl 0), (2, .inl 0), (1, .inl 0), (0, .inr (.inr v0))]) dX9_findWords_15 (Nat.le_of_ble_eq_true rfl) rfl ?_
  exact Sim.sub [3, 2, 1, 0] rfl (sim_X9_findWords_l16 l zFuel v0 0 0 0)
theorem met_X9_findWords (l : Launch) (v0 : Option Nat) : zMet l yX9_findWords cX9_findWords 6 none 2 47 [.inr (.inr v0)] zcV (p_X9_findWords v0) :=
  zMet.of (by decide +kernel) (Nat.le_of_ble_eq_true rfl) rfl (sim_X9_findWords l v0)
def p_X9_becomeLike_b40 (v0 : Option Nat) : ZM Unit :=
  z_b (z_vr 10 v0 (p_X9_findWords v0)) fun _ => z_rt ()
def p_X9_becomeLike_c10 (r10 : Option Nat → Option Nat → Int32 → ZM Unit) (v0 : Option Nat) (v1 : Option Nat) (v2 : Int32) : ZM Unit :=
  z_b (z_gI 10 6 v0) fun x1 => if x1 ≤ v2 then (p_X9_becomeLike_b40 v0)
  else (z_b (z_gR 10 0 v0) fun x2 => z_b (z_gR 10 0 v1) fun x3 => z_b (z_vr 5 x3 (p_X4_get x3 v2)) fun x4 => z_b (z_vr 5 x2 (p_X4_set x2 v2 x4)) fun _ => z_n (v2 + 1 : Int32) fun y5 => r10 v0 v1 y5)
def p_X9_becomeLike_l10 : Nat → Option Nat → Option Nat → Int32 → ZM Unit
  | 0, _, _, _ => z_fl
  | n + 1, v0, v1, v2 => p_X9_becomeLike_c10 (p_X9_becomeLike_l10 n) v0 v1 v2
def p_X9_becomeLike (v0 : Option Nat) (v1 : Option Nat) : ZM Unit :=
  z_b (z_gI 10 6 v1) fun x6 => z_b (z_pI 10 6 v0 x6) fun _ => p_X9_becomeLike_l10 zFuel v0 v1 0
abbrev M_X9_becomeLike (l : Launch) : ZMe := (l, "SpellScribe$Text", cX9_becomeLike, 3, 3, 72, none, "becomeLike", [])
set_option maxRecDepth 20000 in
theorem sim_X9_becomeLike_b40 (l : Launch) (v0 : Option Nat) : Sim (M_X9_becomeLike l) (zFin zcV) 40 [(0, .inr (.inr v0))] [] (p_X9_becomeLike_b40 v0) := by
  unfold p_X9_becomeLike_b40
  refine s_aloadn (j := 0) dX9_becomeLike_40 rfl ?_
  refine s_cVV (rest := []) (met_X9_findWords l v0) cls_10 mth_X9_findWords rfl dX9_becomeLike_41 w_1193 w_640 w_641 ⟨Nat.le_of_ble_eq_true rfl, Nat.le_of_ble_eq_true rfl⟩ (Nat.le_of_ble_eq_true rfl) rfl ?_
  exact s_vret dX9_becomeLike_44 rfl
set_option maxRecDepth 20000 in
theorem sim_X9_becomeLike_c10 (l : Launch) (r10 : Option Nat → Option Nat → Int32 → ZM Unit) (hr10 : ∀ (v0 : Option Nat) (v1 : Option Nat) (v2 : Int32), Sim (M_X9_becomeLike l) (zFin zcV) 10 [(0, .inr (.inr v0)), (1, .inr (.inr v1)), (2, .inl v2)] [] (r10 v0 v1 v2)) (v0 : Option Nat) (v1 : Option Nat) (v2 : Int32) : Sim (M_X9_becomeLike l) (zFin zcV) 10 [(0, .inr (.inr v0)), (1, .inr (.inr v1)), (2, .inl v2)] [] (p_X9_becomeLike_c10 r10 v0 v1 v2) := by
  unfold p_X9_becomeLike_c10
  refine s_iloadn (j := 2) dX9_becomeLike_10 rfl ?_
  refine s_aloadn (j := 0) dX9_becomeLike_11 rfl ?_
  refine s_getI (k := 6) cls_10 (by decide) rfl dX9_becomeLike_12 w_184 rfl (fun x1 => ?_)
  refine s_icmp_ge (tgt := 40) dX9_becomeLike_15 (by decide) ?_ ?_
  · exact Sim.sub [0] rfl (sim_X9_becomeLike_b40 l v0)
  · refine s_aloadn (j := 0) dX9_becomeLike_18 rfl ?_
    refine s_getR (k := 0) cls_10 (by decide) rfl dX9_becomeLike_19 w_178 rfl (fun x2 => ?_)
    refine s_iloadn (j := 2) dX9_becomeLike_22 rfl ?_
    refine s_aloadn (j := 1) dX9_becomeLike_23 rfl ?_
    refine s_getR (k := 0) cls_10 (by decide) rfl dX9_becomeLike_24 w_178 rfl (fun x3 => ?_)
    refine s_iloadn (j := 2) dX9_becomeLike_27 rfl ?_
    refine s_cVI (rest := [.inl v2, .inr (.inr x2)]) (met_X4_get l x3 v2) cls_5 mth_X4_get rfl dX9_becomeLike_28 w_354 w_355 w_356 ⟨Nat.le_of_ble_eq_true rfl, Nat.le_of_ble_eq_true rfl⟩ (Nat.le_of_ble_eq_true rfl) rfl (fun x4 => ?_)
    refine s_cVV (rest := []) (met_X4_set l x2 v2 x4) cls_5 mth_X4_set rfl dX9_becomeLike_31 w_650 w_347 w_348 ⟨Nat.le_of_ble_eq_true rfl, Nat.le_of_ble_eq_true rfl⟩ (Nat.le_of_ble_eq_true rfl) rfl ?_
    refine s_n0 (fun y5 hy5 => ?_)
    refine s_iinc (j := 2) (v := y5) (d := 1) (lv' := [(2, .inl y5), (0, .inr (.inr v0)), (1, .inr (.inr v1))]) dX9_becomeLike_34 rfl (by decide) hy5 (Nat.le_of_ble_eq_true rfl) rfl ?_
    refine s_goto (tgt := 10) dX9_becomeLike_37 (by decide) ?_
    exact Sim.sub [1, 2, 0] rfl (hr10 v0 v1 y5)
theorem sim_X9_becomeLike_l10 (l : Launch) : ∀ (n : Nat) (v0 : Option Nat) (v1 : Option Nat) (v2 : Int32), Sim (M_X9_becomeLike l) (zFin zcV) 10 [(0, .inr (.inr v0)), (1, .inr (.inr v1)), (2, .inl v2)] [] (p_X9_becomeLike_l10 n v0 v1 v2)
  | 0, _, _, _ => s_fl
  | n + 1, v0, v1, v2 => sim_X9_becomeLike_c10 l (p_X9_becomeLike_l10 n) (sim_X9_becomeLike_l10 l n) v0 v1 v2
set_option maxRecDepth 20000 in
theorem sim_X9_becomeLike (l : Launch) (v0 : Option Nat) (v1 : Option Nat) : Sim (M_X9_becomeLike l) (zFin zcV) 0 [(0, .inr (.inr v0)), (1, .inr (.inr v1))] [] (p_X9_becomeLike v0 v1) := by
  unfold p_X9_becomeLike
  refine s_aloadn (j := 0) dX9_becomeLike_0 rfl ?_
  refine s_aloadn (j := 1) dX9_becomeLike_1 rfl ?_
  refine s_getI (k := 6) cls_10 (by decide) rfl dX9_becomeLike_2 w_184 rfl (fun x6 => ?_)
  refine s_putI (k := 6) cls_10 (by decide) rfl rfl rfl dX9_becomeLike_5 w_184 rfl ?_
  refine s_iconst (v := 0) dX9_becomeLike_8 (by decide) ?_
  refine s_istoren (lv' := [(2, .inl 0), (0, .inr (.inr v0)), (1, .inr (.inr v1))]) dX9_becomeLike_9 (Nat.le_of_ble_eq_true rfl) rfl ?_
  exact Sim.sub [1, 2, 0] rfl (sim_X9_becomeLike_l10 l zFuel v0 v1 0)
theorem met_X9_becomeLike (l : Launch) (v0 : Option Nat) (v1 : Option Nat) : zMet l yX9_becomeLike cX9_becomeLike 3 none 3 72 [.inr (.inr v0), .inr (.inr v1)] zcV (p_X9_becomeLike v0 v1) :=
  zMet.of (by decide +kernel) (Nat.le_of_ble_eq_true rfl) rfl (sim_X9_becomeLike l v0 v1)
def p_X9_isLike_c58 (r58 : Option Nat → Option Nat → Int32 → Int32 → Int32 → Int32 → ZM Int32) (v0 : Option Nat) (v2 : Option Nat) (v4 : Int32) (v5 : Int32) (v6 : Int32) (v7 : Int32) : ZM Int32 :=
  if v6 ≤ v7 then (z_rz 1)
  else (z_b (z_gR 10 0 v0) fun x1 => z_b (z_vr 5 x1 (p_X4_get x1 (v4 + v7))) fun x2 => z_b (z_gR 10 0 v2) fun x3 => z_b (z_vr 5 x3 (p_X4_get x3 (v5 + v7))) fun x4 => if x2 = x4 then (z_n (v7 + 1 : Int32) fun y5 => r58 v0 v2 v4 v5 v6 y5)
  else (z_rz 0))
def p_X9_isLike_l58 : Nat → Option Nat → Option Nat → Int32 → Int32 → Int32 → Int32 → ZM Int32
  | 0, _, _, _, _, _, _ => z_fl
  | n + 1, v0, v2, v4, v5, v6, v7 => p_X9_isLike_c58 (p_X9_isLike_l58 n) v0 v2 v4 v5 v6 v7
def p_X9_isLike (v0 : Option Nat) (v1 : Int32) (v2 : Option Nat) (v3 : Int32) : ZM Int32 :=
  z_b (z_gR 10 4 v0) fun x6 => z_b (z_vr 5 x6 (p_X4_get x6 v1)) fun x7 => z_b (z_gR 10 4 v2) fun x8 => z_b (z_vr 5 x8 (p_X4_get x8 v3)) fun x9 => z_b (z_gR 10 4 v0) fun x10 => z_b (z_vr 5 x10 (p_X4_get x10 (v1 + 1))) fun x11 => z_n ((x11 - x7) : Int32) fun y12 => z_b (z_gR 10 4 v2) fun x13 => z_b (z_vr 5 x13 (p_X4_get x13 (v3 + 1))) fun x14 => if y12 = (x14 - x9) then (p_X9_isLike_l58 zFuel v0 v2 x7 x9 y12 0)
  else (z_rz 0)
abbrev M_X9_isLike (l : Launch) : ZMe := (l, "SpellScribe$Text", cX9_isLike, 8, 1, 21, (some .boolean), "isLike", [])
set_option maxRecDepth 20000 in
theorem sim_X9_isLike_c58 (l : Launch) (r58 : Option Nat → Option Nat → Int32 → Int32 → Int32 → Int32 → ZM Int32) (hr58 : ∀ (v0 : Option Nat) (v2 : Option Nat) (v4 : Int32) (v5 : Int32) (v6 : Int32) (v7 : Int32), Sim (M_X9_isLike l) (zFin zcI) 58 [(0, .inr (.inr v0)), (2, .inr (.inr v2)), (4, .inl v4), (5, .inl v5), (6, .inl v6), (7, .inl v7)] [] (r58 v0 v2 v4 v5 v6 v7)) (v0 : Option Nat) (v2 : Option Nat) (v4 : Int32) (v5 : Int32) (v6 : Int32) (v7 : Int32) : Sim (M_X9_isLike l) (zFin zcI) 58 [(0, .inr (.inr v0)), (2, .inr (.inr v2)), (4, .inl v4), (5, .inl v5), (6, .inl v6), (7, .inl v7)] [] (p_X9_isLike_c58 r58 v0 v2 v4 v5 v6 v7) := by
  unfold p_X9_isLike_c58
  refine s_iload (j := 5) dX9_isLike_58 rfl ?_
  refine s_iload (j := 4) dX9_isLike_60 rfl ?_
  refine s_icmp_ge (tgt := 100) dX9_isLike_62 (by decide) ?_ ?_
  · refine s_iconst (v := 1) dX9_isLike_100 (by decide) ?_
    exact s_zret dX9_isLike_101 rfl
  · refine s_aloadn (j := 0) dX9_isLike_65 rfl ?_
    refine s_getR (k := 0) cls_10 (by decide) rfl dX9_isLike_66 w_178 rfl (fun x1 => ?_)
    refine s_iload (j := 2) dX9_isLike_69 rfl ?_
    refine s_iload (j := 5) dX9_isLike_71 rfl ?_
    refine s_iadd dX9_isLike_73 ?_
    refine s_cVI (rest := []) (met_X4_get l x1 (v4 + v7)) cls_5 mth_X4_get rfl dX9_isLike_74 w_354 w_355 w_356 ⟨Nat.le_of_ble_eq_true rfl, Nat.le_of_ble_eq_true rfl⟩ (Nat.le_of_ble_eq_true rfl) rfl (fun x2 => ?_)
    refine s_aloadn (j := 1) dX9_isLike_77 rfl ?_
    refine s_getR (k := 0) cls_10 (by decide) rfl dX9_isLike_78 w_178 rfl (fun x3 => ?_)
    refine s_iload (j := 3) dX9_isLike_81 rfl ?_
    refine s_iload (j := 5) dX9_isLike_83 rfl ?_
    refine s_iadd dX9_isLike_85 ?_
    refine s_cVI (rest := [.inl x2]) (met_X4_get l x3 (v5 + v7)) cls_5 mth_X4_get rfl dX9_isLike_86 w_354 w_355 w_356 ⟨Nat.le_of_ble_eq_true rfl, Nat.le_of_ble_eq_true rfl⟩ (Nat.le_of_ble_eq_true rfl) rfl (fun x4 => ?_)
    refine s_icmp_eq (tgt := 94) dX9_isLike_89 (by decide) ?_ ?_
    · refine s_n0 (fun y5 hy5 => ?_)
      refine s_iinc (j := 5) (v := y5) (d := 1) (lv' := [(7, .inl y5), (0, .inr (.inr v0)), (2, .inr (.inr v2)), (4, .inl v4), (5, .inl v5), (6, .inl v6)]) dX9_isLike_94 rfl (by decide) hy5 (Nat.le_of_ble_eq_true rfl) rfl ?_
      refine s_goto (tgt := 58) dX9_isLike_97 (by decide) ?_
      exact Sim.sub [1, 2, 3, 4, 5, 0] rfl (hr58 v0 v2 v4 v5 v6 y5)
    · refine s_iconst (v := 0) dX9_isLike_92 (by decide) ?_
      exact s_zret dX9_isLike_93 rfl
theorem sim_X9_isLike_l58 (l : Launch) : ∀ (n : Nat) (v0 : Option Nat) (v2 : Option Nat) (v4 : Int32) (v5 : Int32) (v6 : Int32) (v7 : Int32), Sim (M_X9_isLike l) (zFin zcI) 58 [(0, .inr (.inr v0)), (2, .inr (.inr v2)), (4, .inl v4), (5, .inl v5), (6, .inl v6), (7, .inl v7)] [] (p_X9_isLike_l58 n v0 v2 v4 v5 v6 v7)
  | 0, _, _, _, _, _, _ => s_fl
  | n + 1, v0, v2, v4, v5, v6, v7 => sim_X9_isLike_c58 l (p_X9_isLike_l58 n) (sim_X9_isLike_l58 l n) v0 v2 v4 v5 v6 v7
set_option maxRecDepth 20000 in
theorem sim_X9_isLike (l : Launch) (v0 : Option Nat) (v1 : Int32) (v2 : Option Nat) (v3 : Int32) : Sim (M_X9_isLike l) (zFin zcI) 0 [(0, .inr (.inr v0)), (1, .inl v1), (2, .inr (.inr v2)), (3, .inl v3)] [] (p_X9_isLike v0 v1 v2 v3) := by
  unfold p_X9_isLike
  refine s_aloadn (j := 0) dX9_isLike_0 rfl ?_
  refine s_getR (k := 4) cls_10 (by decide) rfl dX9_isLike_1 w_182 rfl (fun x6 => ?_)
  refine s_iloadn (j := 1) dX9_isLike_4 rfl ?_
  refine s_cVI (rest := []) (met_X4_get l x6 v1) cls_5 mth_X4_get rfl dX9_isLike_5 w_354 w_355 w_356 ⟨Nat.le_of_ble_eq_true rfl, Nat.le_of_ble_eq_true rfl⟩ (Nat.le_of_ble_eq_true rfl) rfl (fun x7 => ?_)
  refine s_istore (lv' := [(4, .inl x7), (0, .inr (.inr v0)), (1, .inl v1), (2, .inr (.inr v2)), (3, .inl v3)]) dX9_isLike_8 (Nat.le_of_ble_eq_true rfl) rfl ?_
  refine s_aloadn (j := 3) dX9_isLike_10 rfl ?_
  refine s_getR (k := 4) cls_10 (by decide) rfl dX9_isLike_11 w_182 rfl (fun x8 => ?_)
  refine s_iloadn (j := 4) dX9_isLike_14 rfl ?_
  refine s_cVI (rest := []) (met_X4_get l x8 v3) cls_5 mth_X4_get rfl dX9_isLike_15 w_354 w_355 w_356 ⟨Nat.le_of_ble_eq_true rfl, Nat.le_of_ble_eq_true rfl⟩ (Nat.le_of_ble_eq_true rfl) rfl (fun x9 => ?_)
  refine s_istore (lv' := [(5, .inl x9), (4, .inl x7), (0, .inr (.inr v0)), (1, .inl v1), (2, .inr (.inr v2)), (3, .inl v3)]) dX9_isLike_18 (Nat.le_of_ble_eq_true rfl) rfl ?_
  refine s_aloadn (j := 2) dX9_isLike_20 rfl ?_
  refine s_getR (k := 4) cls_10 (by decide) rfl dX9_isLike_21 w_182 rfl (fun x10 => ?_)
  refine s_iloadn (j := 3) dX9_isLike_24 rfl ?_
  refine s_iconst (v := 1) dX9_isLike_25 (by decide) ?_
  refine s_iadd dX9_isLike_26 ?_
  refine s_cVI (rest := []) (met_X4_get l x10 (v1 + 1)) cls_5 mth_X4_get rfl dX9_isLike_27 w_354 w_355 w_356 ⟨Nat.le_of_ble_eq_true rfl, Nat.le_of_ble_eq_true rfl⟩ (Nat.le_of_ble_eq_true rfl) rfl (fun x11 => ?_)
  refine s_iload (j := 1) dX9_isLike_30 rfl ?_
  refine s_isub dX9_isLike_32 ?_
  refine s_nI (fun y12 => ?_)
  refine s_istore (lv' := [(6, .inl y12), (5, .inl x9), (4, .inl x7), (0, .inr (.inr v0)), (1, .inl v1), (2, .inr (.inr v2)), (3, .inl v3)]) dX9_isLike_33 (Nat.le_of_ble_eq_true rfl) rfl ?_
  refine s_iload (j := 0) dX9_isLike_35 rfl ?_
  refine s_aloadn (j := 5) dX9_isLike_37 rfl ?_
  refine s_getR (k := 4) cls_10 (by decide) rfl dX9_isLike_38 w_182 rfl (fun x13 => ?_)
  refine s_iloadn (j := 6) dX9_isLike_41 rfl ?_
  refine s_iconst (v := 1) dX9_isLike_42 (by decide) ?_
  refine s_iadd dX9_isLike_43 ?_
  refine s_cVI (rest := [.inl y12]) (met_X4_get l x13 (v3 + 1)) cls_5 mth_X4_get rfl dX9_isLike_44 w_354 w_355 w_356 ⟨Nat.le_of_ble_eq_true rfl, Nat.le_of_ble_eq_true rfl⟩ (Nat.le_of_ble_eq_true rfl) rfl (fun x14 => ?_)
  refine s_iload (j := 1) dX9_isLike_47 rfl ?_
  refine s_isub dX9_isLike_49 ?_
  refine s_icmp_eq (tgt := 55) dX9_isLike_50 (by decide) ?_ ?_
  · refine s_iconst (v := 0) dX9_isLike_55 (by decide) ?_
    refine s_istore (lv' := [(7, .inl 0), (6, .inl y12), (5, .inl x9), (4, .inl x7), (0, .inr (.inr v0)), (1, .inl v1), (2, .inr (.inr v2)), (3, .inl v3)]) dX9_isLike_56 (Nat.le_of_ble_eq_true rfl) rfl ?_
    exact Sim.sub [4, 6, 3, 2, 1, 0] rfl (sim_X9_isLike_l58 l zFuel v0 v2 x7 x9 y12 0)
  · refine s_iconst (v := 0) dX9_isLike_53 (by decide) ?_
    exact s_zret dX9_isLike_54 rfl
theorem met_X9_isLike (l : Launch) (v0 : Option Nat) (v1 : Int32) (v2 : Option Nat) (v3 : Int32) : zMet l yX9_isLike cX9_isLike 8 (some .boolean) 1 21 [.inr (.inr v0), .inl v1, .inr (.inr v2), .inl v3] zcI (p_X9_isLike v0 v1 v2 v3) :=
  zMet.of (by decide +kernel) (Nat.le_of_ble_eq_true rfl) rfl (sim_X9_isLike l v0 v1 v2 v3)
def p_X9_countLike_b26 (r6 : Option Nat → Int32 → Option Nat → Int32 → Int32 → Int32 → ZM Int32) (v0 : Option Nat) (v1 : Int32) (v2 : Option Nat) (v3 : Int32) (v4 : Int32) (v5 : Int32) : ZM Int32 :=
  z_n (v5 + 1 : Int32) fun y1 => r6 v0 v1 v2 v3 v4 y1
def p_X9_countLike_c6 (r6 : Option Nat → Int32 → Option Nat → Int32 → Int32 → Int32 → ZM Int32) (v0 : Option Nat) (v1 : Int32) (v2 : Option Nat) (v3 : Int32) (v4 : Int32) (v5 : Int32) : ZM Int32 :=
  if v3 ≤ v5 then (z_rt v4)
  else (z_b (z_vr 10 v0 (p_X9_isLike v0 v1 v2 v5)) fun x2 => if x2 = 0 then (p_X9_countLike_b26 r6 v0 v1 v2 v3 v4 v5)
  else (z_n (v4 + 1 : Int32) fun y3 => p_X9_countLike_b26 r6 v0 v1 v2 v3 y3 v5))
def p_X9_countLike_l6 : Nat → Option Nat → Int32 → Option Nat → Int32 → Int32 → Int32 → ZM Int32
  | 0, _, _, _, _, _, _ => z_fl
  | n + 1, v0, v1, v2, v3, v4, v5 => p_X9_countLike_c6 (p_X9_countLike_l6 n) v0 v1 v2 v3 v4 v5
def p_X9_countLike (v0 : Option Nat) (v1 : Int32) (v2 : Option Nat) (v3 : Int32) : ZM Int32 :=
  p_X9_countLike_l6 zFuel v0 v1 v2 v3 0 0
abbrev M_X9_countLike (l : Launch) : ZMe := (l, "SpellScribe$Text", cX9_countLike, 6, 2, 48, (some .int), "countLike", [])
set_option maxRecDepth 20000 in
theorem sim_X9_countLike_b26 (l : Launch) (r6 : Option Nat → Int32 → Option Nat → Int32 → Int32 → Int32 → ZM Int32) (hr6 : ∀ (v0 : Option Nat) (v1 : Int32) (v2 : Option Nat) (v3 : Int32) (v4 : Int32) (v5 : Int32), Sim (M_X9_countLike l) (zFin zcI) 6 [(0, .inr (.inr v0)), (1, .inl v1), (2, .inr (.inr v2)), (3, .inl v3), (4, .inl v4), (5, .inl v5)] [] (r6 v0 v1 v2 v3 v4 v5)) (v0 : Option Nat) (v1 : Int32) (v2 : Option Nat) (v3 : Int32) (v4 : Int32) (v5 : Int32) : Sim (M_X9_countLike l) (zFin zcI) 26 [(0, .inr (.inr v0)), (1, .inl v1), (2, .inr (.inr v2)), (3, .inl v3), (4, .inl v4), (5, .inl v5)] [] (p_X9_countLike_b26 r6 v0 v1 v2 v3 v4 v5) := by
  unfold p_X9_countLike_b26
  refine s_n0 (fun y1 hy1 => ?_)
  refine s_iinc (j := 5) (v := y1) (d := 1) (lv' := [(5, .inl y1), (0, .inr (.inr v0)), (1, .inl v1), (2, .inr (.inr v2)), (3, .inl v3), (4, .inl v4)]) dX9_countLike_26 rfl (by decide) hy1 (Nat.le_of_ble_eq_true rfl) rfl ?_
  refine s_goto (tgt := 6) dX9_countLike_29 (by decide) ?_
  exact Sim.sub [1, 2, 3, 4, 5, 0] rfl (hr6 v0 v1 v2 v3 v4 y1)
set_option maxRecDepth 20000 in
theorem sim_X9_countLike_c6 (l : Launch) (r6 : Option Nat → Int32 → Option Nat → Int32 → Int32 → Int32 → ZM Int32) (hr6 : ∀ (v0 : Option Nat) (v1 : Int32) (v2 : Option Nat) (v3 : Int32) (v4 : Int32) (v5 : Int32), Sim (M_X9_countLike l) (zFin zcI) 6 [(0, .inr (.inr v0)), (1, .inl v1), (2, .inr (.inr v2)), (3, .inl v3), (4, .inl v4), (5, .inl v5)] [] (r6 v0 v1 v2 v3 v4 v5)) (v0 : Option Nat) (v1 : Int32) (v2 : Option Nat) (v3 : Int32) (v4 : Int32) (v5 : Int32) : Sim (M_X9_countLike l) (zFin zcI) 6 [(0, .inr (.inr v0)), (1, .inl v1), (2, .inr (.inr v2)), (3, .inl v3), (4, .inl v4), (5, .inl v5)] [] (p_X9_countLike_c6 r6 v0 v1 v2 v3 v4 v5) := by
  unfold p_X9_countLike_c6
  refine s_iload (j := 5) dX9_countLike_6 rfl ?_
  refine s_iloadn (j := 3) dX9_countLike_8 rfl ?_
  refine s_icmp_ge (tgt := 32) dX9_countLike_9 (by decide) ?_ ?_
  · refine s_iload (j := 4) dX9_countLike_32 rfl ?_
    exact s_iret dX9_countLike_34 rfl
  · refine s_aloadn (j := 0) dX9_countLike_12 rfl ?_
    refine s_iloadn (j := 1) dX9_countLike_13 rfl ?_
    refine s_aloadn (j := 2) dX9_countLike_14 rfl ?_
    refine s_iload (j := 5) dX9_countLike_15 rfl ?_
    refine s_cVI (rest := []) (met_X9_isLike l v0 v1 v2 v5) cls_10 mth_X9_isLike rfl dX9_countLike_17 w_1207 w_1209 wp_38 ⟨Nat.le_of_ble_eq_true rfl, Nat.le_of_ble_eq_true rfl⟩ (Nat.le_of_ble_eq_true rfl) rfl (fun x2 => ?_)
    refine s_if_eq (tgt := 26) dX9_countLike_20 (by decide) ?_ ?_
    · exact Sim.sub [0, 1, 2, 3, 4, 5] rfl (sim_X9_countLike_b26 l r6 hr6 v0 v1 v2 v3 v4 v5)
    · refine s_n0 (fun y3 hy3 => ?_)
      refine s_iinc (j := 4) (v := y3) (d := 1) (lv' := [(4, .inl y3), (0, .inr (.inr v0)), (1, .inl v1), (2, .inr (.inr v2)), (3, .inl v3), (5, .inl v5)]) dX9_countLike_23 rfl (by decide) hy3 (Nat.le_of_ble_eq_true rfl) rfl ?_
      exact Sim.sub [1, 2, 3, 4, 0, 5] rfl (sim_X9_countLike_b26 l r6 hr6 v0 v1 v2 v3 y3 v5)
theorem sim_X9_countLike_l6 (l : Launch) : ∀ (n : Nat) (v0 : Option Nat) (v1 : Int32) (v2 : Option Nat) (v3 : Int32) (v4 : Int32) (v5 : Int32), Sim (M_X9_countLike l) (zFin zcI) 6 [(0, .inr (.inr v0)), (1, .inl v1), (2, .inr (.inr v2)), (3, .inl v3), (4, .inl v4), (5, .inl v5)] [] (p_X9_countLike_l6 n v0 v1 v2 v3 v4 v5)
  | 0, _, _, _, _, _, _ => s_fl
  | n + 1, v0, v1, v2, v3, v4, v5 => sim_X9_countLike_c6 l (p_X9_countLike_l6 n) (sim_X9_countLike_l6 l n) v0 v1 v2 v3 v4 v5
set_option maxRecDepth 20000 in
theorem sim_X9_countLike (l : Launch) (v0 : Option Nat) (v1 : Int32) (v2 : Option Nat) (v3 : Int32) : Sim (M_X9_countLike l) (zFin zcI) 0 [(0, .inr (.inr v0)), (1, .inl v1), (2, .inr (.inr v2)), (3, .inl v3)] [] (p_X9_countLike v0 v1 v2 v3) := by
  unfold p_X9_countLike
  refine s_iconst (v := 0) dX9_countLike_0 (by decide) ?_
  refine s_istore (lv' := [(4, .inl 0), (0, .inr (.inr v0)), (1, .inl v1), (2, .inr (.inr v2)), (3, .inl v3)]) dX9_countLike_1 (Nat.le_of_ble_eq_true rfl) rfl ?_
  refine s_iconst (v := 0) dX9_countLike_3 (by decide) ?_
  refine s_istore (lv' := [(5, .inl 0), (4, .inl 0), (0, .inr (.inr v0)), (1, .inl v1), (2, .inr (.inr v2)), (3, .inl v3)]) dX9_countLike_4 (Nat.le_of_ble_eq_true rfl) rfl ?_
  exact Sim.sub [2, 3, 4, 5, 1, 0] rfl (sim_X9_countLike_l6 l zFuel v0 v1 v2 v3 0 0)
theorem met_X9_countLike (l : Launch) (v0 : Option Nat) (v1 : Int32) (v2 : Option Nat) (v3 : Int32) : zMet l yX9_countLike cX9_countLike 6 (some .int) 2 48 [.inr (.inr v0), .inl v1, .inr (.inr v2), .inl v3] zcI (p_X9_countLike v0 v1 v2 v3) :=
  zMet.of (by decide +kernel) (Nat.le_of_ble_eq_true rfl) rfl (sim_X9_countLike l v0 v1 v2 v3)
def p_X9_wordsCheckedSince_b65 (r4 : Option Nat → Option Nat → Int32 → Int32 → ZM Int32) (v0 : Option Nat) (v1 : Option Nat) (v2 : Int32) (v3 : Int32) : ZM Int32 :=
  z_n (v3 + 1 : Int32) fun y1 => r4 v0 v1 v2 y1
def p_X9_wordsCheckedSince_c4 (r4 : Option Nat → Option Nat → Int32 → Int32 → ZM Int32) (v0 : Option Nat) (v1 : Option Nat) (v2 : Int32) (v3 : Int32) : ZM Int32 :=
  z_b (z_gI 10 8 v0) fun x2 => if x2 ≤ v3 then (z_rt v2)
  else (z_b (z_gR 10 5 v0) fun x3 => z_b (z_vr 5 x3 (p_X4_get x3 (v3 + 1))) fun x4 => z_b (z_gR 10 5 v0) fun x5 => z_b (z_vr 5 x5 (p_X4_get x5 v3)) fun x6 => z_n ((x4 - x6) : Int32) fun y7 => if y7 ≤ 0 then (p_X9_wordsCheckedSince_b65 r4 v0 v1 v2 v3)
  else (z_b (z_vr 10 v0 (p_X9_countLike v0 v3 v0 (v3 + 1))) fun x8 => z_b (z_gI 10 8 v1) fun x9 => z_b (z_vr 10 v0 (p_X9_countLike v0 v3 v1 x9)) fun x10 => if x8 ≤ x10 then (p_X9_wordsCheckedSince_b65 r4 v0 v1 v2 v3)
  else (z_n ((v2 + y7) : Int32) fun y11 => p_X9_wordsCheckedSince_b65 r4 v0 v1 y11 v3)))
def p_X9_wordsCheckedSince_l4 : Nat → Option Nat → Option Nat → Int32 → Int32 → ZM Int32
  | 0, _, _, _, _ => z_fl
  | n + 1, v0, v1, v2, v3 => p_X9_wordsCheckedSince_c4 (p_X9_wordsCheckedSince_l4 n) v0 v1 v2 v3
def p_X9_wordsCheckedSince (v0 : Option Nat) (v1 : Option Nat) : ZM Int32 :=
  p_X9_wordsCheckedSince_l4 zFuel v0 v1 0 0
abbrev M_X9_wordsCheckedSince (l : Launch) : ZMe := (l, "SpellScribe$Text", cX9_wordsCheckedSince, 5, 3, 73, (some .int), "wordsCheckedSince", [])
set_option maxRecDepth 20000 in
theorem sim_X9_wordsCheckedSince_b65 (l : Launch) (r4 : Option Nat → Option Nat → Int32 → Int32 → ZM Int32) (hr4 : ∀ (v0 : Option Nat) (v1 : Option Nat) (v2 : Int32) (v3 : Int32), Sim (M_X9_wordsCheckedSince l) (zFin zcI) 4 [(0, .inr (.inr v0)), (1, .inr (.inr v1)), (2, .inl v2), (3, .inl v3)] [] (r4 v0 v1 v2 v3)) (v0 : Option Nat) (v1 : Option Nat) (v2 : Int32) (v3 : Int32) : Sim (M_X9_wordsCheckedSince l) (zFin zcI) 65 [(0, .inr (.inr v0)), (1, .inr (.inr v1)), (2, .inl v2), (3, .inl v3)] [] (p_X9_wordsCheckedSince_b65 r4 v0 v1 v2 v3) := by
  unfold p_X9_wordsCheckedSince_b65
  refine s_n0 (fun y1 hy1 => ?_)
  refine s_iinc (j := 3) (v := y1) (d := 1) (lv' := [(3, .inl y1), (0, .inr (.inr v0)), (1, .inr (.inr v1)), (2, .inl v2)]) dX9_wordsCheckedSince_65 rfl (by decide) hy1 (Nat.le_of_ble_eq_true rfl) rfl ?_
  refine s_goto (tgt := 4) dX9_wordsCheckedSince_68 (by decide) ?_
  exact Sim.sub [1, 2, 3, 0] rfl (hr4 v0 v1 v2 y1)
set_option maxRecDepth 20000 in
theorem sim_X9_wordsCheckedSince_c4 (l : Launch) (r4 : Option Nat → Option Nat → Int32 → Int32 → ZM Int32) (hr4 : ∀ (v0 : Option Nat) (v1 : Option Nat) (v2 : Int32) (v3 : Int32), Sim (M_X9_wordsCheckedSince l) (zFin zcI) 4 [(0, .inr (.inr v0)), (1, .inr (.inr v1)), (2, .inl v2), (3, .inl v3)] [] (r4 v0 v1 v2 v3)) (v0 : Option Nat) (v1 : Option Nat) (v2 : Int32) (v3 : Int32) : Sim (M_X9_wordsCheckedSince l) (zFin zcI) 4 [(0, .inr (.inr v0)), (1, .inr (.inr v1)), (2, .inl v2), (3, .inl v3)] [] (p_X9_wordsCheckedSince_c4 r4 v0 v1 v2 v3) := by
  unfold p_X9_wordsCheckedSince_c4
  refine s_iloadn (j := 3) dX9_wordsCheckedSince_4 rfl ?_
  refine s_aloadn (j := 0) dX9_wordsCheckedSince_5 rfl ?_
  refine s_getI (k := 8) cls_10 (by decide) rfl dX9_wordsCheckedSince_6 w_186 rfl (fun x2 => ?_)
  refine s_icmp_ge (tgt := 71) dX9_wordsCheckedSince_9 (by decide) ?_ ?_
  · refine s_iloadn (j := 2) dX9_wordsCheckedSince_71 rfl ?_
    exact s_iret dX9_wordsCheckedSince_72 rfl
  · refine s_aloadn (j := 0) dX9_wordsCheckedSince_12 rfl ?_
    refine s_getR (k := 5) cls_10 (by decide) rfl dX9_wordsCheckedSince_13 w_183 rfl (fun x3 => ?_)
    refine s_iloadn (j := 3) dX9_wordsCheckedSince_16 rfl ?_
    refine s_iconst (v := 1) dX9_wordsCheckedSince_17 (by decide) ?_
    refine s_iadd dX9_wordsCheckedSince_18 ?_
    refine s_cVI (rest := []) (met_X4_get l x3 (v3 + 1)) cls_5 mth_X4_get rfl dX9_wordsCheckedSince_19 w_354 w_355 w_356 ⟨Nat.le_of_ble_eq_true rfl, Nat.le_of_ble_eq_true rfl⟩ (Nat.le_of_ble_eq_true rfl) rfl (fun x4 => ?_)
    refine s_aloadn (j := 0) dX9_wordsCheckedSince_22 rfl ?_
    refine s_getR (k := 5) cls_10 (by decide) rfl dX9_wordsCheckedSince_23 w_183 rfl (fun x5 => ?_)
    refine s_iloadn (j := 3) dX9_wordsCheckedSince_26 rfl ?_
    refine s_cVI (rest := [.inl x4]) (met_X4_get l x5 v3) cls_5 mth_X4_get rfl dX9_wordsCheckedSince_27 w_354 w_355 w_356 ⟨Nat.le_of_ble_eq_true rfl, Nat.le_of_ble_eq_true rfl⟩ (Nat.le_of_ble_eq_true rfl) rfl (fun x6 => ?_)
    refine s_isub dX9_wordsCheckedSince_30 ?_
    refine s_nI (fun y7 => ?_)
    refine s_istore (lv' := [(4, .inl y7), (0, .inr (.inr v0)), (1, .inr (.inr v1)), (2, .inl v2), (3, .inl v3)]) dX9_wordsCheckedSince_31 (Nat.le_of_ble_eq_true rfl) rfl ?_
    refine s_iload (j := 0) dX9_wordsCheckedSince_33 rfl ?_
    refine s_if_le (tgt := 65) dX9_wordsCheckedSince_35 (by decide) ?_ ?_
    · exact Sim.sub [1, 2, 3, 4] rfl (sim_X9_wordsCheckedSince_b65 l r4 hr4 v0 v1 v2 v3)
    · refine s_aloadn (j := 1) dX9_wordsCheckedSince_38 rfl ?_
      refine s_iloadn (j := 4) dX9_wordsCheckedSince_39 rfl ?_
      refine s_aloadn (j := 1) dX9_wordsCheckedSince_40 rfl ?_
      refine s_iloadn (j := 4) dX9_wordsCheckedSince_41 rfl ?_
      refine s_iconst (v := 1) dX9_wordsCheckedSince_42 (by decide) ?_
      refine s_iadd dX9_wordsCheckedSince_43 ?_
      refine s_cVI (rest := []) (met_X9_countLike l v0 v3 v0 (v3 + 1)) cls_10 mth_X9_countLike rfl dX9_wordsCheckedSince_44 w_1203 w_1205 wp_37 ⟨Nat.le_of_ble_eq_true rfl, Nat.le_of_ble_eq_true rfl⟩ (Nat.le_of_ble_eq_true rfl) rfl (fun x8 => ?_)
      refine s_aloadn (j := 1) dX9_wordsCheckedSince_47 rfl ?_
      refine s_iloadn (j := 4) dX9_wordsCheckedSince_48 rfl ?_
      refine s_aloadn (j := 2) dX9_wordsCheckedSince_49 rfl ?_
      refine s_aloadn (j := 2) dX9_wordsCheckedSince_50 rfl ?_
      refine s_getI (k := 8) cls_10 (by decide) rfl dX9_wordsCheckedSince_51 w_186 rfl (fun x9 => ?_)
      refine s_cVI (rest := [.inl x8]) (met_X9_countLike l v0 v3 v1 x9) cls_10 mth_X9_countLike rfl dX9_wordsCheckedSince_54 w_1203 w_1205 wp_37 ⟨Nat.le_of_ble_eq_true rfl, Nat.le_of_ble_eq_true rfl⟩ (Nat.le_of_ble_eq_true rfl) rfl (fun x10 => ?_)
      refine s_icmp_le (tgt := 65) dX9_wordsCheckedSince_57 (by decide) ?_ ?_
      · exact Sim.sub [1, 2, 3, 4] rfl (sim_X9_wordsCheckedSince_b65 l r4 hr4 v0 v1 v2 v3)
      · refine s_iloadn (j := 3) dX9_wordsCheckedSince_60 rfl ?_
        refine s_iload (j := 0) dX9_wordsCheckedSince_61 rfl ?_
        refine s_iadd dX9_wordsCheckedSince_63 ?_
        refine s_nI (fun y11 => ?_)
        refine s_istoren (lv' := [(2, .inl y11), (4, .inl y7), (0, .inr (.inr v0)), (1, .inr (.inr v1)), (3, .inl v3)]) dX9_wordsCheckedSince_64 (Nat.le_of_ble_eq_true rfl) rfl ?_
        exact Sim.sub [2, 3, 0, 4] rfl (sim_X9_wordsCheckedSince_b65 l r4 hr4 v0 v1 y11 v3)
theorem sim_X9_wordsCheckedSince_l4 (l : Launch) : ∀ (n : Nat) (v0 : Option Nat) (v1 : Option Nat) (v2 : Int32) (v3 : Int32), Sim (M_X9_wordsCheckedSince l) (zFin zcI) 4 [(0, .inr (.inr v0)), (1, .inr (.inr v1)), (2, .inl v2), (3, .inl v3)] [] (p_X9_wordsCheckedSince_l4 n v0 v1 v2 v3)
  | 0, _, _, _, _ => s_fl
  | n + 1, v0, v1, v2, v3 => sim_X9_wordsCheckedSince_c4 l (p_X9_wordsCheckedSince_l4 n) (sim_X9_wordsCheckedSince_l4 l n) v0 v1 v2 v3
set_option maxRecDepth 20000 in
theorem sim_X9_wordsCheckedSince (l : Launch) (v0 : Option Nat) (v1 : Option Nat) : Sim (M_X9_wordsCheckedSince l) (zFin zcI) 0 [(0, .inr (.inr v0)), (1, .inr (.inr v1))] [] (p_X9_wordsCheckedSince v0 v1) := by
  unfold p_X9_wordsCheckedSince
  refine s_iconst (v := 0) dX9_wordsCheckedSince_0 (by decide) ?_
  refine s_istoren (lv' := [(2, .inl 0), (0, .inr (.inr v0)), (1, .inr (.inr v1))]) dX9_wordsCheckedSince_1 (Nat.le_of_ble_eq_true rfl) rfl ?_
  refine s_iconst (v := 0) dX9_wordsCheckedSince_2 (by decide) ?_
  refine s_istoren (lv' := [(3, .inl 0), (2, .inl 0), (0, .inr (.inr v0)), (1, .inr (.inr v1))]) dX9_wordsCheckedSince_3 (Nat.le_of_ble_eq_true rfl) rfl ?_
  exact Sim.sub [2, 3, 1, 0] rfl (sim_X9_wordsCheckedSince_l4 l zFuel v0 v1 0 0)
theorem met_X9_wordsCheckedSince (l : Launch) (v0 : Option Nat) (v1 : Option Nat) : zMet l yX9_wordsCheckedSince cX9_wordsCheckedSince 5 (some .int) 3 73 [.inr (.inr v0), .inr (.inr v1)] zcI (p_X9_wordsCheckedSince v0 v1) :=
  zMet.of (by decide +kernel) (Nat.le_of_ble_eq_true rfl) rfl (sim_X9_wordsCheckedSince l v0 v1)
def p_X11_init (v0 : Option Nat) : ZM Unit :=
  z_b (z_ii v0 (z_rt ())) fun _ => z_b (z_nO 3 6) fun x1 => z_b (z_ii x1 (p_X2_init x1)) fun _ => z_b (z_pR 12 0 v0 x1) fun _ => z_b (z_nO 9 8) fun x2 => z_b (z_ii x2 (p_X8_init x2)) fun _ => z_b (z_pR 12 1 v0 x2) fun _ => z_b (z_nO 1 2) fun x3 => z_b (z_ii x3 (p_X0_init x3)) fun _ => z_b (z_pR 12 2 v0 x3) fun _ => z_b (z_nO 0 3) fun x4 => z_b (z_ii x4 (p_Jx4a65c_init_da8c8 x4)) fun _ => z_b (z_pR 12 3 v0 x4) fun _ => z_b (z_nO 11 4) fun x5 => z_b (z_ii x5 (p_X10_init x5 512)) fun _ => z_b (z_pR 12 4 v0 x5) fun _ => z_b (z_nO 10 9) fun x6 => z_b (z_ii x6 (p_X9_init x6)) fun _ => z_b (z_pR 12 5 v0 x6) fun _ => z_b (z_nO 10 9) fun x7 => z_b (z_ii x7 (p_X9_init x7)) fun _ => z_b (z_pR 12 6 v0 x7) fun _ => z_b (z_nO 2 3) fun x8 => z_b (z_ii x8 (p_X1_init x8)) fun _ => z_b (z_pR 12 7 v0 x8) fun _ => z_b (z_nO 4 7) fun x9 => z_b (z_ii x9 (p_X3_init x9)) fun _ => z_b (z_pR 12 8 v0 x9) fun _ => z_b (z_nO 8 4) fun x10 => z_b (z_ii x10 (p_X7_init x10)) fun _ => z_b (z_pR 12 9 v0 x10) fun _ => z_b (z_pI 12 10 v0 1) fun _ => z_b (z_pI 12 12 v0 (-1)) fun _ => z_rt ()
abbrev M_X11_init (l : Launch) : ZMe := (l, "SpellScribe", cX11_init, 1, 5, 92, none, "<init>", [])
set_option maxRecDepth 20000 in
theorem sim_X11_init (l : Launch) (v0 : Option Nat) : Sim (M_X11_init l) (zFin zcV) 0 [(0, .inr (.inr v0))] [] (p_X11_init v0) := by
  unfold p_X11_init
  refine s_aloadn (j := 0) dX11_init_0 rfl ?_
  refine s_objInit dX11_init_1 w_34 w_35 w_36 ⟨Nat.le_of_ble_eq_true rfl, Nat.le_of_ble_eq_true rfl⟩ ?_
  refine s_aloadn (j := 0) dX11_init_4 rfl ?_
  refine s_new cls_3 zck_3 dX11_init_5 w_37 w_38 w_2 (fun x1 => ?_)
  refine s_dupR dX11_init_8 ?_
  refine s_callIN (rest := [.inr (.inr x1), .inr (.inr v0)]) (met_X2_init l x1) mth_X2_init rfl rfl dX11_init_9 w_39 w_40 ⟨Nat.le_of_ble_eq_true rfl, Nat.le_of_ble_eq_true rfl⟩ (Nat.le_of_ble_eq_true rfl) rfl ?_
  refine s_putRF (k := 0) cls_12 (by decide) rfl rfl rfl rfl rfl dX11_init_12 w_279 rfl ?_
  refine s_aloadn (j := 0) dX11_init_15 rfl ?_
  refine s_new cls_9 zck_9 dX11_init_16 w_118 w_119 w_8 (fun x2 => ?_)
  refine s_dupR dX11_init_19 ?_
  refine s_callIN (rest := [.inr (.inr x2), .inr (.inr v0)]) (met_X8_init l x2) mth_X8_init rfl rfl dX11_init_20 w_120 w_121 ⟨Nat.le_of_ble_eq_true rfl, Nat.le_of_ble_eq_true rfl⟩ (Nat.le_of_ble_eq_true rfl) rfl ?_
  refine s_putRF (k := 1) cls_12 (by decide) rfl rfl rfl rfl rfl dX11_init_23 w_280 rfl ?_
  refine s_aloadn (j := 0) dX11_init_26 rfl ?_
  refine s_new cls_1 zck_1 dX11_init_27 w_151 w_152 w_9 (fun x3 => ?_)
  refine s_dupR dX11_init_30 ?_
  refine s_callIN (rest := [.inr (.inr x3), .inr (.inr v0)]) (met_X0_init l x3) mth_X0_init rfl rfl dX11_init_31 w_153 w_154 ⟨Nat.le_of_ble_eq_true rfl, Nat.le_of_ble_eq_true rfl⟩ (Nat.le_of_ble_eq_true rfl) rfl ?_
  refine s_putRF (k := 2) cls_12 (by decide) rfl rfl rfl rfl rfl dX11_init_34 w_281 rfl ?_
  refine s_aloadn (j := 0) dX11_init_37 rfl ?_
  refine s_new cls_0 zck_0 dX11_init_38 w_166 w_44 w_5 (fun x4 => ?_)
  refine s_dupR dX11_init_41 ?_
  refine s_callI (rest := [.inr (.inr x4), .inr (.inr v0)]) (met_Jx4a65c_init_da8c8 l x4) mth_Jx4a65c_init_da8c8 rfl rfl dX11_init_42 w_167 w_46 ⟨Nat.le_of_ble_eq_true rfl, Nat.le_of_ble_eq_true rfl⟩ (Nat.le_of_ble_eq_true rfl) rfl ?_
  refine s_putRF (k := 3) cls_12 (by decide) rfl rfl rfl rfl rfl dX11_init_45 w_282 rfl ?_
  refine s_aloadn (j := 0) dX11_init_48 rfl ?_
  refine s_new cls_11 zck_11 dX11_init_49 w_168 w_70 w_6 (fun x5 => ?_)
  refine s_dupR dX11_init_52 ?_
  refine s_sipush (v := 512) dX11_init_53 (by decide) ?_
  refine s_callI (rest := [.inr (.inr x5), .inr (.inr v0)]) (met_X10_init l x5 512) mth_X10_init rfl rfl dX11_init_56 w_169 w_72 ⟨Nat.le_of_ble_eq_true rfl, Nat.le_of_ble_eq_true rfl⟩ (Nat.le_of_ble_eq_true rfl) rfl ?_
  refine s_putRF (k := 4) cls_12 (by decide) rfl rfl rfl rfl rfl dX11_init_59 w_283 rfl ?_
  refine s_aloadn (j := 0) dX11_init_62 rfl ?_
  refine s_new cls_10 zck_10 dX11_init_63 w_170 w_171 w_10 (fun x6 => ?_)
  refine s_dupR dX11_init_66 ?_
  refine s_callIN (rest := [.inr (.inr x6), .inr (.inr v0)]) (met_X9_init l x6) mth_X9_init rfl rfl dX11_init_67 w_172 w_173 ⟨Nat.le_of_ble_eq_true rfl, Nat.le_of_ble_eq_true rfl⟩ (Nat.le_of_ble_eq_true rfl) rfl ?_
  refine s_putRF (k := 5) cls_12 (by decide) rfl rfl rfl rfl rfl dX11_init_70 w_284 rfl ?_
  refine s_aloadn (j := 0) dX11_init_73 rfl ?_
  refine s_new cls_10 zck_10 dX11_init_74 w_170 w_171 w_10 (fun x7 => ?_)
  refine s_dupR dX11_init_77 ?_
  refine s_callIN (rest := [.inr (.inr x7), .inr (.inr v0)]) (met_X9_init l x7) mth_X9_init rfl rfl dX11_init_78 w_172 w_173 ⟨Nat.le_of_ble_eq_true rfl, Nat.le_of_ble_eq_true rfl⟩ (Nat.le_of_ble_eq_true rfl) rfl ?_
  refine s_putRF (k := 6) cls_12 (by decide) rfl rfl rfl rfl rfl dX11_init_81 w_285 rfl ?_
  refine s_aloadn (j := 0) dX11_init_84 rfl ?_
  refine s_new cls_2 zck_2 dX11_init_85 w_206 w_207 w_11 (fun x8 => ?_)
  refine s_dupR dX11_init_88 ?_
  refine s_callIN (rest := [.inr (.inr x8), .inr (.inr v0)]) (met_X1_init l x8) mth_X1_init rfl rfl dX11_init_89 w_208 w_209 ⟨Nat.le_of_ble_eq_true rfl, Nat.le_of_ble_eq_true rfl⟩ (Nat.le_of_ble_eq_true rfl) rfl ?_
  refine s_putRF (k := 7) cls_12 (by decide) rfl rfl rfl rfl rfl dX11_init_92 w_286 rfl ?_
  refine s_aloadn (j := 0) dX11_init_95 rfl ?_
  refine s_new cls_4 zck_4 dX11_init_96 w_224 w_225 w_12 (fun x9 => ?_)
  refine s_dupR dX11_init_99 ?_
  refine s_callIN (rest := [.inr (.inr x9), .inr (.inr v0)]) (met_X3_init l x9) mth_X3_init rfl rfl dX11_init_100 w_226 w_227 ⟨Nat.le_of_ble_eq_true rfl, Nat.le_of_ble_eq_true rfl⟩ (Nat.le_of_ble_eq_true rfl) rfl ?_
  refine s_putRF (k := 8) cls_12 (by decide) rfl rfl rfl rfl rfl dX11_init_103 w_287 rfl ?_
  refine s_aloadn (j := 0) dX11_init_106 rfl ?_
  refine s_new cls_8 zck_8 dX11_init_107 w_254 w_255 w_13 (fun x10 => ?_)
  refine s_dupR dX11_init_110 ?_
  refine s_callIN (rest := [.inr (.inr x10), .inr (.inr v0)]) (met_X7_init l x10) mth_X7_init rfl rfl dX11_init_111 w_256 w_257 ⟨Nat.le_of_ble_eq_true rfl, Nat.le_of_ble_eq_true rfl⟩ (Nat.le_of_ble_eq_true rfl) rfl ?_
  refine s_putR (k := 9) cls_12 (by decide) rfl rfl rfl dX11_init_114 w_288 rfl ?_
  refine s_aloadn (j := 0) dX11_init_117 rfl ?_
  refine s_iconst (v := 1) dX11_init_118 (by decide) ?_
  refine s_putI (k := 10) cls_12 (by decide) rfl rfl rfl dX11_init_119 w_289 rfl ?_
  refine s_aloadn (j := 0) dX11_init_122 rfl ?_
  refine s_iconst (v := (-1)) dX11_init_123 (by decide) ?_
  refine s_putI (k := 12) cls_12 (by decide) rfl rfl rfl dX11_init_124 w_291 rfl ?_
  exact s_vret dX11_init_127 rfl
theorem met_X11_init (l : Launch) (v0 : Option Nat) : zMet l yX11_init cX11_init 1 none 5 92 [.inr (.inr v0)] zcV (p_X11_init v0) :=
  zMet.of (by decide +kernel) (Nat.le_of_ble_eq_true rfl) rfl (sim_X11_init l v0)
def p_X11_letter (v0 : Option Nat) (v1 : Int32) : ZM (Int32 ⊕ Nat) :=
  z_b (p_X11_isLetter v1) fun x1 => if ¬ x1 = 0 then (z_b (z_gI 12 10 v0) fun x2 => z_b (p_X11_sizeOf x2) fun x3 => if x3 < 10 then (z_b (z_gI 12 10 v0) fun x4 => z_b (p_X11_withLetter x4 (v1 - 97)) fun x5 => z_b (z_pI 12 10 v0 x5) fun _ => z_b (z_gI 12 10 v0) fun x6 => z_b (p_X11_sizeOf x6) fun x7 => z_xrt x7)
  else (z_th 1))
  else (z_th 0)
abbrev M_X11_letter (l : Launch) : ZMe := (l, "SpellScribe", cX11_letter, 2, 8, 120, (some .int), "letter", [])
set_option maxRecDepth 20000 in
theorem sim_X11_letter (l : Launch) (hfl : l.stackTraces = false) (v0 : Option Nat) (v1 : Int32) : Sim (M_X11_letter l) (zFinX zcI) 0 [(0, .inr (.inr v0)), (1, .inl v1)] [] (p_X11_letter v0 v1) := by
  unfold p_X11_letter
  refine s_iloadn (j := 1) dX11_letter_0 rfl ?_
  refine s_cSI (rest := []) (met_X11_isLetter l v1) mth_X11_isLetter rfl dX11_letter_1 w_711 w_644 ⟨Nat.le_of_ble_eq_true rfl, Nat.le_of_ble_eq_true rfl⟩ (Nat.le_of_ble_eq_true rfl) rfl (fun x1 => ?_)
  refine s_if_ne (tgt := 17) dX11_letter_4 (by decide) ?_ ?_
  · refine s_aloadn (j := 0) dX11_letter_17 rfl ?_
    refine s_getI (k := 10) cls_12 (by decide) rfl dX11_letter_18 w_289 rfl (fun x2 => ?_)
    refine s_cSI (rest := []) (met_X11_sizeOf l x2) mth_X11_sizeOf rfl dX11_letter_21 w_327 w_328 ⟨Nat.le_of_ble_eq_true rfl, Nat.le_of_ble_eq_true rfl⟩ (Nat.le_of_ble_eq_true rfl) rfl (fun x3 => ?_)
    refine s_bipush (v := 10) dX11_letter_24 (by decide) ?_
    refine s_icmp_lt (tgt := 39) dX11_letter_26 (by decide) ?_ ?_
    · refine s_aloadn (j := 0) dX11_letter_39 rfl ?_
      refine s_aloadn (j := 0) dX11_letter_40 rfl ?_
      refine s_getI (k := 10) cls_12 (by decide) rfl dX11_letter_41 w_289 rfl (fun x4 => ?_)
      refine s_iloadn (j := 1) dX11_letter_44 rfl ?_
      refine s_bipush (v := 97) dX11_letter_45 (by decide) ?_
      refine s_isub dX11_letter_47 ?_
      refine s_cSI (rest := [.inr (.inr v0)]) (met_X11_withLetter l x4 (v1 - 97)) mth_X11_withLetter rfl dX11_letter_48 w_796 w_652 ⟨Nat.le_of_ble_eq_true rfl, Nat.le_of_ble_eq_true rfl⟩ (Nat.le_of_ble_eq_true rfl) rfl (fun x5 => ?_)
      refine s_putI (k := 10) cls_12 (by decide) rfl rfl rfl dX11_letter_51 w_289 rfl ?_
      refine s_aloadn (j := 0) dX11_letter_54 rfl ?_
      refine s_getI (k := 10) cls_12 (by decide) rfl dX11_letter_55 w_289 rfl (fun x6 => ?_)
      refine s_cSI (rest := []) (met_X11_sizeOf l x6) mth_X11_sizeOf rfl dX11_letter_58 w_327 w_328 ⟨Nat.le_of_ble_eq_true rfl, Nat.le_of_ble_eq_true rfl⟩ (Nat.le_of_ble_eq_true rfl) rfl (fun x7 => ?_)
      exact s_xiret dX11_letter_61 rfl
    · exact s_throw (n := 1) (text := "10 letters are drafted") zthw_1 hfl rfl (by decide +kernel) rfl dX11_letter_29 dX11_letter_32 dX11_letter_33 dX11_letter_35 dX11_letter_38 (Nat.le_of_ble_eq_true rfl) (Nat.le_of_ble_eq_true rfl)
  · exact s_throw (n := 0) (text := "a letter is one of a to h") zthw_0 hfl rfl (by decide +kernel) rfl dX11_letter_7 dX11_letter_10 dX11_letter_11 dX11_letter_13 dX11_letter_16 (Nat.le_of_ble_eq_true rfl) (Nat.le_of_ble_eq_true rfl)
theorem met_X11_letter (l : Launch) (hfl : l.stackTraces = false) (v0 : Option Nat) (v1 : Int32) : zMetX l yX11_letter cX11_letter 2 (some .int) 8 120 [.inr (.inr v0), .inl v1] zcI (p_X11_letter v0 v1) :=
  zMetX.of (by decide +kernel) (Nat.le_of_ble_eq_true rfl) rfl (sim_X11_letter l hfl v0 v1)
def p_X11_takeDraft (v0 : Option Nat) : ZM Int32 :=
  z_b (z_gI 12 10 v0) fun x1 => z_b (z_pI 12 10 v0 1) fun _ => z_rt x1
abbrev M_X11_takeDraft (l : Launch) : ZMe := (l, "SpellScribe", cX11_takeDraft, 2, 0, 0, (some .int), "takeDraft", [])
set_option maxRecDepth 20000 in
theorem sim_X11_takeDraft (l : Launch) (v0 : Option Nat) : Sim (M_X11_takeDraft l) (zFin zcI) 0 [(0, .inr (.inr v0))] [] (p_X11_takeDraft v0) := by
  unfold p_X11_takeDraft
  refine s_aloadn (j := 0) dX11_takeDraft_0 rfl ?_
  refine s_getI (k := 10) cls_12 (by decide) rfl dX11_takeDraft_1 w_289 rfl (fun x1 => ?_)
  refine s_istoren (lv' := [(1, .inl x1), (0, .inr (.inr v0))]) dX11_takeDraft_4 (Nat.le_of_ble_eq_true rfl) rfl ?_
  refine s_aloadn (j := 1) dX11_takeDraft_5 rfl ?_
  refine s_iconst (v := 1) dX11_takeDraft_6 (by decide) ?_
  refine s_putI (k := 10) cls_12 (by decide) rfl rfl rfl dX11_takeDraft_7 w_289 rfl ?_
  refine s_iloadn (j := 0) dX11_takeDraft_10 rfl ?_
  exact s_iret dX11_takeDraft_11 rfl
theorem met_X11_takeDraft (l : Launch) (v0 : Option Nat) : zMet l yX11_takeDraft cX11_takeDraft 2 (some .int) 0 0 [.inr (.inr v0)] zcI (p_X11_takeDraft v0) :=
  zMet.of (by decide +kernel) (Nat.le_of_ble_eq_true rfl) rfl (sim_X11_takeDraft l v0)
def p_X11_scrap (v0 : Option Nat) : ZM Int32 :=
  z_b (z_vr 12 v0 (p_X11_takeDraft v0)) fun x1 => z_b (p_X11_sizeOf x1) fun x2 => z_rt x2
abbrev M_X11_scrap (l : Launch) : ZMe := (l, "SpellScribe", cX11_scrap, 1, 1, 22, (some .int), "scrap", [])
set_option maxRecDepth 20000 in
theorem sim_X11_scrap (l : Launch) (v0 : Option Nat) : Sim (M_X11_scrap l) (zFin zcI) 0 [(0, .inr (.inr v0))] [] (p_X11_scrap v0) := by
  unfold p_X11_scrap
  refine s_aloadn (j := 0) dX11_scrap_0 rfl ?_
  refine s_cVI (rest := []) (met_X11_takeDraft l v0) cls_12 mth_X11_takeDraft rfl dX11_scrap_1 w_323 w_325 wp_0 ⟨Nat.le_of_ble_eq_true rfl, Nat.le_of_ble_eq_true rfl⟩ (Nat.le_of_ble_eq_true rfl) rfl (fun x1 => ?_)
  refine s_cSI (rest := []) (met_X11_sizeOf l x1) mth_X11_sizeOf rfl dX11_scrap_4 w_327 w_328 ⟨Nat.le_of_ble_eq_true rfl, Nat.le_of_ble_eq_true rfl⟩ (Nat.le_of_ble_eq_true rfl) rfl (fun x2 => ?_)
  exact s_iret dX11_scrap_7 rfl
theorem met_X11_scrap (l : Launch) (v0 : Option Nat) : zMet l yX11_scrap cX11_scrap 1 (some .int) 1 22 [.inr (.inr v0)] zcI (p_X11_scrap v0) :=
  zMet.of (by decide +kernel) (Nat.le_of_ble_eq_true rfl) rfl (sim_X11_scrap l v0)
def p_X11_isReading (v0 : Int32) (v1 : Int32) : ZM Int32 :=
  z_b (p_X11_isIn v0 0 3) fun x1 => if x1 = 0 then (z_rz 0)
  else (z_b (p_X11_isIn v1 0 1) fun x2 => if x2 = 0 then (z_rz 0)
  else (z_rz 1))
abbrev M_X11_isReading (l : Launch) : ZMe := (l, "SpellScribe", cX11_isReading, 2, 1, 22, (some .boolean), "isReading", [])
set_option maxRecDepth 20000 in
theorem sim_X11_isReading (l : Launch) (v0 : Int32) (v1 : Int32) : Sim (M_X11_isReading l) (zFin zcI) 0 [(0, .inl v0), (1, .inl v1)] [] (p_X11_isReading v0 v1) := by
  unfold p_X11_isReading
  refine s_iloadn (j := 0) dX11_isReading_0 rfl ?_
  refine s_iconst (v := 0) dX11_isReading_1 (by decide) ?_
  refine s_iconst (v := 3) dX11_isReading_2 (by decide) ?_
  refine s_cSI (rest := []) (met_X11_isIn l v0 0 3) mth_X11_isIn rfl dX11_isReading_3 w_504 w_505 ⟨Nat.le_of_ble_eq_true rfl, Nat.le_of_ble_eq_true rfl⟩ (Nat.le_of_ble_eq_true rfl) rfl (fun x1 => ?_)
  refine s_if_eq (tgt := 22) dX11_isReading_6 (by decide) ?_ ?_
  · refine s_iconst (v := 0) dX11_isReading_22 (by decide) ?_
    exact s_zret dX11_isReading_23 rfl
  · refine s_iloadn (j := 1) dX11_isReading_9 rfl ?_
    refine s_iconst (v := 0) dX11_isReading_10 (by decide) ?_
    refine s_iconst (v := 1) dX11_isReading_11 (by decide) ?_
    refine s_cSI (rest := []) (met_X11_isIn l v1 0 1) mth_X11_isIn rfl dX11_isReading_12 w_504 w_505 ⟨Nat.le_of_ble_eq_true rfl, Nat.le_of_ble_eq_true rfl⟩ (Nat.le_of_ble_eq_true rfl) rfl (fun x2 => ?_)
    refine s_if_eq (tgt := 22) dX11_isReading_15 (by decide) ?_ ?_
    · refine s_iconst (v := 0) dX11_isReading_22 (by decide) ?_
      exact s_zret dX11_isReading_23 rfl
    · refine s_iconst (v := 1) dX11_isReading_18 (by decide) ?_
      refine s_goto (tgt := 23) dX11_isReading_19 (by decide) ?_
      exact s_zret dX11_isReading_23 rfl
theorem met_X11_isReading (l : Launch) (v0 : Int32) (v1 : Int32) : zMet l yX11_isReading cX11_isReading 2 (some .boolean) 1 22 [.inl v0, .inl v1] zcI (p_X11_isReading v0 v1) :=
  zMet.of (by decide +kernel) (Nat.le_of_ble_eq_true rfl) rfl (sim_X11_isReading l v0 v1)
def p_X11_forgetAnswers (v0 : Option Nat) : ZM Unit :=
  z_b (z_pZ 12 11 v0 0) fun _ => z_b (z_pI 12 12 v0 (-1)) fun _ => z_rt ()
abbrev M_X11_forgetAnswers (l : Launch) : ZMe := (l, "SpellScribe", cX11_forgetAnswers, 1, 0, 0, none, "forgetAnswers", [])
set_option maxRecDepth 20000 in
theorem sim_X11_forgetAnswers (l : Launch) (v0 : Option Nat) : Sim (M_X11_forgetAnswers l) (zFin zcV) 0 [(0, .inr (.inr v0))] [] (p_X11_forgetAnswers v0) := by
  unfold p_X11_forgetAnswers
  refine s_aloadn (j := 0) dX11_forgetAnswers_0 rfl ?_
  refine s_iconst (v := 0) dX11_forgetAnswers_1 (by decide) ?_
  refine s_putZ (k := 11) cls_12 (by decide) rfl rfl rfl dX11_forgetAnswers_2 w_290 rfl ?_
  refine s_aloadn (j := 0) dX11_forgetAnswers_5 rfl ?_
  refine s_iconst (v := (-1)) dX11_forgetAnswers_6 (by decide) ?_
  refine s_putI (k := 12) cls_12 (by decide) rfl rfl rfl dX11_forgetAnswers_7 w_291 rfl ?_
  exact s_vret dX11_forgetAnswers_10 rfl
theorem met_X11_forgetAnswers (l : Launch) (v0 : Option Nat) : zMet l yX11_forgetAnswers cX11_forgetAnswers 1 none 0 0 [.inr (.inr v0)] zcV (p_X11_forgetAnswers v0) :=
  zMet.of (by decide +kernel) (Nat.le_of_ble_eq_true rfl) rfl (sim_X11_forgetAnswers l v0)
def p_X11_stem_b29  : ZM (Int32 ⊕ Nat) :=
  z_th 0
def p_X11_stem_b59  : ZM (Int32 ⊕ Nat) :=
  z_th 1
def p_X11_stem (v0 : Option Nat) (v1 : Int32) (v2 : Int32) (v3 : Int32) (v4 : Int32) : ZM (Int32 ⊕ Nat) :=
  z_b (p_X11_isIn v1 0 63) fun x1 => if x1 = 0 then (p_X11_stem_b29)
  else (z_b (p_X11_isReading v2 v3) fun x2 => if x2 = 0 then (p_X11_stem_b29)
  else (z_b (p_X11_isIn v4 0 7) fun x3 => if ¬ x3 = 0 then (z_b (z_gI 12 10 v0) fun x4 => if x4 = 1 then (p_X11_stem_b59)
  else (z_b (z_gR 12 0 v0) fun x5 => z_b (z_vr 3 x5 (p_X2_stemCount x5)) fun x6 => if x6 < 12 then (z_b (z_gR 12 0 v0) fun x7 => z_b (z_nO 7 5) fun x8 => z_b (z_vr 12 v0 (p_X11_takeDraft v0)) fun x9 => z_b (z_ii x8 (p_X6_init x8 x9 v1 v2 v3 v4)) fun _ => z_b (z_vr 3 x7 (p_X2_addStem x7 x8)) fun x10 => z_b (z_gR 12 0 v0) fun x11 => z_b (z_vr 3 x11 (p_X2_remake x11)) fun _ => z_b (z_vr 12 v0 (p_X11_forgetAnswers v0)) fun _ => z_xrt x10)
  else (p_X11_stem_b59)))
  else (p_X11_stem_b29)))
abbrev M_X11_stem (l : Launch) : ZMe := (l, "SpellScribe", cX11_stem, 6, 8, 192, (some .int), "stem", [])
set_option maxRecDepth 20000 in
theorem sim_X11_stem_b29 (l : Launch) (hfl : l.stackTraces = false)  : Sim (M_X11_stem l) (zFinX zcI) 29 [] [] (p_X11_stem_b29 ) := by
  unfold p_X11_stem_b29
  exact s_throw (n := 0) (text := "flags, kind, form or is is out of range") zthw_0 hfl rfl (by decide +kernel) rfl dX11_stem_29 dX11_stem_32 dX11_stem_33 dX11_stem_35 dX11_stem_38 (Nat.le_of_ble_eq_true rfl) (Nat.le_of_ble_eq_true rfl)
set_option maxRecDepth 20000 in
theorem sim_X11_stem_b59 (l : Launch) (hfl : l.stackTraces = false)  : Sim (M_X11_stem l) (zFinX zcI) 59 [] [] (p_X11_stem_b59 ) := by
  unfold p_X11_stem_b59
  exact s_throw (n := 1) (text := "nothing is drafted, or there are 12 stems") zthw_1 hfl rfl (by decide +kernel) rfl dX11_stem_59 dX11_stem_62 dX11_stem_63 dX11_stem_65 dX11_stem_68 (Nat.le_of_ble_eq_true rfl) (Nat.le_of_ble_eq_true rfl)
set_option maxRecDepth 20000 in
theorem sim_X11_stem (l : Launch) (hfl : l.stackTraces = false) (v0 : Option Nat) (v1 : Int32) (v2 : Int32) (v3 : Int32) (v4 : Int32) : Sim (M_X11_stem l) (zFinX zcI) 0 [(0, .inr (.inr v0)), (1, .inl v1), (2, .inl v2), (3, .inl v3), (4, .inl v4)] [] (p_X11_stem v0 v1 v2 v3 v4) := by
  unfold p_X11_stem
  refine s_iloadn (j := 1) dX11_stem_0 rfl ?_
  refine s_iconst (v := 0) dX11_stem_1 (by decide) ?_
  refine s_bipush (v := 63) dX11_stem_2 (by decide) ?_
  refine s_cSI (rest := []) (met_X11_isIn l v1 0 63) mth_X11_isIn rfl dX11_stem_4 w_504 w_505 ⟨Nat.le_of_ble_eq_true rfl, Nat.le_of_ble_eq_true rfl⟩ (Nat.le_of_ble_eq_true rfl) rfl (fun x1 => ?_)
  refine s_if_eq (tgt := 29) dX11_stem_7 (by decide) ?_ ?_
  · exact Sim.sub [] rfl (sim_X11_stem_b29 l hfl)
  · refine s_iloadn (j := 2) dX11_stem_10 rfl ?_
    refine s_iloadn (j := 3) dX11_stem_11 rfl ?_
    refine s_cSI (rest := []) (met_X11_isReading l v2 v3) mth_X11_isReading rfl dX11_stem_12 w_804 w_805 ⟨Nat.le_of_ble_eq_true rfl, Nat.le_of_ble_eq_true rfl⟩ (Nat.le_of_ble_eq_true rfl) rfl (fun x2 => ?_)
    refine s_if_eq (tgt := 29) dX11_stem_15 (by decide) ?_ ?_
    · exact Sim.sub [] rfl (sim_X11_stem_b29 l hfl)
    · refine s_iload (j := 4) dX11_stem_18 rfl ?_
      refine s_iconst (v := 0) dX11_stem_20 (by decide) ?_
      refine s_bipush (v := 7) dX11_stem_21 (by decide) ?_
      refine s_cSI (rest := []) (met_X11_isIn l v4 0 7) mth_X11_isIn rfl dX11_stem_23 w_504 w_505 ⟨Nat.le_of_ble_eq_true rfl, Nat.le_of_ble_eq_true rfl⟩ (Nat.le_of_ble_eq_true rfl) rfl (fun x3 => ?_)
      refine s_if_ne (tgt := 39) dX11_stem_26 (by decide) ?_ ?_
      · refine s_aloadn (j := 0) dX11_stem_39 rfl ?_
        refine s_getI (k := 10) cls_12 (by decide) rfl dX11_stem_40 w_289 rfl (fun x4 => ?_)
        refine s_iconst (v := 1) dX11_stem_43 (by decide) ?_
        refine s_icmp_eq (tgt := 59) dX11_stem_44 (by decide) ?_ ?_
        · exact Sim.sub [] rfl (sim_X11_stem_b59 l hfl)
        · refine s_aloadn (j := 0) dX11_stem_47 rfl ?_
          refine s_getR (k := 0) cls_12 (by decide) rfl dX11_stem_48 w_279 rfl (fun x5 => ?_)
          refine s_cVI (rest := []) (met_X2_stemCount l x5) cls_3 mth_X2_stemCount rfl dX11_stem_51 w_808 w_809 w_810 ⟨Nat.le_of_ble_eq_true rfl, Nat.le_of_ble_eq_true rfl⟩ (Nat.le_of_ble_eq_true rfl) rfl (fun x6 => ?_)
          refine s_bipush (v := 12) dX11_stem_54 (by decide) ?_
          refine s_icmp_lt (tgt := 69) dX11_stem_56 (by decide) ?_ ?_
          · refine s_aloadn (j := 0) dX11_stem_69 rfl ?_
            refine s_getR (k := 0) cls_12 (by decide) rfl dX11_stem_70 w_279 rfl (fun x7 => ?_)
            refine s_new cls_7 zck_7 dX11_stem_73 w_815 w_816 w_20 (fun x8 => ?_)
            refine s_dupR dX11_stem_76 ?_
            refine s_aloadn (j := 0) dX11_stem_77 rfl ?_
            refine s_cVI (rest := [.inr (.inr x8), .inr (.inr x8), .inr (.inr x7)]) (met_X11_takeDraft l v0) cls_12 mth_X11_takeDraft rfl dX11_stem_78 w_323 w_325 wp_0 ⟨Nat.le_of_ble_eq_true rfl, Nat.le_of_ble_eq_true rfl⟩ (Nat.le_of_ble_eq_true rfl) rfl (fun x9 => ?_)
            refine s_iloadn (j := 1) dX11_stem_81 rfl ?_
            refine s_iloadn (j := 2) dX11_stem_82 rfl ?_
            refine s_iloadn (j := 3) dX11_stem_83 rfl ?_
            refine s_iload (j := 4) dX11_stem_84 rfl ?_
            refine s_callI (rest := [.inr (.inr x8), .inr (.inr x7)]) (met_X6_init l x8 x9 v1 v2 v3 v4) mth_X6_init rfl rfl dX11_stem_86 w_817 w_818 ⟨Nat.le_of_ble_eq_true rfl, Nat.le_of_ble_eq_true rfl⟩ (Nat.le_of_ble_eq_true rfl) rfl ?_
            refine s_cVI (rest := []) (met_X2_addStem l x7 x8) cls_3 mth_X2_addStem rfl dX11_stem_89 w_841 w_842 w_843 ⟨Nat.le_of_ble_eq_true rfl, Nat.le_of_ble_eq_true rfl⟩ (Nat.le_of_ble_eq_true rfl) rfl (fun x10 => ?_)
            refine s_istore (lv' := [(5, .inl x10), (0, .inr (.inr v0)), (1, .inl v1), (2, .inl v2), (3, .inl v3), (4, .inl v4)]) dX11_stem_92 (Nat.le_of_ble_eq_true rfl) rfl ?_
            refine s_aloadn (j := 1) dX11_stem_94 rfl ?_
            refine s_getR (k := 0) cls_12 (by decide) rfl dX11_stem_95 w_279 rfl (fun x11 => ?_)
            refine s_cVV (rest := []) (met_X2_remake l x11) cls_3 mth_X2_remake rfl dX11_stem_98 w_908 w_909 w_910 ⟨Nat.le_of_ble_eq_true rfl, Nat.le_of_ble_eq_true rfl⟩ (Nat.le_of_ble_eq_true rfl) rfl ?_
            refine s_aloadn (j := 1) dX11_stem_101 rfl ?_
            refine s_cVV (rest := []) (met_X11_forgetAnswers l v0) cls_12 mth_X11_forgetAnswers rfl dX11_stem_102 w_658 w_660 wp_25 ⟨Nat.le_of_ble_eq_true rfl, Nat.le_of_ble_eq_true rfl⟩ (Nat.le_of_ble_eq_true rfl) rfl ?_
            refine s_iload (j := 0) dX11_stem_105 rfl ?_
            exact s_xiret dX11_stem_107 rfl
          · exact Sim.sub [] rfl (sim_X11_stem_b59 l hfl)
      · exact Sim.sub [] rfl (sim_X11_stem_b29 l hfl)
theorem met_X11_stem (l : Launch) (hfl : l.stackTraces = false) (v0 : Option Nat) (v1 : Int32) (v2 : Int32) (v3 : Int32) (v4 : Int32) : zMetX l yX11_stem cX11_stem 6 (some .int) 8 192 [.inr (.inr v0), .inl v1, .inl v2, .inl v3, .inl v4] zcI (p_X11_stem v0 v1 v2 v3 v4) :=
  zMetX.of (by decide +kernel) (Nat.le_of_ble_eq_true rfl) rfl (sim_X11_stem l hfl v0 v1 v2 v3 v4)
