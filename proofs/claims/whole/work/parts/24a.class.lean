def p_X4_init_b14 (s0 : Option Nat) (s1 : Int32) : ZM Unit :=
  z_b (z_nA 1 s1) fun x1 => z_b (z_pR 5 0 s0 x1) fun _ => z_rt ()
def p_X4_init (v0 : Option Nat) (v1 : Int32) : ZM Unit :=
  z_b (z_ii v0 (z_rt ())) fun _ => if v1 ≤ 0 then (p_X4_init_b14 v0 0)
  else (p_X4_init_b14 v0 v1)
abbrev M_X4_init (l : Launch) : ZMe := (l, "SpellScribe$Row", cX4_init, 2, 1, 12, none, "<init>", [])
set_option maxRecDepth 20000 in
theorem sim_X4_init_b14 (l : Launch) (s0 : Option Nat) (s1 : Int32) : Sim (M_X4_init l) (zFin zcV) 14 [] [.inl s1, .inr (.inr s0)] (p_X4_init_b14 s0 s1) := by
  unfold p_X4_init_b14
  refine s_newaI dX4_init_14 w_85 (fun x1 => ?_)
  refine s_putRF (k := 0) cls_5 (by decide) rfl rfl rfl rfl rfl dX4_init_16 w_81 rfl ?_
  exact s_vret dX4_init_19 rfl
set_option maxRecDepth 20000 in
theorem sim_X4_init (l : Launch) (v0 : Option Nat) (v1 : Int32) : Sim (M_X4_init l) (zFin zcV) 0 [(0, .inr (.inr v0)), (1, .inl v1)] [] (p_X4_init v0 v1) := by
  unfold p_X4_init
  refine s_aloadn (j := 0) dX4_init_0 rfl ?_
  refine s_objInit dX4_init_1 w_80 w_35 w_36 ⟨Nat.le_of_ble_eq_true rfl, Nat.le_of_ble_eq_true rfl⟩ ?_
  refine s_aloadn (j := 0) dX4_init_4 rfl ?_
  refine s_iloadn (j := 1) dX4_init_5 rfl ?_
  refine s_if_le (tgt := 13) dX4_init_6 (by decide) ?_ ?_
  · refine s_iconst (v := 0) dX4_init_13 (by decide) ?_
    exact Sim.sub [] rfl (sim_X4_init_b14 l v0 0)
  · refine s_iloadn (j := 1) dX4_init_9 rfl ?_
    refine s_goto (tgt := 14) dX4_init_10 (by decide) ?_
    exact Sim.sub [] rfl (sim_X4_init_b14 l v0 v1)
theorem met_X4_init (l : Launch) (v0 : Option Nat) (v1 : Int32) : zMet l yX4_init cX4_init 2 none 1 12 [.inr (.inr v0), .inl v1] zcV (p_X4_init v0 v1) :=
  zMet.of (by decide +kernel) (Nat.le_of_ble_eq_true rfl) rfl (sim_X4_init l v0 v1)
def p_X0_init (v0 : Option Nat) : ZM Unit :=
  z_b (z_ii v0 (z_rt ())) fun _ => z_b (z_nO 5 1) fun x1 => z_b (z_ii x1 (p_X4_init x1 16)) fun _ => z_b (z_pR 1 0 v0 x1) fun _ => z_b (z_nO 5 1) fun x2 => z_b (z_ii x2 (p_X4_init x2 450)) fun _ => z_b (z_pR 1 1 v0 x2) fun _ => z_rt ()
abbrev M_X0_init (l : Launch) : ZMe := (l, "SpellScribe$Grammar", cX0_init, 1, 2, 33, none, "<init>", [])
set_option maxRecDepth 20000 in
theorem sim_X0_init (l : Launch) (v0 : Option Nat) : Sim (M_X0_init l) (zFin zcV) 0 [(0, .inr (.inr v0))] [] (p_X0_init v0) := by
  unfold p_X0_init
  refine s_aloadn (j := 0) dX0_init_0 rfl ?_
  refine s_objInit dX0_init_1 w_156 w_35 w_36 ⟨Nat.le_of_ble_eq_true rfl, Nat.le_of_ble_eq_true rfl⟩ ?_
  refine s_aloadn (j := 0) dX0_init_4 rfl ?_
  refine s_new cls_5 zck_5 dX0_init_5 w_157 w_76 w_7 (fun x1 => ?_)
  refine s_dupR dX0_init_8 ?_
  refine s_bipush (v := 16) dX0_init_9 (by decide) ?_
  refine s_callI (rest := [.inr (.inr x1), .inr (.inr v0)]) (met_X4_init l x1 16) mth_X4_init rfl rfl dX0_init_11 w_158 w_78 ⟨Nat.le_of_ble_eq_true rfl, Nat.le_of_ble_eq_true rfl⟩ (Nat.le_of_ble_eq_true rfl) rfl ?_
  refine s_putRF (k := 0) cls_1 (by decide) rfl rfl rfl rfl rfl dX0_init_14 w_159 rfl ?_
  refine s_aloadn (j := 0) dX0_init_17 rfl ?_
  refine s_new cls_5 zck_5 dX0_init_18 w_157 w_76 w_7 (fun x2 => ?_)
  refine s_dupR dX0_init_21 ?_
  refine s_sipush (v := 450) dX0_init_22 (by decide) ?_
  refine s_callI (rest := [.inr (.inr x2), .inr (.inr v0)]) (met_X4_init l x2 450) mth_X4_init rfl rfl dX0_init_25 w_158 w_78 ⟨Nat.le_of_ble_eq_true rfl, Nat.le_of_ble_eq_true rfl⟩ (Nat.le_of_ble_eq_true rfl) rfl ?_
  refine s_putRF (k := 1) cls_1 (by decide) rfl rfl rfl rfl rfl dX0_init_28 w_160 rfl ?_
  exact s_vret dX0_init_31 rfl
theorem met_X0_init (l : Launch) (v0 : Option Nat) : zMet l yX0_init cX0_init 1 none 2 33 [.inr (.inr v0)] zcV (p_X0_init v0) :=
  zMet.of (by decide +kernel) (Nat.le_of_ble_eq_true rfl) rfl (sim_X0_init l v0)
def p_X4_get (v0 : Option Nat) (v1 : Int32) : ZM Int32 :=
  if v1 < 0 then (z_rt 0)
  else (z_b (z_gR 5 0 v0) fun x1 => z_b (z_aN x1) fun x2 => if x2 ≤ v1 then (z_rt 0)
  else (z_b (z_gR 5 0 v0) fun x3 => z_b (z_aI x3 v1) fun x4 => z_rt x4))
abbrev M_X4_get (l : Launch) : ZMe := (l, "SpellScribe$Row", cX4_get, 2, 0, 0, (some .int), "get", [])
set_option maxRecDepth 20000 in
theorem sim_X4_get (l : Launch) (v0 : Option Nat) (v1 : Int32) : Sim (M_X4_get l) (zFin zcI) 0 [(0, .inr (.inr v0)), (1, .inl v1)] [] (p_X4_get v0 v1) := by
  unfold p_X4_get
  refine s_iloadn (j := 1) dX4_get_0 rfl ?_
  refine s_if_lt (tgt := 22) dX4_get_1 (by decide) ?_ ?_
  · refine s_iconst (v := 0) dX4_get_22 (by decide) ?_
    exact s_iret dX4_get_23 rfl
  · refine s_iloadn (j := 1) dX4_get_4 rfl ?_
    refine s_aloadn (j := 0) dX4_get_5 rfl ?_
    refine s_getR (k := 0) cls_5 (by decide) rfl dX4_get_6 w_81 rfl (fun x1 => ?_)
    refine s_alen dX4_get_9 (fun x2 => ?_)
    refine s_icmp_ge (tgt := 22) dX4_get_10 (by decide) ?_ ?_
    · refine s_iconst (v := 0) dX4_get_22 (by decide) ?_
      exact s_iret dX4_get_23 rfl
    · refine s_aloadn (j := 0) dX4_get_13 rfl ?_
      refine s_getR (k := 0) cls_5 (by decide) rfl dX4_get_14 w_81 rfl (fun x3 => ?_)
      refine s_iloadn (j := 1) dX4_get_17 rfl ?_
      refine s_iald dX4_get_18 (fun x4 => ?_)
      refine s_goto (tgt := 23) dX4_get_19 (by decide) ?_
      exact s_iret dX4_get_23 rfl
theorem met_X4_get (l : Launch) (v0 : Option Nat) (v1 : Int32) : zMet l yX4_get cX4_get 2 (some .int) 0 0 [.inr (.inr v0), .inl v1] zcI (p_X4_get v0 v1) :=
  zMet.of (by decide +kernel) (Nat.le_of_ble_eq_true rfl) rfl (sim_X4_get l v0 v1)
def p_X4_set (v0 : Option Nat) (v1 : Int32) (v2 : Int32) : ZM Unit :=
  if v1 < 0 then (z_rt ())
  else (z_b (z_gR 5 0 v0) fun x1 => z_b (z_aN x1) fun x2 => if x2 ≤ v1 then (z_rt ())
  else (z_b (z_gR 5 0 v0) fun x3 => z_b (z_sI x3 v1 v2) fun _ => z_rt ()))
abbrev M_X4_set (l : Launch) : ZMe := (l, "SpellScribe$Row", cX4_set, 3, 0, 0, none, "set", [])
set_option maxRecDepth 20000 in
theorem sim_X4_set (l : Launch) (v0 : Option Nat) (v1 : Int32) (v2 : Int32) : Sim (M_X4_set l) (zFin zcV) 0 [(0, .inr (.inr v0)), (1, .inl v1), (2, .inl v2)] [] (p_X4_set v0 v1 v2) := by
  unfold p_X4_set
  refine s_iloadn (j := 1) dX4_set_0 rfl ?_
  refine s_if_lt (tgt := 20) dX4_set_1 (by decide) ?_ ?_
  · exact s_vret dX4_set_20 rfl
  · refine s_iloadn (j := 1) dX4_set_4 rfl ?_
    refine s_aloadn (j := 0) dX4_set_5 rfl ?_
    refine s_getR (k := 0) cls_5 (by decide) rfl dX4_set_6 w_81 rfl (fun x1 => ?_)
    refine s_alen dX4_set_9 (fun x2 => ?_)
    refine s_icmp_ge (tgt := 20) dX4_set_10 (by decide) ?_ ?_
    · exact s_vret dX4_set_20 rfl
    · refine s_aloadn (j := 0) dX4_set_13 rfl ?_
      refine s_getR (k := 0) cls_5 (by decide) rfl dX4_set_14 w_81 rfl (fun x3 => ?_)
      refine s_iloadn (j := 1) dX4_set_17 rfl ?_
      refine s_iloadn (j := 2) dX4_set_18 rfl ?_
      refine s_iast dX4_set_19 ?_
      exact s_vret dX4_set_20 rfl
theorem met_X4_set (l : Launch) (v0 : Option Nat) (v1 : Int32) (v2 : Int32) : zMet l yX4_set cX4_set 3 none 0 0 [.inr (.inr v0), .inl v1, .inl v2] zcV (p_X4_set v0 v1 v2) :=
  zMet.of (by decide +kernel) (Nat.le_of_ble_eq_true rfl) rfl (sim_X4_set l v0 v1 v2)
def p_X0_changeTold (v0 : Option Nat) (v1 : Int32) (v2 : Int32) (v3 : Int32) : ZM Int32 :=
  z_b (z_gR 1 0 v0) fun x1 => z_b (z_vr 5 x1 (p_X4_get x1 ((v1 * 4) + v2))) fun x2 => z_b (z_gR 1 0 v0) fun x3 => z_b (z_vr 5 x3 (p_X4_set x3 ((v1 * 4) + v2) v3)) fun _ => z_rt x2
abbrev M_X0_changeTold (l : Launch) : ZMe := (l, "SpellScribe$Grammar", cX0_changeTold, 5, 1, 22, (some .int), "changeTold", [])
set_option maxRecDepth 20000 in
theorem sim_X0_changeTold (l : Launch) (v0 : Option Nat) (v1 : Int32) (v2 : Int32) (v3 : Int32) : Sim (M_X0_changeTold l) (zFin zcI) 0 [(0, .inr (.inr v0)), (1, .inl v1), (2, .inl v2), (3, .inl v3)] [] (p_X0_changeTold v0 v1 v2 v3) := by
  unfold p_X0_changeTold
  refine s_aloadn (j := 0) dX0_changeTold_0 rfl ?_
  refine s_getR (k := 0) cls_1 (by decide) rfl dX0_changeTold_1 w_159 rfl (fun x1 => ?_)
  refine s_iloadn (j := 1) dX0_changeTold_4 rfl ?_
  refine s_iconst (v := 4) dX0_changeTold_5 (by decide) ?_
  refine s_imul dX0_changeTold_6 ?_
  refine s_iloadn (j := 2) dX0_changeTold_7 rfl ?_
  refine s_iadd dX0_changeTold_8 ?_
  refine s_cVI (rest := []) (met_X4_get l x1 ((v1 * 4) + v2)) cls_5 mth_X4_get rfl dX0_changeTold_9 w_427 w_355 w_356 ⟨Nat.le_of_ble_eq_true rfl, Nat.le_of_ble_eq_true rfl⟩ (Nat.le_of_ble_eq_true rfl) rfl (fun x2 => ?_)
  refine s_istore (lv' := [(4, .inl x2), (0, .inr (.inr v0)), (1, .inl v1), (2, .inl v2), (3, .inl v3)]) dX0_changeTold_12 (Nat.le_of_ble_eq_true rfl) rfl ?_
  refine s_aloadn (j := 1) dX0_changeTold_14 rfl ?_
  refine s_getR (k := 0) cls_1 (by decide) rfl dX0_changeTold_15 w_159 rfl (fun x3 => ?_)
  refine s_iloadn (j := 2) dX0_changeTold_18 rfl ?_
  refine s_iconst (v := 4) dX0_changeTold_19 (by decide) ?_
  refine s_imul dX0_changeTold_20 ?_
  refine s_iloadn (j := 3) dX0_changeTold_21 rfl ?_
  refine s_iadd dX0_changeTold_22 ?_
  refine s_iloadn (j := 4) dX0_changeTold_23 rfl ?_
  refine s_cVV (rest := []) (met_X4_set l x3 ((v1 * 4) + v2) v3) cls_5 mth_X4_set rfl dX0_changeTold_24 w_445 w_347 w_348 ⟨Nat.le_of_ble_eq_true rfl, Nat.le_of_ble_eq_true rfl⟩ (Nat.le_of_ble_eq_true rfl) rfl ?_
  refine s_iload (j := 0) dX0_changeTold_27 rfl ?_
  exact s_iret dX0_changeTold_29 rfl
theorem met_X0_changeTold (l : Launch) (v0 : Option Nat) (v1 : Int32) (v2 : Int32) (v3 : Int32) : zMet l yX0_changeTold cX0_changeTold 5 (some .int) 1 22 [.inr (.inr v0), .inl v1, .inl v2, .inl v3] zcI (p_X0_changeTold v0 v1 v2 v3) :=
  zMet.of (by decide +kernel) (Nat.le_of_ble_eq_true rfl) rfl (sim_X0_changeTold l v0 v1 v2 v3)
def p_X0_isBroken (v0 : Option Nat) (v1 : Int32) (v2 : Int32) : ZM Int32 :=
  if v1 = (-1) then (z_rz 0)
  else (if ¬ v2 = (-1) then (z_b (z_gR 1 0 v0) fun x1 => z_b (z_vr 5 x1 (p_X4_get x1 (((v1 / 2) * 4) + (v2 / 2)))) fun x2 => if x2 = 2 then (z_rz 1)
  else (if ¬ x2 = 1 then (z_rz 0)
  else (if (v1 - v1 / 2 * 2) = (v2 - v2 / 2 * 2) then (z_rz 0)
  else (z_rz 1))))
  else (z_rz 0))
abbrev M_X0_isBroken (l : Launch) : ZMe := (l, "SpellScribe$Grammar", cX0_isBroken, 4, 1, 21, (some .boolean), "isBroken", [])
set_option maxRecDepth 20000 in
theorem sim_X0_isBroken (l : Launch) (v0 : Option Nat) (v1 : Int32) (v2 : Int32) : Sim (M_X0_isBroken l) (zFin zcI) 0 [(0, .inr (.inr v0)), (1, .inl v1), (2, .inl v2)] [] (p_X0_isBroken v0 v1 v2) := by
  unfold p_X0_isBroken
  refine s_iloadn (j := 1) dX0_isBroken_0 rfl ?_
  refine s_iconst (v := (-1)) dX0_isBroken_1 (by decide) ?_
  refine s_icmp_eq (tgt := 10) dX0_isBroken_2 (by decide) ?_ ?_
  · refine s_iconst (v := 0) dX0_isBroken_10 (by decide) ?_
    exact s_zret dX0_isBroken_11 rfl
  · refine s_iloadn (j := 2) dX0_isBroken_5 rfl ?_
    refine s_iconst (v := (-1)) dX0_isBroken_6 (by decide) ?_
    refine s_icmp_ne (tgt := 12) dX0_isBroken_7 (by decide) ?_ ?_
    · refine s_aloadn (j := 0) dX0_isBroken_12 rfl ?_
      refine s_getR (k := 0) cls_1 (by decide) rfl dX0_isBroken_13 w_159 rfl (fun x1 => ?_)
      refine s_iloadn (j := 1) dX0_isBroken_16 rfl ?_
      refine s_iconst (v := 2) dX0_isBroken_17 (by decide) ?_
      refine s_idiv dX0_isBroken_18 (by decide) ?_
      refine s_iconst (v := 4) dX0_isBroken_19 (by decide) ?_
      refine s_imul dX0_isBroken_20 ?_
      refine s_iloadn (j := 2) dX0_isBroken_21 rfl ?_
      refine s_iconst (v := 2) dX0_isBroken_22 (by decide) ?_
      refine s_idiv dX0_isBroken_23 (by decide) ?_
      refine s_iadd dX0_isBroken_24 ?_
      refine s_cVI (rest := []) (met_X4_get l x1 (((v1 / 2) * 4) + (v2 / 2))) cls_5 mth_X4_get rfl dX0_isBroken_25 w_427 w_355 w_356 ⟨Nat.le_of_ble_eq_true rfl, Nat.le_of_ble_eq_true rfl⟩ (Nat.le_of_ble_eq_true rfl) rfl (fun x2 => ?_)
      refine s_istoren (lv' := [(3, .inl x2), (0, .inr (.inr v0)), (1, .inl v1), (2, .inl v2)]) dX0_isBroken_28 (Nat.le_of_ble_eq_true rfl) rfl ?_
      refine s_iloadn (j := 0) dX0_isBroken_29 rfl ?_
      refine s_iconst (v := 2) dX0_isBroken_30 (by decide) ?_
      refine s_icmp_eq (tgt := 48) dX0_isBroken_31 (by decide) ?_ ?_
      · refine s_iconst (v := 1) dX0_isBroken_48 (by decide) ?_
        refine s_goto (tgt := 53) dX0_isBroken_49 (by decide) ?_
        exact s_zret dX0_isBroken_53 rfl
      · refine s_iloadn (j := 0) dX0_isBroken_34 rfl ?_
        refine s_iconst (v := 1) dX0_isBroken_35 (by decide) ?_
        refine s_icmp_ne (tgt := 52) dX0_isBroken_36 (by decide) ?_ ?_
        · refine s_iconst (v := 0) dX0_isBroken_52 (by decide) ?_
          exact s_zret dX0_isBroken_53 rfl
        · refine s_iloadn (j := 2) dX0_isBroken_39 rfl ?_
          refine s_iconst (v := 2) dX0_isBroken_40 (by decide) ?_
          refine s_irem dX0_isBroken_41 (by decide) ?_
          refine s_iloadn (j := 3) dX0_isBroken_42 rfl ?_
          refine s_iconst (v := 2) dX0_isBroken_43 (by decide) ?_
          refine s_irem dX0_isBroken_44 (by decide) ?_
          refine s_icmp_eq (tgt := 52) dX0_isBroken_45 (by decide) ?_ ?_
          · refine s_iconst (v := 0) dX0_isBroken_52 (by decide) ?_
            exact s_zret dX0_isBroken_53 rfl
          · refine s_iconst (v := 1) dX0_isBroken_48 (by decide) ?_
            refine s_goto (tgt := 53) dX0_isBroken_49 (by decide) ?_
            exact s_zret dX0_isBroken_53 rfl
    · refine s_iconst (v := 0) dX0_isBroken_10 (by decide) ?_
      exact s_zret dX0_isBroken_11 rfl
theorem met_X0_isBroken (l : Launch) (v0 : Option Nat) (v1 : Int32) (v2 : Int32) : zMet l yX0_isBroken cX0_isBroken 4 (some .boolean) 1 21 [.inr (.inr v0), .inl v1, .inl v2] zcI (p_X0_isBroken v0 v1 v2) :=
  zMet.of (by decide +kernel) (Nat.le_of_ble_eq_true rfl) rfl (sim_X0_isBroken l v0 v1 v2)
def p_X0_countBroken (v0 : Option Nat) (v1 : Int32) (v2 : Int32) (v3 : Int32) : ZM Int32 :=
  z_b (z_gR 1 1 v0) fun x1 => z_b (z_vr 5 x1 (p_X4_get x1 (((v1 * 9) + v2) + 1))) fun x2 => z_b (z_vr 1 v0 (p_X0_isBroken v0 v3 v2)) fun x3 => if x3 = 0 then (z_rt x2)
  else (z_rt (x2 + 1))
abbrev M_X0_countBroken (l : Launch) : ZMe := (l, "SpellScribe$Grammar", cX0_countBroken, 5, 2, 44, (some .int), "countBroken", [])
set_option maxRecDepth 20000 in
theorem sim_X0_countBroken (l : Launch) (v0 : Option Nat) (v1 : Int32) (v2 : Int32) (v3 : Int32) : Sim (M_X0_countBroken l) (zFin zcI) 0 [(0, .inr (.inr v0)), (1, .inl v1), (2, .inl v2), (3, .inl v3)] [] (p_X0_countBroken v0 v1 v2 v3) := by
  unfold p_X0_countBroken
  refine s_aloadn (j := 0) dX0_countBroken_0 rfl ?_
  refine s_getR (k := 1) cls_1 (by decide) rfl dX0_countBroken_1 w_160 rfl (fun x1 => ?_)
  refine s_iloadn (j := 1) dX0_countBroken_4 rfl ?_
  refine s_bipush (v := 9) dX0_countBroken_5 (by decide) ?_
  refine s_imul dX0_countBroken_7 ?_
  refine s_iloadn (j := 2) dX0_countBroken_8 rfl ?_
  refine s_iadd dX0_countBroken_9 ?_
  refine s_iconst (v := 1) dX0_countBroken_10 (by decide) ?_
  refine s_iadd dX0_countBroken_11 ?_
  refine s_cVI (rest := []) (met_X4_get l x1 (((v1 * 9) + v2) + 1)) cls_5 mth_X4_get rfl dX0_countBroken_12 w_427 w_355 w_356 ⟨Nat.le_of_ble_eq_true rfl, Nat.le_of_ble_eq_true rfl⟩ (Nat.le_of_ble_eq_true rfl) rfl (fun x2 => ?_)
  refine s_istore (lv' := [(4, .inl x2), (0, .inr (.inr v0)), (1, .inl v1), (2, .inl v2), (3, .inl v3)]) dX0_countBroken_15 (Nat.le_of_ble_eq_true rfl) rfl ?_
  refine s_aloadn (j := 1) dX0_countBroken_17 rfl ?_
  refine s_iloadn (j := 4) dX0_countBroken_18 rfl ?_
  refine s_iloadn (j := 3) dX0_countBroken_19 rfl ?_
  refine s_cVI (rest := []) (met_X0_isBroken l v0 v3 v2) cls_1 mth_X0_isBroken rfl dX0_countBroken_20 w_437 w_438 w_439 ⟨Nat.le_of_ble_eq_true rfl, Nat.le_of_ble_eq_true rfl⟩ (Nat.le_of_ble_eq_true rfl) rfl (fun x3 => ?_)
  refine s_if_eq (tgt := 33) dX0_countBroken_23 (by decide) ?_ ?_
  · refine s_iload (j := 0) dX0_countBroken_33 rfl ?_
    exact s_iret dX0_countBroken_35 rfl
  · refine s_iload (j := 0) dX0_countBroken_26 rfl ?_
    refine s_iconst (v := 1) dX0_countBroken_28 (by decide) ?_
    refine s_iadd dX0_countBroken_29 ?_
    refine s_goto (tgt := 35) dX0_countBroken_30 (by decide) ?_
    exact s_iret dX0_countBroken_35 rfl
theorem met_X0_countBroken (l : Launch) (v0 : Option Nat) (v1 : Int32) (v2 : Int32) (v3 : Int32) : zMet l yX0_countBroken cX0_countBroken 5 (some .int) 2 44 [.inr (.inr v0), .inl v1, .inl v2, .inl v3] zcI (p_X0_countBroken v0 v1 v2 v3) :=
  zMet.of (by decide +kernel) (Nat.le_of_ble_eq_true rfl) rfl (sim_X0_countBroken l v0 v1 v2 v3)
def p_X0_bestReading_b51 (r10 : Option Nat → Int32 → Int32 → Int32 → Int32 → Int32 → Int32 → ZM Int32) (v0 : Option Nat) (v1 : Int32) (v2 : Int32) (v3 : Int32) (v4 : Int32) (v5 : Int32) (v6 : Int32) : ZM Int32 :=
  z_n (v6 + 1 : Int32) fun y1 => r10 v0 v1 v2 v3 v4 v5 y1
def p_X0_bestReading_c10 (r10 : Option Nat → Int32 → Int32 → Int32 → Int32 → Int32 → Int32 → ZM Int32) (v0 : Option Nat) (v1 : Int32) (v2 : Int32) (v3 : Int32) (v4 : Int32) (v5 : Int32) (v6 : Int32) : ZM Int32 :=
  if 8 ≤ v6 then (z_rt v4)
  else (if ((v1 >>> (v6 &&& 31)) &&& 1) = 0 then (p_X0_bestReading_b51 r10 v0 v1 v2 v3 v4 v5 v6)
  else (z_b (z_vr 1 v0 (p_X0_countBroken v0 v2 v6 v3)) fun x2 => if v5 ≤ x2 then (p_X0_bestReading_b51 r10 v0 v1 v2 v3 v4 v5 v6)
  else (p_X0_bestReading_b51 r10 v0 v1 v2 v3 v6 x2 v6)))
def p_X0_bestReading_l10 : Nat → Option Nat → Int32 → Int32 → Int32 → Int32 → Int32 → Int32 → ZM Int32
  | 0, _, _, _, _, _, _, _ => z_fl
  | n + 1, v0, v1, v2, v3, v4, v5, v6 => p_X0_bestReading_c10 (p_X0_bestReading_l10 n) v0 v1 v2 v3 v4 v5 v6
def p_X0_bestReading (v0 : Option Nat) (v1 : Int32) (v2 : Int32) (v3 : Int32) : ZM Int32 :=
  p_X0_bestReading_l10 zFuel v0 v1 v2 v3 (-1) 100000 0
abbrev M_X0_bestReading (l : Launch) : ZMe := (l, "SpellScribe$Grammar", cX0_bestReading, 8, 3, 68, (some .int), "bestReading", [])
set_option maxRecDepth 20000 in
theorem sim_X0_bestReading_b51 (l : Launch) (r10 : Option Nat → Int32 → Int32 → Int32 → Int32 → Int32 → Int32 → ZM Int32) (hr10 : ∀ (v0 : Option Nat) (v1 : Int32) (v2 : Int32) (v3 : Int32) (v4 : Int32) (v5 : Int32) (v6 : Int32), Sim (M_X0_bestReading l) (zFin zcI) 10 [(0, .inr (.inr v0)), (1, .inl v1), (2, .inl v2), (3, .inl v3), (4, .inl v4), (5, .inl v5), (6, .inl v6)] [] (r10 v0 v1 v2 v3 v4 v5 v6)) (v0 : Option Nat) (v1 : Int32) (v2 : Int32) (v3 : Int32) (v4 : Int32) (v5 : Int32) (v6 : Int32) : Sim (M_X0_bestReading l) (zFin zcI) 51 [(0, .inr (.inr v0)), (1, .inl v1), (2, .inl v2), (3, .inl v3), (4, .inl v4), (5, .inl v5), (6, .inl v6)] [] (p_X0_bestReading_b51 r10 v0 v1 v2 v3 v4 v5 v6) := by
  unfold p_X0_bestReading_b51
  refine s_n0 (fun y1 hy1 => ?_)
  refine s_iinc (j := 6) (v := y1) (d := 1) (lv' := [(6, .inl y1), (0, .inr (.inr v0)), (1, .inl v1), (2, .inl v2), (3, .inl v3), (4, .inl v4), (5, .inl v5)]) dX0_bestReading_51 rfl (by decide) hy1 (Nat.le_of_ble_eq_true rfl) rfl ?_
  refine s_goto (tgt := 10) dX0_bestReading_54 (by decide) ?_
  exact Sim.sub [1, 2, 3, 4, 5, 6, 0] rfl (hr10 v0 v1 v2 v3 v4 v5 y1)
set_option maxRecDepth 20000 in
theorem sim_X0_bestReading_c10 (l : Launch) (r10 : Option Nat → Int32 → Int32 → Int32 → Int32 → Int32 → Int32 → ZM Int32) (hr10 : ∀ (v0 : Option Nat) (v1 : Int32) (v2 : Int32) (v3 : Int32) (v4 : Int32) (v5 : Int32) (v6 : Int32), Sim (M_X0_bestReading l) (zFin zcI) 10 [(0, .inr (.inr v0)), (1, .inl v1), (2, .inl v2), (3, .inl v3), (4, .inl v4), (5, .inl v5), (6, .inl v6)] [] (r10 v0 v1 v2 v3 v4 v5 v6)) (v0 : Option Nat) (v1 : Int32) (v2 : Int32) (v3 : Int32) (v4 : Int32) (v5 : Int32) (v6 : Int32) : Sim (M_X0_bestReading l) (zFin zcI) 10 [(0, .inr (.inr v0)), (1, .inl v1), (2, .inl v2), (3, .inl v3), (4, .inl v4), (5, .inl v5), (6, .inl v6)] [] (p_X0_bestReading_c10 r10 v0 v1 v2 v3 v4 v5 v6) := by
  unfold p_X0_bestReading_c10
  refine s_iload (j := 6) dX0_bestReading_10 rfl ?_
  refine s_bipush (v := 8) dX0_bestReading_12 (by decide) ?_
  refine s_icmp_ge (tgt := 57) dX0_bestReading_14 (by decide) ?_ ?_
  · refine s_iload (j := 4) dX0_bestReading_57 rfl ?_
    exact s_iret dX0_bestReading_59 rfl
  · refine s_iloadn (j := 1) dX0_bestReading_17 rfl ?_
    refine s_iload (j := 6) dX0_bestReading_18 rfl ?_
    refine s_ishr dX0_bestReading_20 ?_
    refine s_iconst (v := 1) dX0_bestReading_21 (by decide) ?_
    refine s_iand dX0_bestReading_22 ?_
    refine s_if_eq (tgt := 51) dX0_bestReading_23 (by decide) ?_ ?_
    · exact Sim.sub [0, 1, 2, 3, 4, 5, 6] rfl (sim_X0_bestReading_b51 l r10 hr10 v0 v1 v2 v3 v4 v5 v6)
    · refine s_aloadn (j := 0) dX0_bestReading_26 rfl ?_
      refine s_iloadn (j := 2) dX0_bestReading_27 rfl ?_
      refine s_iload (j := 6) dX0_bestReading_28 rfl ?_
      refine s_iloadn (j := 3) dX0_bestReading_30 rfl ?_
      refine s_cVI (rest := []) (met_X0_countBroken l v0 v2 v6 v3) cls_1 mth_X0_countBroken rfl dX0_bestReading_31 w_433 w_435 wp_7 ⟨Nat.le_of_ble_eq_true rfl, Nat.le_of_ble_eq_true rfl⟩ (Nat.le_of_ble_eq_true rfl) rfl (fun x2 => ?_)
      refine s_istore (lv' := [(7, .inl x2), (0, .inr (.inr v0)), (1, .inl v1), (2, .inl v2), (3, .inl v3), (4, .inl v4), (5, .inl v5), (6, .inl v6)]) dX0_bestReading_34 (Nat.le_of_ble_eq_true rfl) rfl ?_
      refine s_iload (j := 0) dX0_bestReading_36 rfl ?_
      refine s_iload (j := 6) dX0_bestReading_38 rfl ?_
      refine s_icmp_ge (tgt := 51) dX0_bestReading_40 (by decide) ?_ ?_
      · exact Sim.sub [1, 2, 3, 4, 5, 6, 7] rfl (sim_X0_bestReading_b51 l r10 hr10 v0 v1 v2 v3 v4 v5 v6)
      · refine s_iload (j := 0) dX0_bestReading_43 rfl ?_
        refine s_istore (lv' := [(5, .inl x2), (7, .inl x2), (0, .inr (.inr v0)), (1, .inl v1), (2, .inl v2), (3, .inl v3), (4, .inl v4), (6, .inl v6)]) dX0_bestReading_45 (Nat.le_of_ble_eq_true rfl) rfl ?_
        refine s_iload (j := 7) dX0_bestReading_47 rfl ?_
        refine s_istore (lv' := [(4, .inl v6), (5, .inl x2), (7, .inl x2), (0, .inr (.inr v0)), (1, .inl v1), (2, .inl v2), (3, .inl v3), (6, .inl v6)]) dX0_bestReading_49 (Nat.le_of_ble_eq_true rfl) rfl ?_
        exact Sim.sub [3, 4, 5, 6, 0, 1, 7] rfl (sim_X0_bestReading_b51 l r10 hr10 v0 v1 v2 v3 v6 x2 v6)
theorem sim_X0_bestReading_l10 (l : Launch) : ∀ (n : Nat) (v0 : Option Nat) (v1 : Int32) (v2 : Int32) (v3 : Int32) (v4 : Int32) (v5 : Int32) (v6 : Int32), Sim (M_X0_bestReading l) (zFin zcI) 10 [(0, .inr (.inr v0)), (1, .inl v1), (2, .inl v2), (3, .inl v3), (4, .inl v4), (5, .inl v5), (6, .inl v6)] [] (p_X0_bestReading_l10 n v0 v1 v2 v3 v4 v5 v6)
  | 0, _, _, _, _, _, _, _ => s_fl
  | n + 1, v0, v1, v2, v3, v4, v5, v6 => sim_X0_bestReading_c10 l (p_X0_bestReading_l10 n) (sim_X0_bestReading_l10 l n) v0 v1 v2 v3 v4 v5 v6
set_option maxRecDepth 20000 in
theorem sim_X0_bestReading (l : Launch) (v0 : Option Nat) (v1 : Int32) (v2 : Int32) (v3 : Int32) : Sim (M_X0_bestReading l) (zFin zcI) 0 [(0, .inr (.inr v0)), (1, .inl v1), (2, .inl v2), (3, .inl v3)] [] (p_X0_bestReading v0 v1 v2 v3) := by
  unfold p_X0_bestReading
  refine s_iconst (v := (-1)) dX0_bestReading_0 (by decide) ?_
  refine s_istore (lv' := [(4, .inl (-1)), (0, .inr (.inr v0)), (1, .inl v1), (2, .inl v2), (3, .inl v3)]) dX0_bestReading_1 (Nat.le_of_ble_eq_true rfl) rfl ?_
  refine s_ldc (v := 100000) dX0_bestReading_3 w_432 ?_
  refine s_istore (lv' := [(5, .inl 100000), (4, .inl (-1)), (0, .inr (.inr v0)), (1, .inl v1), (2, .inl v2), (3, .inl v3)]) dX0_bestReading_5 (Nat.le_of_ble_eq_true rfl) rfl ?_
  refine s_iconst (v := 0) dX0_bestReading_7 (by decide) ?_
  refine s_istore (lv' := [(6, .inl 0), (5, .inl 100000), (4, .inl (-1)), (0, .inr (.inr v0)), (1, .inl v1), (2, .inl v2), (3, .inl v3)]) dX0_bestReading_8 (Nat.le_of_ble_eq_true rfl) rfl ?_
  exact Sim.sub [3, 4, 5, 6, 2, 1, 0] rfl (sim_X0_bestReading_l10 l zFuel v0 v1 v2 v3 (-1) 100000 0)
theorem met_X0_bestReading (l : Launch) (v0 : Option Nat) (v1 : Int32) (v2 : Int32) (v3 : Int32) : zMet l yX0_bestReading cX0_bestReading 8 (some .int) 3 68 [.inr (.inr v0), .inl v1, .inl v2, .inl v3] zcI (p_X0_bestReading v0 v1 v2 v3) :=
  zMet.of (by decide +kernel) (Nat.le_of_ble_eq_true rfl) rfl (sim_X0_bestReading l v0 v1 v2 v3)
def p_X0_setFewest (v0 : Option Nat) (v1 : Int32) (v2 : Int32) (v3 : Int32) : ZM Unit :=
  z_b (z_gR 1 1 v0) fun x1 => z_b (z_vr 5 x1 (p_X4_set x1 (((v1 * 9) + v2) + 1) v3)) fun _ => z_rt ()
abbrev M_X0_setFewest (l : Launch) : ZMe := (l, "SpellScribe$Grammar", cX0_setFewest, 4, 1, 22, none, "setFewest", [])
set_option maxRecDepth 20000 in
theorem sim_X0_setFewest (l : Launch) (v0 : Option Nat) (v1 : Int32) (v2 : Int32) (v3 : Int32) : Sim (M_X0_setFewest l) (zFin zcV) 0 [(0, .inr (.inr v0)), (1, .inl v1), (2, .inl v2), (3, .inl v3)] [] (p_X0_setFewest v0 v1 v2 v3) := by
  unfold p_X0_setFewest
  refine s_aloadn (j := 0) dX0_setFewest_0 rfl ?_
  refine s_getR (k := 1) cls_1 (by decide) rfl dX0_setFewest_1 w_160 rfl (fun x1 => ?_)
  refine s_iloadn (j := 1) dX0_setFewest_4 rfl ?_
  refine s_bipush (v := 9) dX0_setFewest_5 (by decide) ?_
  refine s_imul dX0_setFewest_7 ?_
  refine s_iloadn (j := 2) dX0_setFewest_8 rfl ?_
  refine s_iadd dX0_setFewest_9 ?_
  refine s_iconst (v := 1) dX0_setFewest_10 (by decide) ?_
  refine s_iadd dX0_setFewest_11 ?_
  refine s_iloadn (j := 3) dX0_setFewest_12 rfl ?_
  refine s_cVV (rest := []) (met_X4_set l x1 (((v1 * 9) + v2) + 1) v3) cls_5 mth_X4_set rfl dX0_setFewest_13 w_445 w_347 w_348 ⟨Nat.le_of_ble_eq_true rfl, Nat.le_of_ble_eq_true rfl⟩ (Nat.le_of_ble_eq_true rfl) rfl ?_
  exact s_vret dX0_setFewest_16 rfl
theorem met_X0_setFewest (l : Launch) (v0 : Option Nat) (v1 : Int32) (v2 : Int32) (v3 : Int32) : zMet l yX0_setFewest cX0_setFewest 4 none 1 22 [.inr (.inr v0), .inl v1, .inl v2, .inl v3] zcV (p_X0_setFewest v0 v1 v2 v3) :=
  zMet.of (by decide +kernel) (Nat.le_of_ble_eq_true rfl) rfl (sim_X0_setFewest l v0 v1 v2 v3)
def p_X0_choose_c96 (r96 : Option Nat → Option Nat → Option Nat → Int32 → Int32 → Int32 → ZM Unit) (v0 : Option Nat) (v1 : Option Nat) (v2 : Option Nat) (v4 : Int32) (v5 : Int32) (v6 : Int32) : ZM Unit :=
  if v4 ≤ v6 then (z_rt ())
  else (z_b (z_vr 5 v1 (p_X4_get v1 v6)) fun x1 => z_b (z_vr 1 v0 (p_X0_bestReading v0 x1 v6 v5)) fun x2 => z_b (z_vr 5 v2 (p_X4_set v2 v6 x2)) fun _ => z_n (v6 + 1 : Int32) fun y3 => r96 v0 v1 v2 v4 x2 y3)
def p_X0_choose_l96 : Nat → Option Nat → Option Nat → Option Nat → Int32 → Int32 → Int32 → ZM Unit
  | 0, _, _, _, _, _, _ => z_fl
  | n + 1, v0, v1, v2, v4, v5, v6 => p_X0_choose_c96 (p_X0_choose_l96 n) v0 v1 v2 v4 v5 v6
def p_X0_choose_b90 (v0 : Option Nat) (v1 : Option Nat) (v2 : Option Nat) (v3 : Int32) (v4 : Int32) : ZM Unit :=
  p_X0_choose_l96 zFuel v0 v1 v2 v4 (-1) v3
def p_X0_choose_b84 (r6 : Option Nat → Option Nat → Option Nat → Int32 → Int32 → Int32 → ZM Unit) (v0 : Option Nat) (v1 : Option Nat) (v2 : Option Nat) (v3 : Int32) (v4 : Int32) (v5 : Int32) : ZM Unit :=
  z_n (v5 + (-1) : Int32) fun y4 => r6 v0 v1 v2 v3 v4 y4
def p_X0_choose_b68 (r6 : Option Nat → Option Nat → Option Nat → Int32 → Int32 → Int32 → ZM Unit) (r15 : Option Nat → Option Nat → Option Nat → Int32 → Int32 → Int32 → Int32 → ZM Unit) (v0 : Option Nat) (v1 : Option Nat) (v2 : Option Nat) (v3 : Int32) (v4 : Int32) (v5 : Int32) (v6 : Int32) (v7 : Int32) : ZM Unit :=
  z_b (z_vr 1 v0 (p_X0_setFewest v0 v5 v6 v7)) fun _ => z_n (v6 + 1 : Int32) fun y5 => r15 v0 v1 v2 v3 v4 v5 y5
def p_X0_choose_c15 (r6 : Option Nat → Option Nat → Option Nat → Int32 → Int32 → Int32 → ZM Unit) (r15 : Option Nat → Option Nat → Option Nat → Int32 → Int32 → Int32 → Int32 → ZM Unit) (v0 : Option Nat) (v1 : Option Nat) (v2 : Option Nat) (v3 : Int32) (v4 : Int32) (v5 : Int32) (v6 : Int32) : ZM Unit :=
  if 8 ≤ v6 then (p_X0_choose_b84 r6 v0 v1 v2 v3 v4 v5)
  else (if v4 ≤ (v5 + 1) then (p_X0_choose_b68 r6 r15 v0 v1 v2 v3 v4 v5 v6 0)
  else (z_b (z_vr 5 v1 (p_X4_get v1 (v5 + 1))) fun x6 => z_b (z_vr 1 v0 (p_X0_bestReading v0 x6 (v5 + 1) v6)) fun x7 => z_b (z_vr 1 v0 (p_X0_countBroken v0 (v5 + 1) x7 v6)) fun x8 => p_X0_choose_b68 r6 r15 v0 v1 v2 v3 v4 v5 v6 x8))
def p_X0_choose_l15 (r6 : Option Nat → Option Nat → Option Nat → Int32 → Int32 → Int32 → ZM Unit) : Nat → Option Nat → Option Nat → Option Nat → Int32 → Int32 → Int32 → Int32 → ZM Unit
  | 0, _, _, _, _, _, _, _ => z_fl
  | n + 1, v0, v1, v2, v3, v4, v5, v6 => p_X0_choose_c15 r6 (p_X0_choose_l15 r6 n) v0 v1 v2 v3 v4 v5 v6
def p_X0_choose_c6 (r6 : Option Nat → Option Nat → Option Nat → Int32 → Int32 → Int32 → ZM Unit) (v0 : Option Nat) (v1 : Option Nat) (v2 : Option Nat) (v3 : Int32) (v4 : Int32) (v5 : Int32) : ZM Unit :=
  if v5 < v3 then (p_X0_choose_b90 v0 v1 v2 v3 v4)
  else (p_X0_choose_l15 r6 zFuel v0 v1 v2 v3 v4 v5 (-1))
def p_X0_choose_l6 : Nat → Option Nat → Option Nat → Option Nat → Int32 → Int32 → Int32 → ZM Unit
  | 0, _, _, _, _, _, _ => z_fl
  | n + 1, v0, v1, v2, v3, v4, v5 => p_X0_choose_c6 (p_X0_choose_l6 n) v0 v1 v2 v3 v4 v5
def p_X0_choose (v0 : Option Nat) (v1 : Option Nat) (v2 : Option Nat) (v3 : Int32) (v4 : Int32) : ZM Unit :=
  z_n ((v4 - 1) : Int32) fun y9 => p_X0_choose_l6 zFuel v0 v1 v2 v3 v4 y9
abbrev M_X0_choose (l : Launch) : ZMe := (l, "SpellScribe$Grammar", cX0_choose, 9, 4, 95, none, "choose", [])
set_option maxRecDepth 20000 in
theorem sim_X0_choose_c96 (l : Launch) (r96 : Option Nat → Option Nat → Option Nat → Int32 → Int32 → Int32 → ZM Unit) (hr96 : ∀ (v0 : Option Nat) (v1 : Option Nat) (v2 : Option Nat) (v4 : Int32) (v5 : Int32) (v6 : Int32), Sim (M_X0_choose l) (zFin zcV) 96 [(0, .inr (.inr v0)), (1, .inr (.inr v1)), (2, .inr (.inr v2)), (4, .inl v4), (5, .inl v5), (6, .inl v6)] [] (r96 v0 v1 v2 v4 v5 v6)) (v0 : Option Nat) (v1 : Option Nat) (v2 : Option Nat) (v4 : Int32) (v5 : Int32) (v6 : Int32) : Sim (M_X0_choose l) (zFin zcV) 96 [(0, .inr (.inr v0)), (1, .inr (.inr v1)), (2, .inr (.inr v2)), (4, .inl v4), (5, .inl v5), (6, .inl v6)] [] (p_X0_choose_c96 r96 v0 v1 v2 v4 v5 v6) := by
  unfold p_X0_choose_c96
  refine s_iload (j := 5) dX0_choose_96 rfl ?_
  refine s_iload (j := 3) dX0_choose_98 rfl ?_
  refine s_icmp_ge (tgt := 133) dX0_choose_100 (by decide) ?_ ?_
  · exact s_vret dX0_choose_133 rfl
  · refine s_aloadn (j := 0) dX0_choose_103 rfl ?_
    refine s_aloadn (j := 1) dX0_choose_104 rfl ?_
    refine s_iload (j := 5) dX0_choose_105 rfl ?_
    refine s_cVI (rest := [.inr (.inr v0)]) (met_X4_get l v1 v6) cls_5 mth_X4_get rfl dX0_choose_107 w_427 w_355 w_356 ⟨Nat.le_of_ble_eq_true rfl, Nat.le_of_ble_eq_true rfl⟩ (Nat.le_of_ble_eq_true rfl) rfl (fun x1 => ?_)
    refine s_iload (j := 5) dX0_choose_110 rfl ?_
    refine s_iload (j := 4) dX0_choose_112 rfl ?_
    refine s_cVI (rest := []) (met_X0_bestReading l v0 x1 v6 v5) cls_1 mth_X0_bestReading rfl dX0_choose_114 w_428 w_430 wp_6 ⟨Nat.le_of_ble_eq_true rfl, Nat.le_of_ble_eq_true rfl⟩ (Nat.le_of_ble_eq_true rfl) rfl (fun x2 => ?_)
    refine s_istore (lv' := [(5, .inl x2), (0, .inr (.inr v0)), (1, .inr (.inr v1)), (2, .inr (.inr v2)), (4, .inl v4), (6, .inl v6)]) dX0_choose_117 (Nat.le_of_ble_eq_true rfl) rfl ?_
    refine s_aloadn (j := 3) dX0_choose_119 rfl ?_
    refine s_iload (j := 5) dX0_choose_120 rfl ?_
    refine s_iload (j := 0) dX0_choose_122 rfl ?_
    refine s_cVV (rest := []) (met_X4_set l v2 v6 x2) cls_5 mth_X4_set rfl dX0_choose_124 w_445 w_347 w_348 ⟨Nat.le_of_ble_eq_true rfl, Nat.le_of_ble_eq_true rfl⟩ (Nat.le_of_ble_eq_true rfl) rfl ?_
    refine s_n0 (fun y3 hy3 => ?_)
    refine s_iinc (j := 5) (v := y3) (d := 1) (lv' := [(6, .inl y3), (5, .inl x2), (0, .inr (.inr v0)), (1, .inr (.inr v1)), (2, .inr (.inr v2)), (4, .inl v4)]) dX0_choose_127 rfl (by decide) hy3 (Nat.le_of_ble_eq_true rfl) rfl ?_
    refine s_goto (tgt := 96) dX0_choose_130 (by decide) ?_
    exact Sim.sub [2, 3, 4, 5, 1, 0] rfl (hr96 v0 v1 v2 v4 x2 y3)
theorem sim_X0_choose_l96 (l : Launch) : ∀ (n : Nat) (v0 : Option Nat) (v1 : Option Nat) (v2 : Option Nat) (v4 : Int32) (v5 : Int32) (v6 : Int32), Sim (M_X0_choose l) (zFin zcV) 96 [(0, .inr (.inr v0)), (1, .inr (.inr v1)), (2, .inr (.inr v2)), (4, .inl v4), (5, .inl v5), (6, .inl v6)] [] (p_X0_choose_l96 n v0 v1 v2 v4 v5 v6)
  | 0, _, _, _, _, _, _ => s_fl
  | n + 1, v0, v1, v2, v4, v5, v6 => sim_X0_choose_c96 l (p_X0_choose_l96 n) (sim_X0_choose_l96 l n) v0 v1 v2 v4 v5 v6
set_option maxRecDepth 20000 in
theorem sim_X0_choose_b90 (l : Launch) (v0 : Option Nat) (v1 : Option Nat) (v2 : Option Nat) (v3 : Int32) (v4 : Int32) : Sim (M_X0_choose l) (zFin zcV) 90 [(0, .inr (.inr v0)), (1, .inr (.inr v1)), (2, .inr (.inr v2)), (3, .inl v3), (4, .inl v4)] [] (p_X0_choose_b90 v0 v1 v2 v3 v4) := by
  unfold p_X0_choose_b90
  refine s_iconst (v := (-1)) dX0_choose_90 (by decide) ?_
  refine s_istore (lv' := [(5, .inl (-1)), (0, .inr (.inr v0)), (1, .inr (.inr v1)), (2, .inr (.inr v2)), (3, .inl v3), (4, .inl v4)]) dX0_choose_91 (Nat.le_of_ble_eq_true rfl) rfl ?_
  refine s_iloadn (j := 4) dX0_choose_93 rfl ?_
  refine s_istore (lv' := [(6, .inl v3), (5, .inl (-1)), (0, .inr (.inr v0)), (1, .inr (.inr v1)), (2, .inr (.inr v2)), (3, .inl v3), (4, .inl v4)]) dX0_choose_94 (Nat.le_of_ble_eq_true rfl) rfl ?_
  exact Sim.sub [2, 3, 4, 6, 1, 0] rfl (sim_X0_choose_l96 l zFuel v0 v1 v2 v4 (-1) v3)
set_option maxRecDepth 20000 in
theorem sim_X0_choose_b84 (l : Launch) (r6 : Option Nat → Option Nat → Option Nat → Int32 → Int32 → Int32 → ZM Unit) (hr6 : ∀ (v0 : Option Nat) (v1 : Option Nat) (v2 : Option Nat) (v3 : Int32) (v4 : Int32) (v5 : Int32), Sim (M_X0_choose l) (zFin zcV) 6 [(0, .inr (.inr v0)), (1, .inr (.inr v1)), (2, .inr (.inr v2)), (3, .inl v3), (4, .inl v4), (5, .inl v5)] [] (r6 v0 v1 v2 v3 v4 v5)) (v0 : Option Nat) (v1 : Option Nat) (v2 : Option Nat) (v3 : Int32) (v4 : Int32) (v5 : Int32) : Sim (M_X0_choose l) (zFin zcV) 84 [(0, .inr (.inr v0)), (1, .inr (.inr v1)), (2, .inr (.inr v2)), (3, .inl v3), (4, .inl v4), (5, .inl v5)] [] (p_X0_choose_b84 r6 v0 v1 v2 v3 v4 v5) := by
  unfold p_X0_choose_b84
  refine s_n0 (fun y4 hy4 => ?_)
  refine s_iinc (j := 5) (v := y4) (d := (-1)) (lv' := [(5, .inl y4), (0, .inr (.inr v0)), (1, .inr (.inr v1)), (2, .inr (.inr v2)), (3, .inl v3), (4, .inl v4)]) dX0_choose_84 rfl (by decide) hy4 (Nat.le_of_ble_eq_true rfl) rfl ?_
  refine s_goto (tgt := 6) dX0_choose_87 (by decide) ?_
  exact Sim.sub [1, 2, 3, 4, 5, 0] rfl (hr6 v0 v1 v2 v3 v4 y4)
set_option maxRecDepth 20000 in
theorem sim_X0_choose_b68 (l : Launch) (r6 : Option Nat → Option Nat → Option Nat → Int32 → Int32 → Int32 → ZM Unit) (r15 : Option Nat → Option Nat → Option Nat → Int32 → Int32 → Int32 → Int32 → ZM Unit) (hr6 : ∀ (v0 : Option Nat) (v1 : Option Nat) (v2 : Option Nat) (v3 : Int32) (v4 : Int32) (v5 : Int32), Sim (M_X0_choose l) (zFin zcV) 6 [(0, .inr (.inr v0)), (1, .inr (.inr v1)), (2, .inr (.inr v2)), (3, .inl v3), (4, .inl v4), (5, .inl v5)] [] (r6 v0 v1 v2 v3 v4 v5)) (hr15 : ∀ (v0 : Option Nat) (v1 : Option Nat) (v2 : Option Nat) (v3 : Int32) (v4 : Int32) (v5 : Int32) (v6 : Int32), Sim (M_X0_choose l) (zFin zcV) 15 [(0, .inr (.inr v0)), (1, .inr (.inr v1)), (2, .inr (.inr v2)), (3, .inl v3), (4, .inl v4), (5, .inl v5), (6, .inl v6)] [] (r15 v0 v1 v2 v3 v4 v5 v6)) (v0 : Option Nat) (v1 : Option Nat) (v2 : Option Nat) (v3 : Int32) (v4 : Int32) (v5 : Int32) (v6 : Int32) (v7 : Int32) : Sim (M_X0_choose l) (zFin zcV) 68 [(0, .inr (.inr v0)), (1, .inr (.inr v1)), (2, .inr (.inr v2)), (3, .inl v3), (4, .inl v4), (5, .inl v5), (6, .inl v6), (7, .inl v7)] [] (p_X0_choose_b68 r6 r15 v0 v1 v2 v3 v4 v5 v6 v7) := by
  unfold p_X0_choose_b68
  refine s_aloadn (j := 0) dX0_choose_68 rfl ?_
  refine s_iload (j := 5) dX0_choose_69 rfl ?_
  refine s_iload (j := 6) dX0_choose_71 rfl ?_
  refine s_iload (j := 7) dX0_choose_73 rfl ?_
  refine s_cVV (rest := []) (met_X0_setFewest l v0 v5 v6 v7) cls_1 mth_X0_setFewest rfl dX0_choose_75 w_441 w_443 wp_8 ⟨Nat.le_of_ble_eq_true rfl, Nat.le_of_ble_eq_true rfl⟩ (Nat.le_of_ble_eq_true rfl) rfl ?_
  refine s_n0 (fun y5 hy5 => ?_)
  refine s_iinc (j := 6) (v := y5) (d := 1) (lv' := [(6, .inl y5), (0, .inr (.inr v0)), (1, .inr (.inr v1)), (2, .inr (.inr v2)), (3, .inl v3), (4, .inl v4), (5, .inl v5), (7, .inl v7)]) dX0_choose_78 rfl (by decide) hy5 (Nat.le_of_ble_eq_true rfl) rfl ?_
  refine s_goto (tgt := 15) dX0_choose_81 (by decide) ?_
  exact Sim.sub [1, 2, 3, 4, 5, 6, 0] rfl (hr15 v0 v1 v2 v3 v4 v5 y5)
set_option maxRecDepth 20000 in
theorem sim_X0_choose_c15 (l : Launch) (r6 : Option Nat → Option Nat → Option Nat → Int32 → Int32 → Int32 → ZM Unit) (r15 : Option Nat → Option Nat → Option Nat → Int32 → Int32 → Int32 → Int32 → ZM Unit) (hr6 : ∀ (v0 : Option Nat) (v1 : Option Nat) (v2 : Option Nat) (v3 : Int32) (v4 : Int32) (v5 : Int32), Sim (M_X0_choose l) (zFin zcV) 6 [(0, .inr (.inr v0)), (1, .inr (.inr v1)), (2, .inr (.inr v2)), (3, .inl v3), (4, .inl v4), (5, .inl v5)] [] (r6 v0 v1 v2 v3 v4 v5)) (hr15 : ∀ (v0 : Option Nat) (v1 : Option Nat) (v2 : Option Nat) (v3 : Int32) (v4 : Int32) (v5 : Int32) (v6 : Int32), Sim (M_X0_choose l) (zFin zcV) 15 [(0, .inr (.inr v0)), (1, .inr (.inr v1)), (2, .inr (.inr v2)), (3, .inl v3), (4, .inl v4), (5, .inl v5), (6, .inl v6)] [] (r15 v0 v1 v2 v3 v4 v5 v6)) (v0 : Option Nat) (v1 : Option Nat) (v2 : Option Nat) (v3 : Int32) (v4 : Int32) (v5 : Int32) (v6 : Int32) : Sim (M_X0_choose l) (zFin zcV) 15 [(0, .inr (.inr v0)), (1, .inr (.inr v1)), (2, .inr (.inr v2)), (3, .inl v3), (4, .inl v4), (5, .inl v5), (6, .inl v6)] [] (p_X0_choose_c15 r6 r15 v0 v1 v2 v3 v4 v5 v6) := by
  unfold p_X0_choose_c15
  refine s_iload (j := 6) dX0_choose_15 rfl ?_
  refine s_bipush (v := 8) dX0_choose_17 (by decide) ?_
  refine s_icmp_ge (tgt := 84) dX0_choose_19 (by decide) ?_ ?_
  · exact Sim.sub [0, 1, 2, 3, 4, 5] rfl (sim_X0_choose_b84 l r6 hr6 v0 v1 v2 v3 v4 v5)
  · refine s_iconst (v := 0) dX0_choose_22 (by decide) ?_
    refine s_istore (lv' := [(7, .inl 0), (0, .inr (.inr v0)), (1, .inr (.inr v1)), (2, .inr (.inr v2)), (3, .inl v3), (4, .inl v4), (5, .inl v5), (6, .inl v6)]) dX0_choose_23 (Nat.le_of_ble_eq_true rfl) rfl ?_
    refine s_iload (j := 6) dX0_choose_25 rfl ?_
    refine s_iconst (v := 1) dX0_choose_27 (by decide) ?_
    refine s_iadd dX0_choose_28 ?_
    refine s_iload (j := 5) dX0_choose_29 rfl ?_
    refine s_icmp_ge (tgt := 68) dX0_choose_31 (by decide) ?_ ?_
    · exact Sim.sub [1, 2, 3, 4, 5, 6, 7, 0] rfl (sim_X0_choose_b68 l r6 r15 hr6 hr15 v0 v1 v2 v3 v4 v5 v6 0)
    · refine s_aloadn (j := 1) dX0_choose_34 rfl ?_
      refine s_aloadn (j := 2) dX0_choose_35 rfl ?_
      refine s_iload (j := 6) dX0_choose_36 rfl ?_
      refine s_iconst (v := 1) dX0_choose_38 (by decide) ?_
      refine s_iadd dX0_choose_39 ?_
      refine s_cVI (rest := [.inr (.inr v0)]) (met_X4_get l v1 (v5 + 1)) cls_5 mth_X4_get rfl dX0_choose_40 w_427 w_355 w_356 ⟨Nat.le_of_ble_eq_true rfl, Nat.le_of_ble_eq_true rfl⟩ (Nat.le_of_ble_eq_true rfl) rfl (fun x6 => ?_)
      refine s_iload (j := 6) dX0_choose_43 rfl ?_
      refine s_iconst (v := 1) dX0_choose_45 (by decide) ?_
      refine s_iadd dX0_choose_46 ?_
      refine s_iload (j := 7) dX0_choose_47 rfl ?_
      refine s_cVI (rest := []) (met_X0_bestReading l v0 x6 (v5 + 1) v6) cls_1 mth_X0_bestReading rfl dX0_choose_49 w_428 w_430 wp_6 ⟨Nat.le_of_ble_eq_true rfl, Nat.le_of_ble_eq_true rfl⟩ (Nat.le_of_ble_eq_true rfl) rfl (fun x7 => ?_)
      refine s_istore (lv' := [(8, .inl x7), (7, .inl 0), (0, .inr (.inr v0)), (1, .inr (.inr v1)), (2, .inr (.inr v2)), (3, .inl v3), (4, .inl v4), (5, .inl v5), (6, .inl v6)]) dX0_choose_52 (Nat.le_of_ble_eq_true rfl) rfl ?_
      refine s_aloadn (j := 2) dX0_choose_54 rfl ?_
      refine s_iload (j := 7) dX0_choose_55 rfl ?_
      refine s_iconst (v := 1) dX0_choose_57 (by decide) ?_
      refine s_iadd dX0_choose_58 ?_
      refine s_iload (j := 0) dX0_choose_59 rfl ?_
      refine s_iload (j := 8) dX0_choose_61 rfl ?_
      refine s_cVI (rest := []) (met_X0_countBroken l v0 (v5 + 1) x7 v6) cls_1 mth_X0_countBroken rfl dX0_choose_63 w_433 w_435 wp_7 ⟨Nat.le_of_ble_eq_true rfl, Nat.le_of_ble_eq_true rfl⟩ (Nat.le_of_ble_eq_true rfl) rfl (fun x8 => ?_)
      refine s_istore (lv' := [(7, .inl x8), (8, .inl x7), (0, .inr (.inr v0)), (1, .inr (.inr v1)), (2, .inr (.inr v2)), (3, .inl v3), (4, .inl v4), (5, .inl v5), (6, .inl v6)]) dX0_choose_66 (Nat.le_of_ble_eq_true rfl) rfl ?_
      exact Sim.sub [2, 3, 4, 5, 6, 7, 8, 0] rfl (sim_X0_choose_b68 l r6 r15 hr6 hr15 v0 v1 v2 v3 v4 v5 v6 x8)
theorem sim_X0_choose_l15 (l : Launch) (r6 : Option Nat → Option Nat → Option Nat → Int32 → Int32 → Int32 → ZM Unit) (hr6 : ∀ (v0 : Option Nat) (v1 : Option Nat) (v2 : Option Nat) (v3 : Int32) (v4 : Int32) (v5 : Int32), Sim (M_X0_choose l) (zFin zcV) 6 [(0, .inr (.inr v0)), (1, .inr (.inr v1)), (2, .inr (.inr v2)), (3, .inl v3), (4, .inl v4), (5, .inl v5)] [] (r6 v0 v1 v2 v3 v4 v5)) : ∀ (n : Nat) (v0 : Option Nat) (v1 : Option Nat) (v2 : Option Nat) (v3 : Int32) (v4 : Int32) (v5 : Int32) (v6 : Int32), Sim (M_X0_choose l) (zFin zcV) 15 [(0, .inr (.inr v0)), (1, .inr (.inr v1)), (2, .inr (.inr v2)), (3, .inl v3), (4, .inl v4), (5, .inl v5), (6, .inl v6)] [] (p_X0_choose_l15 r6 n v0 v1 v2 v3 v4 v5 v6)
  | 0, _, _, _, _, _, _, _ => s_fl
  | n + 1, v0, v1, v2, v3, v4, v5, v6 => sim_X0_choose_c15 l r6 (p_X0_choose_l15 r6 n) hr6 (sim_X0_choose_l15 l r6 hr6 n) v0 v1 v2 v3 v4 v5 v6
set_option maxRecDepth 20000 in
theorem sim_X0_choose_c6 (l : Launch) (r6 : Option Nat → Option Nat → Option Nat → Int32 → Int32 → Int32 → ZM Unit) (hr6 : ∀ (v0 : Option Nat) (v1 : Option Nat) (v2 : Option Nat) (v3 : Int32) (v4 : Int32) (v5 : Int32), Sim (M_X0_choose l) (zFin zcV) 6 [(0, .inr (.inr v0)), (1, .inr (.inr v1)), (2, .inr (.inr v2)), (3, .inl v3), (4, .inl v4), (5, .inl v5)] [] (r6 v0 v1 v2 v3 v4 v5)) (v0 : Option Nat) (v1 : Option Nat) (v2 : Option Nat) (v3 : Int32) (v4 : Int32) (v5 : Int32) : Sim (M_X0_choose l) (zFin zcV) 6 [(0, .inr (.inr v0)), (1, .inr (.inr v1)), (2, .inr (.inr v2)), (3, .inl v3), (4, .inl v4), (5, .inl v5)] [] (p_X0_choose_c6 r6 v0 v1 v2 v3 v4 v5) := by
  unfold p_X0_choose_c6
  refine s_iload (j := 5) dX0_choose_6 rfl ?_
  refine s_iloadn (j := 3) dX0_choose_8 rfl ?_
  refine s_icmp_lt (tgt := 90) dX0_choose_9 (by decide) ?_ ?_
  · exact Sim.sub [0, 1, 2, 3, 4] rfl (sim_X0_choose_b90 l v0 v1 v2 v3 v4)
  · refine s_iconst (v := (-1)) dX0_choose_12 (by decide) ?_
    refine s_istore (lv' := [(6, .inl (-1)), (0, .inr (.inr v0)), (1, .inr (.inr v1)), (2, .inr (.inr v2)), (3, .inl v3), (4, .inl v4), (5, .inl v5)]) dX0_choose_13 (Nat.le_of_ble_eq_true rfl) rfl ?_
    exact Sim.sub [1, 2, 3, 4, 5, 6, 0] rfl (sim_X0_choose_l15 l r6 hr6 zFuel v0 v1 v2 v3 v4 v5 (-1))
theorem sim_X0_choose_l6 (l : Launch) : ∀ (n : Nat) (v0 : Option Nat) (v1 : Option Nat) (v2 : Option Nat) (v3 : Int32) (v4 : Int32) (v5 : Int32), Sim (M_X0_choose l) (zFin zcV) 6 [(0, .inr (.inr v0)), (1, .inr (.inr v1)), (2, .inr (.inr v2)), (3, .inl v3), (4, .inl v4), (5, .inl v5)] [] (p_X0_choose_l6 n v0 v1 v2 v3 v4 v5)
  | 0, _, _, _, _, _, _ => s_fl
  | n + 1, v0, v1, v2, v3, v4, v5 => sim_X0_choose_c6 l (p_X0_choose_l6 n) (sim_X0_choose_l6 l n) v0 v1 v2 v3 v4 v5
set_option maxRecDepth 20000 in
theorem sim_X0_choose (l : Launch) (v0 : Option Nat) (v1 : Option Nat) (v2 : Option Nat) (v3 : Int32) (v4 : Int32) : Sim (M_X0_choose l) (zFin zcV) 0 [(0, .inr (.inr v0)), (1, .inr (.inr v1)), (2, .inr (.inr v2)), (3, .inl v3), (4, .inl v4)] [] (p_X0_choose v0 v1 v2 v3 v4) := by
  unfold p_X0_choose
  refine s_iload (j := 4) dX0_choose_0 rfl ?_
  refine s_iconst (v := 1) dX0_choose_2 (by decide) ?_
  refine s_isub dX0_choose_3 ?_
  refine s_nI (fun y9 => ?_)
  refine s_istore (lv' := [(5, .inl y9), (0, .inr (.inr v0)), (1, .inr (.inr v1)), (2, .inr (.inr v2)), (3, .inl v3), (4, .inl v4)]) dX0_choose_4 (Nat.le_of_ble_eq_true rfl) rfl ?_
  exact Sim.sub [1, 2, 3, 4, 5, 0] rfl (sim_X0_choose_l6 l zFuel v0 v1 v2 v3 v4 y9)
theorem met_X0_choose (l : Launch) (v0 : Option Nat) (v1 : Option Nat) (v2 : Option Nat) (v3 : Int32) (v4 : Int32) : zMet l yX0_choose cX0_choose 9 none 4 95 [.inr (.inr v0), .inr (.inr v1), .inr (.inr v2), .inl v3, .inl v4] zcV (p_X0_choose v0 v1 v2 v3 v4) :=
  zMet.of (by decide +kernel) (Nat.le_of_ble_eq_true rfl) rfl (sim_X0_choose l v0 v1 v2 v3 v4)
def p_X1_init (v0 : Option Nat) : ZM Unit :=
  z_b (z_ii v0 (z_rt ())) fun _ => z_b (z_nO 5 1) fun x1 => z_b (z_ii x1 (p_X4_init x1 2100)) fun _ => z_b (z_pR 2 0 v0 x1) fun _ => z_b (z_nO 5 1) fun x2 => z_b (z_ii x2 (p_X4_init x2 21)) fun _ => z_b (z_pR 2 1 v0 x2) fun _ => z_rt ()
abbrev M_X1_init (l : Launch) : ZMe := (l, "SpellScribe$History", cX1_init, 1, 2, 33, none, "<init>", [])
set_option maxRecDepth 20000 in
theorem sim_X1_init (l : Launch) (v0 : Option Nat) : Sim (M_X1_init l) (zFin zcV) 0 [(0, .inr (.inr v0))] [] (p_X1_init v0) := by
  unfold p_X1_init
  refine s_aloadn (j := 0) dX1_init_0 rfl ?_
  refine s_objInit dX1_init_1 w_211 w_35 w_36 ⟨Nat.le_of_ble_eq_true rfl, Nat.le_of_ble_eq_true rfl⟩ ?_
  refine s_aloadn (j := 0) dX1_init_4 rfl ?_
  refine s_new cls_5 zck_5 dX1_init_5 w_212 w_76 w_7 (fun x1 => ?_)
  refine s_dupR dX1_init_8 ?_
  refine s_sipush (v := 2100) dX1_init_9 (by decide) ?_
  refine s_callI (rest := [.inr (.inr x1), .inr (.inr v0)]) (met_X4_init l x1 2100) mth_X4_init rfl rfl dX1_init_12 w_213 w_78 ⟨Nat.le_of_ble_eq_true rfl, Nat.le_of_ble_eq_true rfl⟩ (Nat.le_of_ble_eq_true rfl) rfl ?_
  refine s_putRF (k := 0) cls_2 (by decide) rfl rfl rfl rfl rfl dX1_init_15 w_214 rfl ?_
  refine s_aloadn (j := 0) dX1_init_18 rfl ?_
  refine s_new cls_5 zck_5 dX1_init_19 w_212 w_76 w_7 (fun x2 => ?_)
  refine s_dupR dX1_init_22 ?_
  refine s_bipush (v := 21) dX1_init_23 (by decide) ?_
  refine s_callI (rest := [.inr (.inr x2), .inr (.inr v0)]) (met_X4_init l x2 21) mth_X4_init rfl rfl dX1_init_25 w_213 w_78 ⟨Nat.le_of_ble_eq_true rfl, Nat.le_of_ble_eq_true rfl⟩ (Nat.le_of_ble_eq_true rfl) rfl ?_
  refine s_putRF (k := 1) cls_2 (by decide) rfl rfl rfl rfl rfl dX1_init_28 w_215 rfl ?_
  exact s_vret dX1_init_31 rfl
theorem met_X1_init (l : Launch) (v0 : Option Nat) : zMet l yX1_init cX1_init 1 none 2 33 [.inr (.inr v0)] zcV (p_X1_init v0) :=
  zMet.of (by decide +kernel) (Nat.le_of_ble_eq_true rfl) rfl (sim_X1_init l v0)
def p_X9_size (v0 : Option Nat) : ZM Int32 :=
  z_b (z_gI 10 6 v0) fun x1 => z_rt x1
abbrev M_X9_size (l : Launch) : ZMe := (l, "SpellScribe$Text", cX9_size, 1, 0, 0, (some .int), "size", [])
set_option maxRecDepth 20000 in
theorem sim_X9_size (l : Launch) (v0 : Option Nat) : Sim (M_X9_size l) (zFin zcI) 0 [(0, .inr (.inr v0))] [] (p_X9_size v0) := by
  unfold p_X9_size
  refine s_aloadn (j := 0) dX9_size_0 rfl ?_
  refine s_getI (k := 6) cls_10 (by decide) rfl dX9_size_1 w_184 rfl (fun x1 => ?_)
  exact s_iret dX9_size_4 rfl
theorem met_X9_size (l : Launch) (v0 : Option Nat) : zMet l yX9_size cX9_size 1 (some .int) 0 0 [.inr (.inr v0)] zcI (p_X9_size v0) :=
  zMet.of (by decide +kernel) (Nat.le_of_ble_eq_true rfl) rfl (sim_X9_size l v0)
def p_X9_signOn (v0 : Option Nat) (v1 : Int32) : ZM Int32 :=
  z_b (z_gR 10 0 v0) fun x1 => z_b (z_vr 5 x1 (p_X4_get x1 v1)) fun x2 => z_rc ((Int32.toUInt32 x2 % 65536).toInt32)
abbrev M_X9_signOn (l : Launch) : ZMe := (l, "SpellScribe$Text", cX9_signOn, 2, 1, 21, (some .char), "signOn", [])
set_option maxRecDepth 20000 in
theorem sim_X9_signOn (l : Launch) (v0 : Option Nat) (v1 : Int32) : Sim (M_X9_signOn l) (zFin zcI) 0 [(0, .inr (.inr v0)), (1, .inl v1)] [] (p_X9_signOn v0 v1) := by
  unfold p_X9_signOn
  refine s_aloadn (j := 0) dX9_signOn_0 rfl ?_
  refine s_getR (k := 0) cls_10 (by decide) rfl dX9_signOn_1 w_178 rfl (fun x1 => ?_)
  refine s_iloadn (j := 1) dX9_signOn_4 rfl ?_
  refine s_cVI (rest := []) (met_X4_get l x1 v1) cls_5 mth_X4_get rfl dX9_signOn_5 w_354 w_355 w_356 ⟨Nat.le_of_ble_eq_true rfl, Nat.le_of_ble_eq_true rfl⟩ (Nat.le_of_ble_eq_true rfl) rfl (fun x2 => ?_)
  refine s_i2c dX9_signOn_8 ?_
  exact s_cret dX9_signOn_9 rfl
theorem met_X9_signOn (l : Launch) (v0 : Option Nat) (v1 : Int32) : zMet l yX9_signOn cX9_signOn 2 (some .char) 1 21 [.inr (.inr v0), .inl v1] zcI (p_X9_signOn v0 v1) :=
  zMet.of (by decide +kernel) (Nat.le_of_ble_eq_true rfl) rfl (sim_X9_signOn l v0 v1)
def p_X1_keep_b61 (v0 : Option Nat) : ZM Unit :=
  z_b (z_gI 2 2 v0) fun x1 => z_b (z_pI 2 2 v0 (x1 + 1)) fun _ => z_rt ()
def p_X1_keep_c26 (r26 : Option Nat → Option Nat → Int32 → ZM Unit) (v0 : Option Nat) (v1 : Option Nat) (v2 : Int32) : ZM Unit :=
  z_b (z_vr 10 v1 (p_X9_size v1)) fun x2 => if x2 ≤ v2 then (p_X1_keep_b61 v0)
  else (z_b (z_gR 2 0 v0) fun x3 => z_b (z_gI 2 2 v0) fun x4 => z_b (z_vr 10 v1 (p_X9_signOn v1 v2)) fun x5 => z_b (z_vr 5 x3 (p_X4_set x3 ((x4 * 100) + v2) x5)) fun _ => z_n (v2 + 1 : Int32) fun y6 => r26 v0 v1 y6)
def p_X1_keep_l26 : Nat → Option Nat → Option Nat → Int32 → ZM Unit
  | 0, _, _, _ => z_fl
  | n + 1, v0, v1, v2 => p_X1_keep_c26 (p_X1_keep_l26 n) v0 v1 v2
def p_X1_keep (v0 : Option Nat) (v1 : Option Nat) : ZM Unit :=
  z_b (z_gI 2 2 v0) fun x7 => if 20 < x7 then (z_rt ())
  else (z_b (z_gR 2 1 v0) fun x8 => z_b (z_gI 2 2 v0) fun x9 => z_b (z_vr 10 v1 (p_X9_size v1)) fun x10 => z_b (z_vr 5 x8 (p_X4_set x8 x9 x10)) fun _ => p_X1_keep_l26 zFuel v0 v1 0)
abbrev M_X1_keep (l : Launch) : ZMe := (l, "SpellScribe$History", cX1_keep, 3, 2, 42, none, "keep", [])
set_option maxRecDepth 20000 in
theorem sim_X1_keep_b61 (l : Launch) (v0 : Option Nat) : Sim (M_X1_keep l) (zFin zcV) 61 [(0, .inr (.inr v0))] [] (p_X1_keep_b61 v0) := by
  unfold p_X1_keep_b61
  refine s_aloadn (j := 0) dX1_keep_61 rfl ?_
  refine s_dupR dX1_keep_62 ?_
  refine s_getI (k := 2) cls_2 (by decide) rfl dX1_keep_63 w_216 rfl (fun x1 => ?_)
  refine s_iconst (v := 1) dX1_keep_66 (by decide) ?_
  refine s_iadd dX1_keep_67 ?_
  refine s_putI (k := 2) cls_2 (by decide) rfl rfl rfl dX1_keep_68 w_216 rfl ?_
  exact s_vret dX1_keep_71 rfl
set_option maxRecDepth 20000 in
theorem sim_X1_keep_c26 (l : Launch) (r26 : Option Nat → Option Nat → Int32 → ZM Unit) (hr26 : ∀ (v0 : Option Nat) (v1 : Option Nat) (v2 : Int32), Sim (M_X1_keep l) (zFin zcV) 26 [(0, .inr (.inr v0)), (1, .inr (.inr v1)), (2, .inl v2)] [] (r26 v0 v1 v2)) (v0 : Option Nat) (v1 : Option Nat) (v2 : Int32) : Sim (M_X1_keep l) (zFin zcV) 26 [(0, .inr (.inr v0)), (1, .inr (.inr v1)), (2, .inl v2)] [] (p_X1_keep_c26 r26 v0 v1 v2) := by
  unfold p_X1_keep_c26
  refine s_iloadn (j := 2) dX1_keep_26 rfl ?_
  refine s_aloadn (j := 1) dX1_keep_27 rfl ?_
  refine s_cVI (rest := [.inl v2]) (met_X9_size l v1) cls_10 mth_X9_size rfl dX1_keep_28 w_342 w_343 w_344 ⟨Nat.le_of_ble_eq_true rfl, Nat.le_of_ble_eq_true rfl⟩ (Nat.le_of_ble_eq_true rfl) rfl (fun x2 => ?_)
  refine s_icmp_ge (tgt := 61) dX1_keep_31 (by decide) ?_ ?_
  · exact Sim.sub [0] rfl (sim_X1_keep_b61 l v0)
  · refine s_aloadn (j := 0) dX1_keep_34 rfl ?_
    refine s_getR (k := 0) cls_2 (by decide) rfl dX1_keep_35 w_214 rfl (fun x3 => ?_)
    refine s_aloadn (j := 0) dX1_keep_38 rfl ?_
    refine s_getI (k := 2) cls_2 (by decide) rfl dX1_keep_39 w_216 rfl (fun x4 => ?_)
    refine s_bipush (v := 100) dX1_keep_42 (by decide) ?_
    refine s_imul dX1_keep_44 ?_
    refine s_iloadn (j := 2) dX1_keep_45 rfl ?_
    refine s_iadd dX1_keep_46 ?_
    refine s_aloadn (j := 1) dX1_keep_47 rfl ?_
    refine s_iloadn (j := 2) dX1_keep_48 rfl ?_
    refine s_cVI (rest := [.inl ((x4 * 100) + v2), .inr (.inr x3)]) (met_X9_signOn l v1 v2) cls_10 mth_X9_signOn rfl dX1_keep_49 w_350 w_351 w_352 ⟨Nat.le_of_ble_eq_true rfl, Nat.le_of_ble_eq_true rfl⟩ (Nat.le_of_ble_eq_true rfl) rfl (fun x5 => ?_)
    refine s_cVV (rest := []) (met_X4_set l x3 ((x4 * 100) + v2) x5) cls_5 mth_X4_set rfl dX1_keep_52 w_346 w_347 w_348 ⟨Nat.le_of_ble_eq_true rfl, Nat.le_of_ble_eq_true rfl⟩ (Nat.le_of_ble_eq_true rfl) rfl ?_
    refine s_n0 (fun y6 hy6 => ?_)
    refine s_iinc (j := 2) (v := y6) (d := 1) (lv' := [(2, .inl y6), (0, .inr (.inr v0)), (1, .inr (.inr v1))]) dX1_keep_55 rfl (by decide) hy6 (Nat.le_of_ble_eq_true rfl) rfl ?_
    refine s_goto (tgt := 26) dX1_keep_58 (by decide) ?_
    exact Sim.sub [1, 2, 0] rfl (hr26 v0 v1 y6)
theorem sim_X1_keep_l26 (l : Launch) : ∀ (n : Nat) (v0 : Option Nat) (v1 : Option Nat) (v2 : Int32), Sim (M_X1_keep l) (zFin zcV) 26 [(0, .inr (.inr v0)), (1, .inr (.inr v1)), (2, .inl v2)] [] (p_X1_keep_l26 n v0 v1 v2)
  | 0, _, _, _ => s_fl
  | n + 1, v0, v1, v2 => sim_X1_keep_c26 l (p_X1_keep_l26 n) (sim_X1_keep_l26 l n) v0 v1 v2
set_option maxRecDepth 20000 in
theorem sim_X1_keep (l : Launch) (v0 : Option Nat) (v1 : Option Nat) : Sim (M_X1_keep l) (zFin zcV) 0 [(0, .inr (.inr v0)), (1, .inr (.inr v1))] [] (p_X1_keep v0 v1) := by
  unfold p_X1_keep
  refine s_aloadn (j := 0) dX1_keep_0 rfl ?_
  refine s_getI (k := 2) cls_2 (by decide) rfl dX1_keep_1 w_216 rfl (fun x7 => ?_)
  refine s_bipush (v := 20) dX1_keep_4 (by decide) ?_
  refine s_icmp_gt (tgt := 71) dX1_keep_6 (by decide) ?_ ?_
  · exact s_vret dX1_keep_71 rfl
  · refine s_aloadn (j := 0) dX1_keep_9 rfl ?_
    refine s_getR (k := 1) cls_2 (by decide) rfl dX1_keep_10 w_215 rfl (fun x8 => ?_)
    refine s_aloadn (j := 0) dX1_keep_13 rfl ?_
    refine s_getI (k := 2) cls_2 (by decide) rfl dX1_keep_14 w_216 rfl (fun x9 => ?_)
    refine s_aloadn (j := 1) dX1_keep_17 rfl ?_
    refine s_cVI (rest := [.inl x9, .inr (.inr x8)]) (met_X9_size l v1) cls_10 mth_X9_size rfl dX1_keep_18 w_342 w_343 w_344 ⟨Nat.le_of_ble_eq_true rfl, Nat.le_of_ble_eq_true rfl⟩ (Nat.le_of_ble_eq_true rfl) rfl (fun x10 => ?_)
    refine s_cVV (rest := []) (met_X4_set l x8 x9 x10) cls_5 mth_X4_set rfl dX1_keep_21 w_346 w_347 w_348 ⟨Nat.le_of_ble_eq_true rfl, Nat.le_of_ble_eq_true rfl⟩ (Nat.le_of_ble_eq_true rfl) rfl ?_
    refine s_iconst (v := 0) dX1_keep_24 (by decide) ?_
    refine s_istoren (lv' := [(2, .inl 0), (0, .inr (.inr v0)), (1, .inr (.inr v1))]) dX1_keep_25 (Nat.le_of_ble_eq_true rfl) rfl ?_
    exact Sim.sub [1, 2, 0] rfl (sim_X1_keep_l26 l zFuel v0 v1 0)
theorem met_X1_keep (l : Launch) (v0 : Option Nat) (v1 : Option Nat) : zMet l yX1_keep cX1_keep 3 none 2 42 [.inr (.inr v0), .inr (.inr v1)] zcV (p_X1_keep v0 v1) :=
  zMet.of (by decide +kernel) (Nat.le_of_ble_eq_true rfl) rfl (sim_X1_keep l v0 v1)
def p_X1_begin (v0 : Option Nat) (v1 : Option Nat) : ZM Unit :=
  z_b (z_pI 2 2 v0 0) fun _ => z_b (z_vr 2 v0 (p_X1_keep v0 v1)) fun _ => z_rt ()
abbrev M_X1_begin (l : Launch) : ZMe := (l, "SpellScribe$History", cX1_begin, 2, 3, 64, none, "begin", [])
set_option maxRecDepth 20000 in
theorem sim_X1_begin (l : Launch) (v0 : Option Nat) (v1 : Option Nat) : Sim (M_X1_begin l) (zFin zcV) 0 [(0, .inr (.inr v0)), (1, .inr (.inr v1))] [] (p_X1_begin v0 v1) := by
  unfold p_X1_begin
  refine s_aloadn (j := 0) dX1_begin_0 rfl ?_
  refine s_iconst (v := 0) dX1_begin_1 (by decide) ?_
  refine s_putI (k := 2) cls_2 (by decide) rfl rfl rfl dX1_begin_2 w_216 rfl ?_
  refine s_aloadn (j := 0) dX1_begin_5 rfl ?_
  refine s_aloadn (j := 1) dX1_begin_6 rfl ?_
  refine s_cVV (rest := []) (met_X1_keep l v0 v1) cls_2 mth_X1_keep rfl dX1_begin_7 w_338 w_339 w_340 ⟨Nat.le_of_ble_eq_true rfl, Nat.le_of_ble_eq_true rfl⟩ (Nat.le_of_ble_eq_true rfl) rfl ?_
  exact s_vret dX1_begin_10 rfl
theorem met_X1_begin (l : Launch) (v0 : Option Nat) (v1 : Option Nat) : zMet l yX1_begin cX1_begin 2 none 3 64 [.inr (.inr v0), .inr (.inr v1)] zcV (p_X1_begin v0 v1) :=
  zMet.of (by decide +kernel) (Nat.le_of_ble_eq_true rfl) rfl (sim_X1_begin l v0 v1)
def p_X1_isLike_c2 (r2 : Option Nat → Int32 → Option Nat → Int32 → ZM Int32) (v0 : Option Nat) (v1 : Int32) (v2 : Option Nat) (v3 : Int32) : ZM Int32 :=
  z_b (z_vr 10 v2 (p_X9_size v2)) fun x1 => if x1 ≤ v3 then (z_rz 1)
  else (z_b (z_gR 2 0 v0) fun x2 => z_b (z_vr 5 x2 (p_X4_get x2 ((v1 * 100) + v3))) fun x3 => z_b (z_vr 10 v2 (p_X9_signOn v2 v3)) fun x4 => if x3 = x4 then (z_n (v3 + 1 : Int32) fun y5 => r2 v0 v1 v2 y5)
  else (z_rz 0))
def p_X1_isLike_l2 : Nat → Option Nat → Int32 → Option Nat → Int32 → ZM Int32
  | 0, _, _, _, _ => z_fl
  | n + 1, v0, v1, v2, v3 => p_X1_isLike_c2 (p_X1_isLike_l2 n) v0 v1 v2 v3
def p_X1_isLike (v0 : Option Nat) (v1 : Int32) (v2 : Option Nat) : ZM Int32 :=
  p_X1_isLike_l2 zFuel v0 v1 v2 0
abbrev M_X1_isLike (l : Launch) : ZMe := (l, "SpellScribe$History", cX1_isLike, 4, 2, 42, (some .boolean), "isLike", [])
set_option maxRecDepth 20000 in
theorem sim_X1_isLike_c2 (l : Launch) (r2 : Option Nat → Int32 → Option Nat → Int32 → ZM Int32) (hr2 : ∀ (v0 : Option Nat) (v1 : Int32) (v2 : Option Nat) (v3 : Int32), Sim (M_X1_isLike l) (zFin zcI) 2 [(0, .inr (.inr v0)), (1, .inl v1), (2, .inr (.inr v2)), (3, .inl v3)] [] (r2 v0 v1 v2 v3)) (v0 : Option Nat) (v1 : Int32) (v2 : Option Nat) (v3 : Int32) : Sim (M_X1_isLike l) (zFin zcI) 2 [(0, .inr (.inr v0)), (1, .inl v1), (2, .inr (.inr v2)), (3, .inl v3)] [] (p_X1_isLike_c2 r2 v0 v1 v2 v3) := by
  unfold p_X1_isLike_c2
  refine s_iloadn (j := 3) dX1_isLike_2 rfl ?_
  refine s_aloadn (j := 2) dX1_isLike_3 rfl ?_
  refine s_cVI (rest := [.inl v3]) (met_X9_size l v2) cls_10 mth_X9_size rfl dX1_isLike_4 w_342 w_343 w_344 ⟨Nat.le_of_ble_eq_true rfl, Nat.le_of_ble_eq_true rfl⟩ (Nat.le_of_ble_eq_true rfl) rfl (fun x1 => ?_)
  refine s_icmp_ge (tgt := 39) dX1_isLike_7 (by decide) ?_ ?_
  · refine s_iconst (v := 1) dX1_isLike_39 (by decide) ?_
    exact s_zret dX1_isLike_40 rfl
  · refine s_aloadn (j := 0) dX1_isLike_10 rfl ?_
    refine s_getR (k := 0) cls_2 (by decide) rfl dX1_isLike_11 w_214 rfl (fun x2 => ?_)
    refine s_iloadn (j := 1) dX1_isLike_14 rfl ?_
    refine s_bipush (v := 100) dX1_isLike_15 (by decide) ?_
    refine s_imul dX1_isLike_17 ?_
    refine s_iloadn (j := 3) dX1_isLike_18 rfl ?_
    refine s_iadd dX1_isLike_19 ?_
    refine s_cVI (rest := []) (met_X4_get l x2 ((v1 * 100) + v3)) cls_5 mth_X4_get rfl dX1_isLike_20 w_671 w_355 w_356 ⟨Nat.le_of_ble_eq_true rfl, Nat.le_of_ble_eq_true rfl⟩ (Nat.le_of_ble_eq_true rfl) rfl (fun x3 => ?_)
    refine s_aloadn (j := 2) dX1_isLike_23 rfl ?_
    refine s_iloadn (j := 3) dX1_isLike_24 rfl ?_
    refine s_cVI (rest := [.inl x3]) (met_X9_signOn l v2 v3) cls_10 mth_X9_signOn rfl dX1_isLike_25 w_350 w_351 w_352 ⟨Nat.le_of_ble_eq_true rfl, Nat.le_of_ble_eq_true rfl⟩ (Nat.le_of_ble_eq_true rfl) rfl (fun x4 => ?_)
    refine s_icmp_eq (tgt := 33) dX1_isLike_28 (by decide) ?_ ?_
    · refine s_n0 (fun y5 hy5 => ?_)
      refine s_iinc (j := 3) (v := y5) (d := 1) (lv' := [(3, .inl y5), (0, .inr (.inr v0)), (1, .inl v1), (2, .inr (.inr v2))]) dX1_isLike_33 rfl (by decide) hy5 (Nat.le_of_ble_eq_true rfl) rfl ?_
      refine s_goto (tgt := 2) dX1_isLike_36 (by decide) ?_
      exact Sim.sub [1, 2, 3, 0] rfl (hr2 v0 v1 v2 y5)
    · refine s_iconst (v := 0) dX1_isLike_31 (by decide) ?_
      exact s_zret dX1_isLike_32 rfl
theorem sim_X1_isLike_l2 (l : Launch) : ∀ (n : Nat) (v0 : Option Nat) (v1 : Int32) (v2 : Option Nat) (v3 : Int32), Sim (M_X1_isLike l) (zFin zcI) 2 [(0, .inr (.inr v0)), (1, .inl v1), (2, .inr (.inr v2)), (3, .inl v3)] [] (p_X1_isLike_l2 n v0 v1 v2 v3)
  | 0, _, _, _, _ => s_fl
  | n + 1, v0, v1, v2, v3 => sim_X1_isLike_c2 l (p_X1_isLike_l2 n) (sim_X1_isLike_l2 l n) v0 v1 v2 v3
set_option maxRecDepth 20000 in
theorem sim_X1_isLike (l : Launch) (v0 : Option Nat) (v1 : Int32) (v2 : Option Nat) : Sim (M_X1_isLike l) (zFin zcI) 0 [(0, .inr (.inr v0)), (1, .inl v1), (2, .inr (.inr v2))] [] (p_X1_isLike v0 v1 v2) := by
  unfold p_X1_isLike
  refine s_iconst (v := 0) dX1_isLike_0 (by decide) ?_
  refine s_istoren (lv' := [(3, .inl 0), (0, .inr (.inr v0)), (1, .inl v1), (2, .inr (.inr v2))]) dX1_isLike_1 (Nat.le_of_ble_eq_true rfl) rfl ?_
  exact Sim.sub [1, 2, 3, 0] rfl (sim_X1_isLike_l2 l zFuel v0 v1 v2 0)
theorem met_X1_isLike (l : Launch) (v0 : Option Nat) (v1 : Int32) (v2 : Option Nat) : zMet l yX1_isLike cX1_isLike 4 (some .boolean) 2 42 [.inr (.inr v0), .inl v1, .inr (.inr v2)] zcI (p_X1_isLike v0 v1 v2) :=
  zMet.of (by decide +kernel) (Nat.le_of_ble_eq_true rfl) rfl (sim_X1_isLike l v0 v1 v2)
def p_X1_holds_b36 (r2 : Option Nat → Option Nat → Int32 → ZM Int32) (v0 : Option Nat) (v1 : Option Nat) (v2 : Int32) : ZM Int32 :=
  z_n (v2 + 1 : Int32) fun y1 => r2 v0 v1 y1
def p_X1_holds_c2 (r2 : Option Nat → Option Nat → Int32 → ZM Int32) (v0 : Option Nat) (v1 : Option Nat) (v2 : Int32) : ZM Int32 :=
  z_b (z_gI 2 2 v0) fun x2 => if x2 ≤ v2 then (z_rz 0)
  else (z_b (z_gR 2 1 v0) fun x3 => z_b (z_vr 5 x3 (p_X4_get x3 v2)) fun x4 => z_b (z_vr 10 v1 (p_X9_size v1)) fun x5 => if ¬ x4 = x5 then (p_X1_holds_b36 r2 v0 v1 v2)
  else (z_b (z_vr 2 v0 (p_X1_isLike v0 v2 v1)) fun x6 => if x6 = 0 then (p_X1_holds_b36 r2 v0 v1 v2)
  else (z_rz 1)))
def p_X1_holds_l2 : Nat → Option Nat → Option Nat → Int32 → ZM Int32
  | 0, _, _, _ => z_fl
  | n + 1, v0, v1, v2 => p_X1_holds_c2 (p_X1_holds_l2 n) v0 v1 v2
def p_X1_holds (v0 : Option Nat) (v1 : Option Nat) : ZM Int32 :=
  p_X1_holds_l2 zFuel v0 v1 0
abbrev M_X1_holds (l : Launch) : ZMe := (l, "SpellScribe$History", cX1_holds, 3, 3, 65, (some .boolean), "holds", [])
set_option maxRecDepth 20000 in
theorem sim_X1_holds_b36 (l : Launch) (r2 : Option Nat → Option Nat → Int32 → ZM Int32) (hr2 : ∀ (v0 : Option Nat) (v1 : Option Nat) (v2 : Int32), Sim (M_X1_holds l) (zFin zcI) 2 [(0, .inr (.inr v0)), (1, .inr (.inr v1)), (2, .inl v2)] [] (r2 v0 v1 v2)) (v0 : Option Nat) (v1 : Option Nat) (v2 : Int32) : Sim (M_X1_holds l) (zFin zcI) 36 [(0, .inr (.inr v0)), (1, .inr (.inr v1)), (2, .inl v2)] [] (p_X1_holds_b36 r2 v0 v1 v2) := by
  unfold p_X1_holds_b36
  refine s_n0 (fun y1 hy1 => ?_)
  refine s_iinc (j := 2) (v := y1) (d := 1) (lv' := [(2, .inl y1), (0, .inr (.inr v0)), (1, .inr (.inr v1))]) dX1_holds_36 rfl (by decide) hy1 (Nat.le_of_ble_eq_true rfl) rfl ?_
  refine s_goto (tgt := 2) dX1_holds_39 (by decide) ?_
  exact Sim.sub [1, 2, 0] rfl (hr2 v0 v1 y1)
set_option maxRecDepth 20000 in
theorem sim_X1_holds_c2 (l : Launch) (r2 : Option Nat → Option Nat → Int32 → ZM Int32) (hr2 : ∀ (v0 : Option Nat) (v1 : Option Nat) (v2 : Int32), Sim (M_X1_holds l) (zFin zcI) 2 [(0, .inr (.inr v0)), (1, .inr (.inr v1)), (2, .inl v2)] [] (r2 v0 v1 v2)) (v0 : Option Nat) (v1 : Option Nat) (v2 : Int32) : Sim (M_X1_holds l) (zFin zcI) 2 [(0, .inr (.inr v0)), (1, .inr (.inr v1)), (2, .inl v2)] [] (p_X1_holds_c2 r2 v0 v1 v2) := by
  unfold p_X1_holds_c2
  refine s_iloadn (j := 2) dX1_holds_2 rfl ?_
  refine s_aloadn (j := 0) dX1_holds_3 rfl ?_
  refine s_getI (k := 2) cls_2 (by decide) rfl dX1_holds_4 w_216 rfl (fun x2 => ?_)
  refine s_icmp_ge (tgt := 42) dX1_holds_7 (by decide) ?_ ?_
  · refine s_iconst (v := 0) dX1_holds_42 (by decide) ?_
    exact s_zret dX1_holds_43 rfl
  · refine s_aloadn (j := 0) dX1_holds_10 rfl ?_
    refine s_getR (k := 1) cls_2 (by decide) rfl dX1_holds_11 w_215 rfl (fun x3 => ?_)
    refine s_iloadn (j := 2) dX1_holds_14 rfl ?_
    refine s_cVI (rest := []) (met_X4_get l x3 v2) cls_5 mth_X4_get rfl dX1_holds_15 w_671 w_355 w_356 ⟨Nat.le_of_ble_eq_true rfl, Nat.le_of_ble_eq_true rfl⟩ (Nat.le_of_ble_eq_true rfl) rfl (fun x4 => ?_)
    refine s_aloadn (j := 1) dX1_holds_18 rfl ?_
    refine s_cVI (rest := [.inl x4]) (met_X9_size l v1) cls_10 mth_X9_size rfl dX1_holds_19 w_342 w_343 w_344 ⟨Nat.le_of_ble_eq_true rfl, Nat.le_of_ble_eq_true rfl⟩ (Nat.le_of_ble_eq_true rfl) rfl (fun x5 => ?_)
    refine s_icmp_ne (tgt := 36) dX1_holds_22 (by decide) ?_ ?_
    · exact Sim.sub [0, 1, 2] rfl (sim_X1_holds_b36 l r2 hr2 v0 v1 v2)
    · refine s_aloadn (j := 0) dX1_holds_25 rfl ?_
      refine s_iloadn (j := 2) dX1_holds_26 rfl ?_
      refine s_aloadn (j := 1) dX1_holds_27 rfl ?_
      refine s_cVI (rest := []) (met_X1_isLike l v0 v2 v1) cls_2 mth_X1_isLike rfl dX1_holds_28 w_672 w_674 wp_26 ⟨Nat.le_of_ble_eq_true rfl, Nat.le_of_ble_eq_true rfl⟩ (Nat.le_of_ble_eq_true rfl) rfl (fun x6 => ?_)
      refine s_if_eq (tgt := 36) dX1_holds_31 (by decide) ?_ ?_
      · exact Sim.sub [0, 1, 2] rfl (sim_X1_holds_b36 l r2 hr2 v0 v1 v2)
      · refine s_iconst (v := 1) dX1_holds_34 (by decide) ?_
        exact s_zret dX1_holds_35 rfl
theorem sim_X1_holds_l2 (l : Launch) : ∀ (n : Nat) (v0 : Option Nat) (v1 : Option Nat) (v2 : Int32), Sim (M_X1_holds l) (zFin zcI) 2 [(0, .inr (.inr v0)), (1, .inr (.inr v1)), (2, .inl v2)] [] (p_X1_holds_l2 n v0 v1 v2)
  | 0, _, _, _ => s_fl
  | n + 1, v0, v1, v2 => sim_X1_holds_c2 l (p_X1_holds_l2 n) (sim_X1_holds_l2 l n) v0 v1 v2
set_option maxRecDepth 20000 in
theorem sim_X1_holds (l : Launch) (v0 : Option Nat) (v1 : Option Nat) : Sim (M_X1_holds l) (zFin zcI) 0 [(0, .inr (.inr v0)), (1, .inr (.inr v1))] [] (p_X1_holds v0 v1) := by
  unfold p_X1_holds
  refine s_iconst (v := 0) dX1_holds_0 (by decide) ?_
  refine s_istoren (lv' := [(2, .inl 0), (0, .inr (.inr v0)), (1, .inr (.inr v1))]) dX1_holds_1 (Nat.le_of_ble_eq_true rfl) rfl ?_
  exact Sim.sub [1, 2, 0] rfl (sim_X1_holds_l2 l zFuel v0 v1 0)
theorem met_X1_holds (l : Launch) (v0 : Option Nat) (v1 : Option Nat) : zMet l yX1_holds cX1_holds 3 (some .boolean) 3 65 [.inr (.inr v0), .inr (.inr v1)] zcI (p_X1_holds v0 v1) :=
  zMet.of (by decide +kernel) (Nat.le_of_ble_eq_true rfl) rfl (sim_X1_holds l v0 v1)
def p_X10_init (v0 : Option Nat) (v1 : Int32) : ZM Unit :=
  z_b (z_ii v0 (z_rt ())) fun _ => z_b (z_pI 11 2 v0 v1) fun _ => z_b (z_nO 5 1) fun x1 => z_b (z_ii x1 (p_X4_init x1 v1)) fun _ => z_b (z_pR 11 0 v0 x1) fun _ => z_b (z_nO 5 1) fun x2 => z_b (z_ii x2 (p_X4_init x2 v1)) fun _ => z_b (z_pR 11 1 v0 x2) fun _ => z_rt ()
abbrev M_X10_init (l : Launch) : ZMe := (l, "SpellScribe$WordBook", cX10_init, 2, 2, 33, none, "<init>", [])
set_option maxRecDepth 20000 in
theorem sim_X10_init (l : Launch) (v0 : Option Nat) (v1 : Int32) : Sim (M_X10_init l) (zFin zcV) 0 [(0, .inr (.inr v0)), (1, .inl v1)] [] (p_X10_init v0 v1) := by
  unfold p_X10_init
  refine s_aloadn (j := 0) dX10_init_0 rfl ?_
  refine s_objInit dX10_init_1 w_74 w_35 w_36 ⟨Nat.le_of_ble_eq_true rfl, Nat.le_of_ble_eq_true rfl⟩ ?_
  refine s_aloadn (j := 0) dX10_init_4 rfl ?_
  refine s_iloadn (j := 1) dX10_init_5 rfl ?_
  refine s_putIF (k := 2) cls_11 (by decide) rfl rfl rfl rfl rfl dX10_init_6 w_88 rfl ?_
  refine s_aloadn (j := 0) dX10_init_9 rfl ?_
  refine s_new cls_5 zck_5 dX10_init_10 w_75 w_76 w_7 (fun x1 => ?_)
  refine s_dupR dX10_init_13 ?_
  refine s_iloadn (j := 1) dX10_init_14 rfl ?_
  refine s_callI (rest := [.inr (.inr x1), .inr (.inr v0)]) (met_X4_init l x1 v1) mth_X4_init rfl rfl dX10_init_15 w_77 w_78 ⟨Nat.le_of_ble_eq_true rfl, Nat.le_of_ble_eq_true rfl⟩ (Nat.le_of_ble_eq_true rfl) rfl ?_
  refine s_putRF (k := 0) cls_11 (by decide) rfl rfl rfl rfl rfl dX10_init_18 w_86 rfl ?_
  refine s_aloadn (j := 0) dX10_init_21 rfl ?_
  refine s_new cls_5 zck_5 dX10_init_22 w_75 w_76 w_7 (fun x2 => ?_)
  refine s_dupR dX10_init_25 ?_
  refine s_iloadn (j := 1) dX10_init_26 rfl ?_
  refine s_callI (rest := [.inr (.inr x2), .inr (.inr v0)]) (met_X4_init l x2 v1) mth_X4_init rfl rfl dX10_init_27 w_77 w_78 ⟨Nat.le_of_ble_eq_true rfl, Nat.le_of_ble_eq_true rfl⟩ (Nat.le_of_ble_eq_true rfl) rfl ?_
  refine s_putRF (k := 1) cls_11 (by decide) rfl rfl rfl rfl rfl dX10_init_30 w_87 rfl ?_
  exact s_vret dX10_init_33 rfl
theorem met_X10_init (l : Launch) (v0 : Option Nat) (v1 : Int32) : zMet l yX10_init cX10_init 2 none 2 33 [.inr (.inr v0), .inl v1] zcV (p_X10_init v0 v1) :=
  zMet.of (by decide +kernel) (Nat.le_of_ble_eq_true rfl) rfl (sim_X10_init l v0 v1)
def p_X2_init (v0 : Option Nat) : ZM Unit :=
  z_b (z_ii v0 (z_rt ())) fun _ => z_b (z_nO 0 3) fun x1 => z_b (z_ii x1 (p_Jx4a65c_init_da8c8 x1)) fun _ => z_b (z_pR 3 0 v0 x1) fun _ => z_b (z_nO 0 3) fun x2 => z_b (z_ii x2 (p_Jx4a65c_init_da8c8 x2)) fun _ => z_b (z_pR 3 1 v0 x2) fun _ => z_b (z_nO 11 4) fun x3 => z_b (z_ii x3 (p_X10_init x3 1548)) fun _ => z_b (z_pR 3 2 v0 x3) fun _ => z_b (z_nO 11 4) fun x4 => z_b (z_ii x4 (p_X10_init x4 10)) fun _ => z_b (z_pR 3 3 v0 x4) fun _ => z_b (z_nO 11 4) fun x5 => z_b (z_ii x5 (p_X10_init x5 10)) fun _ => z_b (z_pR 3 4 v0 x5) fun _ => z_b (z_nO 11 4) fun x6 => z_b (z_ii x6 (p_X10_init x6 1558)) fun _ => z_b (z_pR 3 5 v0 x6) fun _ => z_rt ()
abbrev M_X2_init (l : Launch) : ZMe := (l, "SpellScribe$Lexicon", cX2_init, 1, 4, 72, none, "<init>", [])
set_option maxRecDepth 20000 in
theorem sim_X2_init (l : Launch) (v0 : Option Nat) : Sim (M_X2_init l) (zFin zcV) 0 [(0, .inr (.inr v0))] [] (p_X2_init v0) := by
  unfold p_X2_init
  refine s_aloadn (j := 0) dX2_init_0 rfl ?_
  refine s_objInit dX2_init_1 w_42 w_35 w_36 ⟨Nat.le_of_ble_eq_true rfl, Nat.le_of_ble_eq_true rfl⟩ ?_
  refine s_aloadn (j := 0) dX2_init_4 rfl ?_
  refine s_new cls_0 zck_0 dX2_init_5 w_43 w_44 w_5 (fun x1 => ?_)
  refine s_dupR dX2_init_8 ?_
  refine s_callI (rest := [.inr (.inr x1), .inr (.inr v0)]) (met_Jx4a65c_init_da8c8 l x1) mth_Jx4a65c_init_da8c8 rfl rfl dX2_init_9 w_45 w_46 ⟨Nat.le_of_ble_eq_true rfl, Nat.le_of_ble_eq_true rfl⟩ (Nat.le_of_ble_eq_true rfl) rfl ?_
  refine s_putRF (k := 0) cls_3 (by decide) rfl rfl rfl rfl rfl dX2_init_12 w_99 rfl ?_
  refine s_aloadn (j := 0) dX2_init_15 rfl ?_
  refine s_new cls_0 zck_0 dX2_init_16 w_43 w_44 w_5 (fun x2 => ?_)
  refine s_dupR dX2_init_19 ?_
  refine s_callI (rest := [.inr (.inr x2), .inr (.inr v0)]) (met_Jx4a65c_init_da8c8 l x2) mth_Jx4a65c_init_da8c8 rfl rfl dX2_init_20 w_45 w_46 ⟨Nat.le_of_ble_eq_true rfl, Nat.le_of_ble_eq_true rfl⟩ (Nat.le_of_ble_eq_true rfl) rfl ?_
  refine s_putRF (k := 1) cls_3 (by decide) rfl rfl rfl rfl rfl dX2_init_23 w_100 rfl ?_
  refine s_aloadn (j := 0) dX2_init_26 rfl ?_
  refine s_new cls_11 zck_11 dX2_init_27 w_69 w_70 w_6 (fun x3 => ?_)
  refine s_dupR dX2_init_30 ?_
  refine s_sipush (v := 1548) dX2_init_31 (by decide) ?_
  refine s_callI (rest := [.inr (.inr x3), .inr (.inr v0)]) (met_X10_init l x3 1548) mth_X10_init rfl rfl dX2_init_34 w_71 w_72 ⟨Nat.le_of_ble_eq_true rfl, Nat.le_of_ble_eq_true rfl⟩ (Nat.le_of_ble_eq_true rfl) rfl ?_
  refine s_putRF (k := 2) cls_3 (by decide) rfl rfl rfl rfl rfl dX2_init_37 w_101 rfl ?_
  refine s_aloadn (j := 0) dX2_init_40 rfl ?_
  refine s_new cls_11 zck_11 dX2_init_41 w_69 w_70 w_6 (fun x4 => ?_)
  refine s_dupR dX2_init_44 ?_
  refine s_bipush (v := 10) dX2_init_45 (by decide) ?_
  refine s_callI (rest := [.inr (.inr x4), .inr (.inr v0)]) (met_X10_init l x4 10) mth_X10_init rfl rfl dX2_init_47 w_71 w_72 ⟨Nat.le_of_ble_eq_true rfl, Nat.le_of_ble_eq_true rfl⟩ (Nat.le_of_ble_eq_true rfl) rfl ?_
  refine s_putRF (k := 3) cls_3 (by decide) rfl rfl rfl rfl rfl dX2_init_50 w_102 rfl ?_
  refine s_aloadn (j := 0) dX2_init_53 rfl ?_
  refine s_new cls_11 zck_11 dX2_init_54 w_69 w_70 w_6 (fun x5 => ?_)
  refine s_dupR dX2_init_57 ?_
  refine s_bipush (v := 10) dX2_init_58 (by decide) ?_
  refine s_callI (rest := [.inr (.inr x5), .inr (.inr v0)]) (met_X10_init l x5 10) mth_X10_init rfl rfl dX2_init_60 w_71 w_72 ⟨Nat.le_of_ble_eq_true rfl, Nat.le_of_ble_eq_true rfl⟩ (Nat.le_of_ble_eq_true rfl) rfl ?_
  refine s_putRF (k := 4) cls_3 (by decide) rfl rfl rfl rfl rfl dX2_init_63 w_103 rfl ?_
  refine s_aloadn (j := 0) dX2_init_66 rfl ?_
  refine s_new cls_11 zck_11 dX2_init_67 w_69 w_70 w_6 (fun x6 => ?_)
  refine s_dupR dX2_init_70 ?_
  refine s_sipush (v := 1558) dX2_init_71 (by decide) ?_
  refine s_callI (rest := [.inr (.inr x6), .inr (.inr v0)]) (met_X10_init l x6 1558) mth_X10_init rfl rfl dX2_init_74 w_71 w_72 ⟨Nat.le_of_ble_eq_true rfl, Nat.le_of_ble_eq_true rfl⟩ (Nat.le_of_ble_eq_true rfl) rfl ?_
  refine s_putRF (k := 5) cls_3 (by decide) rfl rfl rfl rfl rfl dX2_init_77 w_104 rfl ?_
  exact s_vret dX2_init_80 rfl
theorem met_X2_init (l : Launch) (v0 : Option Nat) : zMet l yX2_init cX2_init 1 none 4 72 [.inr (.inr v0)] zcV (p_X2_init v0) :=
  zMet.of (by decide +kernel) (Nat.le_of_ble_eq_true rfl) rfl (sim_X2_init l v0)
def p_X2_stemCount (v0 : Option Nat) : ZM Int32 :=
  z_b (z_gR 3 0 v0) fun x1 => z_b (z_vr 0 x1 (p_Jx4a65c_size_8abf5 x1)) fun x2 => z_rt x2
abbrev M_X2_stemCount (l : Launch) : ZMe := (l, "SpellScribe$Lexicon", cX2_stemCount, 1, 1, 20, (some .int), "stemCount", [])
set_option maxRecDepth 20000 in
theorem sim_X2_stemCount (l : Launch) (v0 : Option Nat) : Sim (M_X2_stemCount l) (zFin zcI) 0 [(0, .inr (.inr v0))] [] (p_X2_stemCount v0) := by
  unfold p_X2_stemCount
  refine s_aloadn (j := 0) dX2_stemCount_0 rfl ?_
  refine s_getR (k := 0) cls_3 (by decide) rfl dX2_stemCount_1 w_99 rfl (fun x1 => ?_)
  refine s_cFI (rest := []) (met_Jx4a65c_size_8abf5 l x1) cls_0 mth_Jx4a65c_size_8abf5 face_size rfl dX2_stemCount_4 w_813 ⟨Nat.le_of_ble_eq_true rfl, Nat.le_of_ble_eq_true rfl⟩ (Nat.le_of_ble_eq_true rfl) rfl (fun x2 => ?_)
  exact s_iret dX2_stemCount_9 rfl
theorem met_X2_stemCount (l : Launch) (v0 : Option Nat) : zMet l yX2_stemCount cX2_stemCount 1 (some .int) 1 20 [.inr (.inr v0)] zcI (p_X2_stemCount v0) :=
  zMet.of (by decide +kernel) (Nat.le_of_ble_eq_true rfl) rfl (sim_X2_stemCount l v0)
def p_X2_addStem (v0 : Option Nat) (v1 : Option Nat) : ZM Int32 :=
  z_b (z_gR 3 0 v0) fun x1 => z_b (z_vr 0 x1 (p_Jx4a65c_add_9ea2d x1 v1)) fun x2 => z_b (z_gR 3 0 v0) fun x3 => z_b (z_vr 0 x3 (p_Jx4a65c_size_8abf5 x3)) fun x4 => z_rt (x4 - 1)
abbrev M_X2_addStem (l : Launch) : ZMe := (l, "SpellScribe$Lexicon", cX2_addStem, 2, 7, 171, (some .int), "addStem", [])
set_option maxRecDepth 20000 in
theorem sim_X2_addStem (l : Launch) (v0 : Option Nat) (v1 : Option Nat) : Sim (M_X2_addStem l) (zFin zcI) 0 [(0, .inr (.inr v0)), (1, .inr (.inr v1))] [] (p_X2_addStem v0 v1) := by
  unfold p_X2_addStem
  refine s_aloadn (j := 0) dX2_addStem_0 rfl ?_
  refine s_getR (k := 0) cls_3 (by decide) rfl dX2_addStem_1 w_99 rfl (fun x1 => ?_)
  refine s_aloadn (j := 1) dX2_addStem_4 rfl ?_
  refine s_cFI (rest := []) (met_Jx4a65c_add_9ea2d l x1 v1) cls_0 mth_Jx4a65c_add_9ea2d face_add rfl dX2_addStem_5 w_846 ⟨Nat.le_of_ble_eq_true rfl, Nat.le_of_ble_eq_true rfl⟩ (Nat.le_of_ble_eq_true rfl) rfl (fun x2 => ?_)
  refine s_popI dX2_addStem_10 ?_
  refine s_aloadn (j := 0) dX2_addStem_11 rfl ?_
  refine s_getR (k := 0) cls_3 (by decide) rfl dX2_addStem_12 w_99 rfl (fun x3 => ?_)
  refine s_cFI (rest := []) (met_Jx4a65c_size_8abf5 l x3) cls_0 mth_Jx4a65c_size_8abf5 face_size rfl dX2_addStem_15 w_813 ⟨Nat.le_of_ble_eq_true rfl, Nat.le_of_ble_eq_true rfl⟩ (Nat.le_of_ble_eq_true rfl) rfl (fun x4 => ?_)
  refine s_iconst (v := 1) dX2_addStem_20 (by decide) ?_
  refine s_isub dX2_addStem_21 ?_
  exact s_iret dX2_addStem_22 rfl
theorem met_X2_addStem (l : Launch) (v0 : Option Nat) (v1 : Option Nat) : zMet l yX2_addStem cX2_addStem 2 (some .int) 7 171 [.inr (.inr v0), .inr (.inr v1)] zcI (p_X2_addStem v0 v1) :=
  zMet.of (by decide +kernel) (Nat.le_of_ble_eq_true rfl) rfl (sim_X2_addStem l v0 v1)
def p_X2_ruleCount (v0 : Option Nat) : ZM Int32 :=
  z_b (z_gR 3 1 v0) fun x1 => z_b (z_vr 0 x1 (p_Jx4a65c_size_8abf5 x1)) fun x2 => z_rt x2
abbrev M_X2_ruleCount (l : Launch) : ZMe := (l, "SpellScribe$Lexicon", cX2_ruleCount, 1, 1, 20, (some .int), "ruleCount", [])
set_option maxRecDepth 20000 in
theorem sim_X2_ruleCount (l : Launch) (v0 : Option Nat) : Sim (M_X2_ruleCount l) (zFin zcI) 0 [(0, .inr (.inr v0))] [] (p_X2_ruleCount v0) := by
  unfold p_X2_ruleCount
  refine s_aloadn (j := 0) dX2_ruleCount_0 rfl ?_
  refine s_getR (k := 1) cls_3 (by decide) rfl dX2_ruleCount_1 w_100 rfl (fun x1 => ?_)
  refine s_cFI (rest := []) (met_Jx4a65c_size_8abf5 l x1) cls_0 mth_Jx4a65c_size_8abf5 face_size rfl dX2_ruleCount_4 w_813 ⟨Nat.le_of_ble_eq_true rfl, Nat.le_of_ble_eq_true rfl⟩ (Nat.le_of_ble_eq_true rfl) rfl (fun x2 => ?_)
  exact s_iret dX2_ruleCount_9 rfl
theorem met_X2_ruleCount (l : Launch) (v0 : Option Nat) : zMet l yX2_ruleCount cX2_ruleCount 1 (some .int) 1 20 [.inr (.inr v0)] zcI (p_X2_ruleCount v0) :=
  zMet.of (by decide +kernel) (Nat.le_of_ble_eq_true rfl) rfl (sim_X2_ruleCount l v0)
def p_X2_addRule (v0 : Option Nat) (v1 : Option Nat) : ZM Int32 :=
  z_b (z_gR 3 1 v0) fun x1 => z_b (z_vr 0 x1 (p_Jx4a65c_add_9ea2d x1 v1)) fun x2 => z_b (z_gR 3 1 v0) fun x3 => z_b (z_vr 0 x3 (p_Jx4a65c_size_8abf5 x3)) fun x4 => z_rt (x4 - 1)
abbrev M_X2_addRule (l : Launch) : ZMe := (l, "SpellScribe$Lexicon", cX2_addRule, 2, 7, 171, (some .int), "addRule", [])
set_option maxRecDepth 20000 in
theorem sim_X2_addRule (l : Launch) (v0 : Option Nat) (v1 : Option Nat) : Sim (M_X2_addRule l) (zFin zcI) 0 [(0, .inr (.inr v0)), (1, .inr (.inr v1))] [] (p_X2_addRule v0 v1) := by
  unfold p_X2_addRule
  refine s_aloadn (j := 0) dX2_addRule_0 rfl ?_
  refine s_getR (k := 1) cls_3 (by decide) rfl dX2_addRule_1 w_100 rfl (fun x1 => ?_)
  refine s_aloadn (j := 1) dX2_addRule_4 rfl ?_
  refine s_cFI (rest := []) (met_Jx4a65c_add_9ea2d l x1 v1) cls_0 mth_Jx4a65c_add_9ea2d face_add rfl dX2_addRule_5 w_846 ⟨Nat.le_of_ble_eq_true rfl, Nat.le_of_ble_eq_true rfl⟩ (Nat.le_of_ble_eq_true rfl) rfl (fun x2 => ?_)
  refine s_popI dX2_addRule_10 ?_
  refine s_aloadn (j := 0) dX2_addRule_11 rfl ?_
  refine s_getR (k := 1) cls_3 (by decide) rfl dX2_addRule_12 w_100 rfl (fun x3 => ?_)
  refine s_cFI (rest := []) (met_Jx4a65c_size_8abf5 l x3) cls_0 mth_Jx4a65c_size_8abf5 face_size rfl dX2_addRule_15 w_813 ⟨Nat.le_of_ble_eq_true rfl, Nat.le_of_ble_eq_true rfl⟩ (Nat.le_of_ble_eq_true rfl) rfl (fun x4 => ?_)
  refine s_iconst (v := 1) dX2_addRule_20 (by decide) ?_
  refine s_isub dX2_addRule_21 ?_
  exact s_iret dX2_addRule_22 rfl
theorem met_X2_addRule (l : Launch) (v0 : Option Nat) (v1 : Option Nat) : zMet l yX2_addRule cX2_addRule 2 (some .int) 7 171 [.inr (.inr v0), .inr (.inr v1)] zcI (p_X2_addRule v0 v1) :=
  zMet.of (by decide +kernel) (Nat.le_of_ble_eq_true rfl) rfl (sim_X2_addRule l v0 v1)
def p_X11_isIn (v0 : Int32) (v1 : Int32) (v2 : Int32) : ZM Int32 :=
  if v0 < v1 then (z_rz 0)
  else (if v2 < v0 then (z_rz 0)
  else (z_rz 1))
abbrev M_X11_isIn (l : Launch) : ZMe := (l, "SpellScribe", cX11_isIn, 3, 0, 0, (some .boolean), "isIn", [])
set_option maxRecDepth 20000 in
theorem sim_X11_isIn (l : Launch) (v0 : Int32) (v1 : Int32) (v2 : Int32) : Sim (M_X11_isIn l) (zFin zcI) 0 [(0, .inl v0), (1, .inl v1), (2, .inl v2)] [] (p_X11_isIn v0 v1 v2) := by
  unfold p_X11_isIn
  refine s_iloadn (j := 0) dX11_isIn_0 rfl ?_
  refine s_iloadn (j := 1) dX11_isIn_1 rfl ?_
  refine s_icmp_lt (tgt := 14) dX11_isIn_2 (by decide) ?_ ?_
  · refine s_iconst (v := 0) dX11_isIn_14 (by decide) ?_
    exact s_zret dX11_isIn_15 rfl
  · refine s_iloadn (j := 0) dX11_isIn_5 rfl ?_
    refine s_iloadn (j := 2) dX11_isIn_6 rfl ?_
    refine s_icmp_gt (tgt := 14) dX11_isIn_7 (by decide) ?_ ?_
    · refine s_iconst (v := 0) dX11_isIn_14 (by decide) ?_
      exact s_zret dX11_isIn_15 rfl
    · refine s_iconst (v := 1) dX11_isIn_10 (by decide) ?_
      refine s_goto (tgt := 15) dX11_isIn_11 (by decide) ?_
      exact s_zret dX11_isIn_15 rfl
theorem met_X11_isIn (l : Launch) (v0 : Int32) (v1 : Int32) (v2 : Int32) : zMet l yX11_isIn cX11_isIn 3 (some .boolean) 0 0 [.inl v0, .inl v1, .inl v2] zcI (p_X11_isIn v0 v1 v2) :=
  zMet.of (by decide +kernel) (Nat.le_of_ble_eq_true rfl) rfl (sim_X11_isIn l v0 v1 v2)
def p_X2_ruleAt (v0 : Option Nat) (v1 : Int32) : ZM (Option Nat) :=
  z_b (z_gR 3 1 v0) fun x1 => z_b (z_vr 0 x1 (p_Jx4a65c_size_8abf5 x1)) fun x2 => z_b (p_X11_isIn v1 0 (x2 - 1)) fun x3 => if x3 = 0 then (z_rt none)
  else (z_b (z_gR 3 1 v0) fun x4 => z_b (z_vr 0 x4 (p_Jx4a65c_get_915e3 x4 v1)) fun x5 => z_b (z_ct 6 x5) fun _ => z_rt x5)
abbrev M_X2_ruleAt (l : Launch) : ZMe := (l, "SpellScribe$Lexicon", cX2_ruleAt, 2, 3, 64, (some (.object "SpellScribe$Rule")), "ruleAt", [])
set_option maxRecDepth 20000 in
theorem sim_X2_ruleAt (l : Launch) (v0 : Option Nat) (v1 : Int32) : Sim (M_X2_ruleAt l) (zFin zcR) 0 [(0, .inr (.inr v0)), (1, .inl v1)] [] (p_X2_ruleAt v0 v1) := by
  unfold p_X2_ruleAt
  refine s_iloadn (j := 1) dX2_ruleAt_0 rfl ?_
  refine s_iconst (v := 0) dX2_ruleAt_1 (by decide) ?_
  refine s_aloadn (j := 0) dX2_ruleAt_2 rfl ?_
  refine s_getR (k := 1) cls_3 (by decide) rfl dX2_ruleAt_3 w_100 rfl (fun x1 => ?_)
  refine s_cFI (rest := [.inl 0, .inl v1]) (met_Jx4a65c_size_8abf5 l x1) cls_0 mth_Jx4a65c_size_8abf5 face_size rfl dX2_ruleAt_6 w_813 ⟨Nat.le_of_ble_eq_true rfl, Nat.le_of_ble_eq_true rfl⟩ (Nat.le_of_ble_eq_true rfl) rfl (fun x2 => ?_)
  refine s_iconst (v := 1) dX2_ruleAt_11 (by decide) ?_
  refine s_isub dX2_ruleAt_12 ?_
  refine s_cSIN (rest := []) (met_X11_isIn l v1 0 (x2 - 1)) mth_X11_isIn rfl dX2_ruleAt_13 w_1040 w_505 ⟨Nat.le_of_ble_eq_true rfl, Nat.le_of_ble_eq_true rfl⟩ (Nat.le_of_ble_eq_true rfl) rfl (fun x3 => ?_)
  refine s_if_eq (tgt := 35) dX2_ruleAt_16 (by decide) ?_ ?_
  · refine s_null dX2_ruleAt_35 ?_
    exact s_aret dX2_ruleAt_36 rfl (Or.inl ⟨_, rfl⟩)
  · refine s_aloadn (j := 0) dX2_ruleAt_19 rfl ?_
    refine s_getR (k := 1) cls_3 (by decide) rfl dX2_ruleAt_20 w_100 rfl (fun x4 => ?_)
    refine s_iloadn (j := 1) dX2_ruleAt_23 rfl ?_
    refine s_cFR (rest := []) (met_Jx4a65c_get_915e3 l x4 v1) cls_0 mth_Jx4a65c_get_915e3 face_get rfl dX2_ruleAt_24 w_917 ⟨Nat.le_of_ble_eq_true rfl, Nat.le_of_ble_eq_true rfl⟩ (Nat.le_of_ble_eq_true rfl) rfl (fun x5 => ?_)
    refine s_cast cls_6 dX2_ruleAt_29 w_941 ?_
    refine s_goto (tgt := 36) dX2_ruleAt_32 (by decide) ?_
    exact s_aret dX2_ruleAt_36 rfl (Or.inl ⟨_, rfl⟩)
theorem met_X2_ruleAt (l : Launch) (v0 : Option Nat) (v1 : Int32) : zMet l yX2_ruleAt cX2_ruleAt 2 (some (.object "SpellScribe$Rule")) 3 64 [.inr (.inr v0), .inl v1] zcR (p_X2_ruleAt v0 v1) :=
  zMet.of (by decide +kernel) (Nat.le_of_ble_eq_true rfl) rfl (sim_X2_ruleAt l v0 v1)
def p_X10_count (v0 : Option Nat) : ZM Int32 :=
  z_b (z_gI 11 3 v0) fun x1 => z_rt x1
abbrev M_X10_count (l : Launch) : ZMe := (l, "SpellScribe$WordBook", cX10_count, 1, 0, 0, (some .int), "count", [])
set_option maxRecDepth 20000 in
theorem sim_X10_count (l : Launch) (v0 : Option Nat) : Sim (M_X10_count l) (zFin zcI) 0 [(0, .inr (.inr v0))] [] (p_X10_count v0) := by
  unfold p_X10_count
  refine s_aloadn (j := 0) dX10_count_0 rfl ?_
  refine s_getI (k := 3) cls_11 (by decide) rfl dX10_count_1 w_89 rfl (fun x1 => ?_)
  exact s_iret dX10_count_4 rfl
theorem met_X10_count (l : Launch) (v0 : Option Nat) : zMet l yX10_count cX10_count 1 (some .int) 0 0 [.inr (.inr v0)] zcI (p_X10_count v0) :=
  zMet.of (by decide +kernel) (Nat.le_of_ble_eq_true rfl) rfl (sim_X10_count l v0)
def p_X2_madeCount (v0 : Option Nat) : ZM Int32 :=
  z_b (z_gR 3 2 v0) fun x1 => z_b (z_vr 11 x1 (p_X10_count x1)) fun x2 => z_rt x2
abbrev M_X2_madeCount (l : Launch) : ZMe := (l, "SpellScribe$Lexicon", cX2_madeCount, 1, 1, 20, (some .int), "madeCount", [])
set_option maxRecDepth 20000 in
theorem sim_X2_madeCount (l : Launch) (v0 : Option Nat) : Sim (M_X2_madeCount l) (zFin zcI) 0 [(0, .inr (.inr v0))] [] (p_X2_madeCount v0) := by
  unfold p_X2_madeCount
  refine s_aloadn (j := 0) dX2_madeCount_0 rfl ?_
  refine s_getR (k := 2) cls_3 (by decide) rfl dX2_madeCount_1 w_101 rfl (fun x1 => ?_)
  refine s_cVI (rest := []) (met_X10_count l x1) cls_11 mth_X10_count rfl dX2_madeCount_4 w_701 w_549 w_550 ⟨Nat.le_of_ble_eq_true rfl, Nat.le_of_ble_eq_true rfl⟩ (Nat.le_of_ble_eq_true rfl) rfl (fun x2 => ?_)
  exact s_iret dX2_madeCount_7 rfl
theorem met_X2_madeCount (l : Launch) (v0 : Option Nat) : zMet l yX2_madeCount cX2_madeCount 1 (some .int) 1 20 [.inr (.inr v0)] zcI (p_X2_madeCount v0) :=
  zMet.of (by decide +kernel) (Nat.le_of_ble_eq_true rfl) rfl (sim_X2_madeCount l v0)
def p_X2_ownCount (v0 : Option Nat) : ZM Int32 :=
  z_b (z_gR 3 3 v0) fun x1 => z_b (z_vr 11 x1 (p_X10_count x1)) fun x2 => z_rt x2
abbrev M_X2_ownCount (l : Launch) : ZMe := (l, "SpellScribe$Lexicon", cX2_ownCount, 1, 1, 20, (some .int), "ownCount", [])
set_option maxRecDepth 20000 in
theorem sim_X2_ownCount (l : Launch) (v0 : Option Nat) : Sim (M_X2_ownCount l) (zFin zcI) 0 [(0, .inr (.inr v0))] [] (p_X2_ownCount v0) := by
  unfold p_X2_ownCount
  refine s_aloadn (j := 0) dX2_ownCount_0 rfl ?_
  refine s_getR (k := 3) cls_3 (by decide) rfl dX2_ownCount_1 w_102 rfl (fun x1 => ?_)
  refine s_cVI (rest := []) (met_X10_count l x1) cls_11 mth_X10_count rfl dX2_ownCount_4 w_701 w_549 w_550 ⟨Nat.le_of_ble_eq_true rfl, Nat.le_of_ble_eq_true rfl⟩ (Nat.le_of_ble_eq_true rfl) rfl (fun x2 => ?_)
  exact s_iret dX2_ownCount_7 rfl
theorem met_X2_ownCount (l : Launch) (v0 : Option Nat) : zMet l yX2_ownCount cX2_ownCount 1 (some .int) 1 20 [.inr (.inr v0)] zcI (p_X2_ownCount v0) :=
  zMet.of (by decide +kernel) (Nat.le_of_ble_eq_true rfl) rfl (sim_X2_ownCount l v0)
def p_X2_barredCount (v0 : Option Nat) : ZM Int32 :=
  z_b (z_gR 3 4 v0) fun x1 => z_b (z_vr 11 x1 (p_X10_count x1)) fun x2 => z_rt x2
abbrev M_X2_barredCount (l : Launch) : ZMe := (l, "SpellScribe$Lexicon", cX2_barredCount, 1, 1, 20, (some .int), "barredCount", [])
set_option maxRecDepth 20000 in
theorem sim_X2_barredCount (l : Launch) (v0 : Option Nat) : Sim (M_X2_barredCount l) (zFin zcI) 0 [(0, .inr (.inr v0))] [] (p_X2_barredCount v0) := by
  unfold p_X2_barredCount
  refine s_aloadn (j := 0) dX2_barredCount_0 rfl ?_
  refine s_getR (k := 4) cls_3 (by decide) rfl dX2_barredCount_1 w_103 rfl (fun x1 => ?_)
  refine s_cVI (rest := []) (met_X10_count l x1) cls_11 mth_X10_count rfl dX2_barredCount_4 w_701 w_549 w_550 ⟨Nat.le_of_ble_eq_true rfl, Nat.le_of_ble_eq_true rfl⟩ (Nat.le_of_ble_eq_true rfl) rfl (fun x2 => ?_)
  exact s_iret dX2_barredCount_7 rfl
theorem met_X2_barredCount (l : Launch) (v0 : Option Nat) : zMet l yX2_barredCount cX2_barredCount 1 (some .int) 1 20 [.inr (.inr v0)] zcI (p_X2_barredCount v0) :=
  zMet.of (by decide +kernel) (Nat.le_of_ble_eq_true rfl) rfl (sim_X2_barredCount l v0)
def p_X10_placeOf_b53 (r10 : Option Nat → Int32 → Int32 → Int32 → Int32 → ZM Int32) (v0 : Option Nat) (v1 : Int32) (v2 : Int32) (v3 : Int32) (v4 : Int32) : ZM Int32 :=
  z_n (v4 + 1 : Int32) fun y1 => r10 v0 v1 v2 v3 y1
def p_X10_placeOf_c10 (r10 : Option Nat → Int32 → Int32 → Int32 → Int32 → ZM Int32) (v0 : Option Nat) (v1 : Int32) (v2 : Int32) (v3 : Int32) (v4 : Int32) : ZM Int32 :=
  if 16 ≤ v4 then (z_rt v2)
  else (if v3 ≤ v2 then (z_rt v2)
  else (z_n (((v2 + v3) / 2) : Int32) fun y2 => z_b (z_gR 11 0 v0) fun x3 => z_b (z_vr 5 x3 (p_X4_get x3 y2)) fun x4 => if v1 ≤ x4 then (p_X10_placeOf_b53 r10 v0 v1 v2 y2 v4)
  else (z_n ((y2 + 1) : Int32) fun y5 => p_X10_placeOf_b53 r10 v0 v1 y5 v3 v4)))
def p_X10_placeOf_l10 : Nat → Option Nat → Int32 → Int32 → Int32 → Int32 → ZM Int32
  | 0, _, _, _, _, _ => z_fl
  | n + 1, v0, v1, v2, v3, v4 => p_X10_placeOf_c10 (p_X10_placeOf_l10 n) v0 v1 v2 v3 v4
def p_X10_placeOf (v0 : Option Nat) (v1 : Int32) : ZM Int32 :=
  z_b (z_gI 11 3 v0) fun x6 => p_X10_placeOf_l10 zFuel v0 v1 0 x6 0
abbrev M_X10_placeOf (l : Launch) : ZMe := (l, "SpellScribe$WordBook", cX10_placeOf, 6, 1, 21, (some .int), "placeOf", [])
set_option maxRecDepth 20000 in
theorem sim_X10_placeOf_b53 (l : Launch) (r10 : Option Nat → Int32 → Int32 → Int32 → Int32 → ZM Int32) (hr10 : ∀ (v0 : Option Nat) (v1 : Int32) (v2 : Int32) (v3 : Int32) (v4 : Int32), Sim (M_X10_placeOf l) (zFin zcI) 10 [(0, .inr (.inr v0)), (1, .inl v1), (2, .inl v2), (3, .inl v3), (4, .inl v4)] [] (r10 v0 v1 v2 v3 v4)) (v0 : Option Nat) (v1 : Int32) (v2 : Int32) (v3 : Int32) (v4 : Int32) : Sim (M_X10_placeOf l) (zFin zcI) 53 [(0, .inr (.inr v0)), (1, .inl v1), (2, .inl v2), (3, .inl v3), (4, .inl v4)] [] (p_X10_placeOf_b53 r10 v0 v1 v2 v3 v4) := by
  unfold p_X10_placeOf_b53
  refine s_n0 (fun y1 hy1 => ?_)
  refine s_iinc (j := 4) (v := y1) (d := 1) (lv' := [(4, .inl y1), (0, .inr (.inr v0)), (1, .inl v1), (2, .inl v2), (3, .inl v3)]) dX10_placeOf_53 rfl (by decide) hy1 (Nat.le_of_ble_eq_true rfl) rfl ?_
  refine s_goto (tgt := 10) dX10_placeOf_56 (by decide) ?_
  exact Sim.sub [1, 2, 3, 4, 0] rfl (hr10 v0 v1 v2 v3 y1)
set_option maxRecDepth 20000 in
theorem sim_X10_placeOf_c10 (l : Launch) (r10 : Option Nat → Int32 → Int32 → Int32 → Int32 → ZM Int32) (hr10 : ∀ (v0 : Option Nat) (v1 : Int32) (v2 : Int32) (v3 : Int32) (v4 : Int32), Sim (M_X10_placeOf l) (zFin zcI) 10 [(0, .inr (.inr v0)), (1, .inl v1), (2, .inl v2), (3, .inl v3), (4, .inl v4)] [] (r10 v0 v1 v2 v3 v4)) (v0 : Option Nat) (v1 : Int32) (v2 : Int32) (v3 : Int32) (v4 : Int32) : Sim (M_X10_placeOf l) (zFin zcI) 10 [(0, .inr (.inr v0)), (1, .inl v1), (2, .inl v2), (3, .inl v3), (4, .inl v4)] [] (p_X10_placeOf_c10 r10 v0 v1 v2 v3 v4) := by
  unfold p_X10_placeOf_c10
  refine s_iload (j := 4) dX10_placeOf_10 rfl ?_
  refine s_bipush (v := 16) dX10_placeOf_12 (by decide) ?_
  refine s_icmp_ge (tgt := 59) dX10_placeOf_14 (by decide) ?_ ?_
  · refine s_iloadn (j := 2) dX10_placeOf_59 rfl ?_
    exact s_iret dX10_placeOf_60 rfl
  · refine s_iloadn (j := 2) dX10_placeOf_17 rfl ?_
    refine s_iloadn (j := 3) dX10_placeOf_18 rfl ?_
    refine s_icmp_ge (tgt := 59) dX10_placeOf_19 (by decide) ?_ ?_
    · refine s_iloadn (j := 2) dX10_placeOf_59 rfl ?_
      exact s_iret dX10_placeOf_60 rfl
    · refine s_iloadn (j := 2) dX10_placeOf_22 rfl ?_
      refine s_iloadn (j := 3) dX10_placeOf_23 rfl ?_
      refine s_iadd dX10_placeOf_24 ?_
      refine s_iconst (v := 2) dX10_placeOf_25 (by decide) ?_
      refine s_idiv dX10_placeOf_26 (by decide) ?_
      refine s_nI (fun y2 => ?_)
      refine s_istore (lv' := [(5, .inl y2), (0, .inr (.inr v0)), (1, .inl v1), (2, .inl v2), (3, .inl v3), (4, .inl v4)]) dX10_placeOf_27 (Nat.le_of_ble_eq_true rfl) rfl ?_
      refine s_aloadn (j := 1) dX10_placeOf_29 rfl ?_
      refine s_getR (k := 0) cls_11 (by decide) rfl dX10_placeOf_30 w_86 rfl (fun x3 => ?_)
      refine s_iload (j := 0) dX10_placeOf_33 rfl ?_
      refine s_cVI (rest := []) (met_X4_get l x3 y2) cls_5 mth_X4_get rfl dX10_placeOf_35 w_386 w_355 w_356 ⟨Nat.le_of_ble_eq_true rfl, Nat.le_of_ble_eq_true rfl⟩ (Nat.le_of_ble_eq_true rfl) rfl (fun x4 => ?_)
      refine s_iloadn (j := 2) dX10_placeOf_38 rfl ?_
      refine s_icmp_ge (tgt := 50) dX10_placeOf_39 (by decide) ?_ ?_
      · refine s_iload (j := 0) dX10_placeOf_50 rfl ?_
        refine s_istoren (lv' := [(3, .inl y2), (5, .inl y2), (0, .inr (.inr v0)), (1, .inl v1), (2, .inl v2), (4, .inl v4)]) dX10_placeOf_52 (Nat.le_of_ble_eq_true rfl) rfl ?_
        exact Sim.sub [2, 3, 4, 0, 5] rfl (sim_X10_placeOf_b53 l r10 hr10 v0 v1 v2 y2 v4)
      · refine s_iload (j := 0) dX10_placeOf_42 rfl ?_
        refine s_iconst (v := 1) dX10_placeOf_44 (by decide) ?_
        refine s_iadd dX10_placeOf_45 ?_
        refine s_nI (fun y5 => ?_)
        refine s_istoren (lv' := [(2, .inl y5), (5, .inl y2), (0, .inr (.inr v0)), (1, .inl v1), (3, .inl v3), (4, .inl v4)]) dX10_placeOf_46 (Nat.le_of_ble_eq_true rfl) rfl ?_
        refine s_goto (tgt := 53) dX10_placeOf_47 (by decide) ?_
        exact Sim.sub [2, 3, 0, 4, 5] rfl (sim_X10_placeOf_b53 l r10 hr10 v0 v1 y5 v3 v4)
theorem sim_X10_placeOf_l10 (l : Launch) : ∀ (n : Nat) (v0 : Option Nat) (v1 : Int32) (v2 : Int32) (v3 : Int32) (v4 : Int32), Sim (M_X10_placeOf l) (zFin zcI) 10 [(0, .inr (.inr v0)), (1, .inl v1), (2, .inl v2), (3, .inl v3), (4, .inl v4)] [] (p_X10_placeOf_l10 n v0 v1 v2 v3 v4)
  | 0, _, _, _, _, _ => s_fl
  | n + 1, v0, v1, v2, v3, v4 => sim_X10_placeOf_c10 l (p_X10_placeOf_l10 n) (sim_X10_placeOf_l10 l n) v0 v1 v2 v3 v4
set_option maxRecDepth 20000 in
theorem sim_X10_placeOf (l : Launch) (v0 : Option Nat) (v1 : Int32) : Sim (M_X10_placeOf l) (zFin zcI) 0 [(0, .inr (.inr v0)), (1, .inl v1)] [] (p_X10_placeOf v0 v1) := by
  unfold p_X10_placeOf
  refine s_iconst (v := 0) dX10_placeOf_0 (by decide) ?_
  refine s_istoren (lv' := [(2, .inl 0), (0, .inr (.inr v0)), (1, .inl v1)]) dX10_placeOf_1 (Nat.le_of_ble_eq_true rfl) rfl ?_
  refine s_aloadn (j := 1) dX10_placeOf_2 rfl ?_
  refine s_getI (k := 3) cls_11 (by decide) rfl dX10_placeOf_3 w_89 rfl (fun x6 => ?_)
  refine s_istoren (lv' := [(3, .inl x6), (2, .inl 0), (0, .inr (.inr v0)), (1, .inl v1)]) dX10_placeOf_6 (Nat.le_of_ble_eq_true rfl) rfl ?_
  refine s_iconst (v := 0) dX10_placeOf_7 (by decide) ?_
  refine s_istore (lv' := [(4, .inl 0), (3, .inl x6), (2, .inl 0), (0, .inr (.inr v0)), (1, .inl v1)]) dX10_placeOf_8 (Nat.le_of_ble_eq_true rfl) rfl ?_
  exact Sim.sub [3, 4, 2, 1, 0] rfl (sim_X10_placeOf_l10 l zFuel v0 v1 0 x6 0)
theorem met_X10_placeOf (l : Launch) (v0 : Option Nat) (v1 : Int32) : zMet l yX10_placeOf cX10_placeOf 6 (some .int) 1 21 [.inr (.inr v0), .inl v1] zcI (p_X10_placeOf v0 v1) :=
  zMet.of (by decide +kernel) (Nat.le_of_ble_eq_true rfl) rfl (sim_X10_placeOf l v0 v1)
def p_X10_valueOf (v0 : Option Nat) (v1 : Int32) : ZM Int32 :=
  z_b (z_vr 11 v0 (p_X10_placeOf v0 v1)) fun x1 => z_b (z_gI 11 3 v0) fun x2 => if x2 ≤ x1 then (z_rt 0)
  else (z_b (z_gR 11 0 v0) fun x3 => z_b (z_vr 5 x3 (p_X4_get x3 x1)) fun x4 => if ¬ x4 = v1 then (z_rt 0)
  else (z_b (z_gR 11 1 v0) fun x5 => z_b (z_vr 5 x5 (p_X4_get x5 x1)) fun x6 => z_rt x6))
abbrev M_X10_valueOf (l : Launch) : ZMe := (l, "SpellScribe$WordBook", cX10_valueOf, 3, 2, 46, (some .int), "valueOf", [])
set_option maxRecDepth 20000 in
theorem sim_X10_valueOf (l : Launch) (v0 : Option Nat) (v1 : Int32) : Sim (M_X10_valueOf l) (zFin zcI) 0 [(0, .inr (.inr v0)), (1, .inl v1)] [] (p_X10_valueOf v0 v1) := by
  unfold p_X10_valueOf
  refine s_aloadn (j := 0) dX10_valueOf_0 rfl ?_
  refine s_iloadn (j := 1) dX10_valueOf_1 rfl ?_
  refine s_cVI (rest := []) (met_X10_placeOf l v0 v1) cls_11 mth_X10_placeOf rfl dX10_valueOf_2 w_382 w_384 wp_2 ⟨Nat.le_of_ble_eq_true rfl, Nat.le_of_ble_eq_true rfl⟩ (Nat.le_of_ble_eq_true rfl) rfl (fun x1 => ?_)
  refine s_istoren (lv' := [(2, .inl x1), (0, .inr (.inr v0)), (1, .inl v1)]) dX10_valueOf_5 (Nat.le_of_ble_eq_true rfl) rfl ?_
  refine s_iloadn (j := 0) dX10_valueOf_6 rfl ?_
  refine s_aloadn (j := 1) dX10_valueOf_7 rfl ?_
  refine s_getI (k := 3) cls_11 (by decide) rfl dX10_valueOf_8 w_89 rfl (fun x2 => ?_)
  refine s_icmp_ge (tgt := 37) dX10_valueOf_11 (by decide) ?_ ?_
  · refine s_iconst (v := 0) dX10_valueOf_37 (by decide) ?_
    exact s_iret dX10_valueOf_38 rfl
  · refine s_aloadn (j := 1) dX10_valueOf_14 rfl ?_
    refine s_getR (k := 0) cls_11 (by decide) rfl dX10_valueOf_15 w_86 rfl (fun x3 => ?_)
    refine s_iloadn (j := 0) dX10_valueOf_18 rfl ?_
    refine s_cVI (rest := []) (met_X4_get l x3 x1) cls_5 mth_X4_get rfl dX10_valueOf_19 w_386 w_355 w_356 ⟨Nat.le_of_ble_eq_true rfl, Nat.le_of_ble_eq_true rfl⟩ (Nat.le_of_ble_eq_true rfl) rfl (fun x4 => ?_)
    refine s_iloadn (j := 2) dX10_valueOf_22 rfl ?_
    refine s_icmp_ne (tgt := 37) dX10_valueOf_23 (by decide) ?_ ?_
    · refine s_iconst (v := 0) dX10_valueOf_37 (by decide) ?_
      exact s_iret dX10_valueOf_38 rfl
    · refine s_aloadn (j := 1) dX10_valueOf_26 rfl ?_
      refine s_getR (k := 1) cls_11 (by decide) rfl dX10_valueOf_27 w_87 rfl (fun x5 => ?_)
      refine s_iloadn (j := 0) dX10_valueOf_30 rfl ?_
      refine s_cVI (rest := []) (met_X4_get l x5 x1) cls_5 mth_X4_get rfl dX10_valueOf_31 w_386 w_355 w_356 ⟨Nat.le_of_ble_eq_true rfl, Nat.le_of_ble_eq_true rfl⟩ (Nat.le_of_ble_eq_true rfl) rfl (fun x6 => ?_)
      refine s_goto (tgt := 38) dX10_valueOf_34 (by decide) ?_
      exact s_iret dX10_valueOf_38 rfl
theorem met_X10_valueOf (l : Launch) (v0 : Option Nat) (v1 : Int32) : zMet l yX10_valueOf cX10_valueOf 3 (some .int) 2 46 [.inr (.inr v0), .inl v1] zcI (p_X10_valueOf v0 v1) :=
  zMet.of (by decide +kernel) (Nat.le_of_ble_eq_true rfl) rfl (sim_X10_valueOf l v0 v1)
def p_X2_isBarred (v0 : Option Nat) (v1 : Int32) : ZM Int32 :=
  z_b (z_gR 3 4 v0) fun x1 => z_b (z_vr 11 x1 (p_X10_valueOf x1 v1)) fun x2 => if x2 = 0 then (z_rz 0)
  else (z_rz 1)
abbrev M_X2_isBarred (l : Launch) : ZMe := (l, "SpellScribe$Lexicon", cX2_isBarred, 2, 3, 68, (some .boolean), "isBarred", [])
set_option maxRecDepth 20000 in
theorem sim_X2_isBarred (l : Launch) (v0 : Option Nat) (v1 : Int32) : Sim (M_X2_isBarred l) (zFin zcI) 0 [(0, .inr (.inr v0)), (1, .inl v1)] [] (p_X2_isBarred v0 v1) := by
  unfold p_X2_isBarred
  refine s_aloadn (j := 0) dX2_isBarred_0 rfl ?_
  refine s_getR (k := 4) cls_3 (by decide) rfl dX2_isBarred_1 w_103 rfl (fun x1 => ?_)
  refine s_iloadn (j := 1) dX2_isBarred_4 rfl ?_
  refine s_cVI (rest := []) (met_X10_valueOf l x1 v1) cls_11 mth_X10_valueOf rfl dX2_isBarred_5 w_378 w_379 w_380 ⟨Nat.le_of_ble_eq_true rfl, Nat.le_of_ble_eq_true rfl⟩ (Nat.le_of_ble_eq_true rfl) rfl (fun x2 => ?_)
  refine s_if_eq (tgt := 15) dX2_isBarred_8 (by decide) ?_ ?_
  · refine s_iconst (v := 0) dX2_isBarred_15 (by decide) ?_
    exact s_zret dX2_isBarred_16 rfl
  · refine s_iconst (v := 1) dX2_isBarred_11 (by decide) ?_
    refine s_goto (tgt := 16) dX2_isBarred_12 (by decide) ?_
    exact s_zret dX2_isBarred_16 rfl
theorem met_X2_isBarred (l : Launch) (v0 : Option Nat) (v1 : Int32) : zMet l yX2_isBarred cX2_isBarred 2 (some .boolean) 3 68 [.inr (.inr v0), .inl v1] zcI (p_X2_isBarred v0 v1) :=
  zMet.of (by decide +kernel) (Nat.le_of_ble_eq_true rfl) rfl (sim_X2_isBarred l v0 v1)
def p_X2_hasRoomForOwn (v0 : Option Nat) (v1 : Int32) : ZM Int32 :=
  z_b (z_gR 3 3 v0) fun x1 => z_b (z_vr 11 x1 (p_X10_valueOf x1 v1)) fun x2 => if ¬ x2 = 0 then (z_rz 1)
  else (z_b (z_gR 3 3 v0) fun x3 => z_b (z_vr 11 x3 (p_X10_count x3)) fun x4 => if 10 ≤ x4 then (z_rz 0)
  else (z_rz 1))
abbrev M_X2_hasRoomForOwn (l : Launch) : ZMe := (l, "SpellScribe$Lexicon", cX2_hasRoomForOwn, 2, 3, 68, (some .boolean), "hasRoomForOwn", [])
set_option maxRecDepth 20000 in
theorem sim_X2_hasRoomForOwn (l : Launch) (v0 : Option Nat) (v1 : Int32) : Sim (M_X2_hasRoomForOwn l) (zFin zcI) 0 [(0, .inr (.inr v0)), (1, .inl v1)] [] (p_X2_hasRoomForOwn v0 v1) := by
  unfold p_X2_hasRoomForOwn
  refine s_aloadn (j := 0) dX2_hasRoomForOwn_0 rfl ?_
  refine s_getR (k := 3) cls_3 (by decide) rfl dX2_hasRoomForOwn_1 w_102 rfl (fun x1 => ?_)
  refine s_iloadn (j := 1) dX2_hasRoomForOwn_4 rfl ?_
  refine s_cVI (rest := []) (met_X10_valueOf l x1 v1) cls_11 mth_X10_valueOf rfl dX2_hasRoomForOwn_5 w_378 w_379 w_380 ⟨Nat.le_of_ble_eq_true rfl, Nat.le_of_ble_eq_true rfl⟩ (Nat.le_of_ble_eq_true rfl) rfl (fun x2 => ?_)
  refine s_if_ne (tgt := 23) dX2_hasRoomForOwn_8 (by decide) ?_ ?_
  · refine s_iconst (v := 1) dX2_hasRoomForOwn_23 (by decide) ?_
    refine s_goto (tgt := 28) dX2_hasRoomForOwn_24 (by decide) ?_
    exact s_zret dX2_hasRoomForOwn_28 rfl
  · refine s_aloadn (j := 0) dX2_hasRoomForOwn_11 rfl ?_
    refine s_getR (k := 3) cls_3 (by decide) rfl dX2_hasRoomForOwn_12 w_102 rfl (fun x3 => ?_)
    refine s_cVI (rest := []) (met_X10_count l x3) cls_11 mth_X10_count rfl dX2_hasRoomForOwn_15 w_701 w_549 w_550 ⟨Nat.le_of_ble_eq_true rfl, Nat.le_of_ble_eq_true rfl⟩ (Nat.le_of_ble_eq_true rfl) rfl (fun x4 => ?_)
    refine s_bipush (v := 10) dX2_hasRoomForOwn_18 (by decide) ?_
    refine s_icmp_ge (tgt := 27) dX2_hasRoomForOwn_20 (by decide) ?_ ?_
    · refine s_iconst (v := 0) dX2_hasRoomForOwn_27 (by decide) ?_
      exact s_zret dX2_hasRoomForOwn_28 rfl
    · refine s_iconst (v := 1) dX2_hasRoomForOwn_23 (by decide) ?_
      refine s_goto (tgt := 28) dX2_hasRoomForOwn_24 (by decide) ?_
      exact s_zret dX2_hasRoomForOwn_28 rfl
theorem met_X2_hasRoomForOwn (l : Launch) (v0 : Option Nat) (v1 : Int32) : zMet l yX2_hasRoomForOwn cX2_hasRoomForOwn 2 (some .boolean) 3 68 [.inr (.inr v0), .inl v1] zcI (p_X2_hasRoomForOwn v0 v1) :=
  zMet.of (by decide +kernel) (Nat.le_of_ble_eq_true rfl) rfl (sim_X2_hasRoomForOwn l v0 v1)
def p_X2_hasRoomForBarred (v0 : Option Nat) (v1 : Int32) : ZM Int32 :=
  z_b (z_gR 3 4 v0) fun x1 => z_b (z_vr 11 x1 (p_X10_valueOf x1 v1)) fun x2 => if ¬ x2 = 0 then (z_rz 1)
  else (z_b (z_gR 3 4 v0) fun x3 => z_b (z_vr 11 x3 (p_X10_count x3)) fun x4 => if 10 ≤ x4 then (z_rz 0)
  else (z_rz 1))
abbrev M_X2_hasRoomForBarred (l : Launch) : ZMe := (l, "SpellScribe$Lexicon", cX2_hasRoomForBarred, 2, 3, 68, (some .boolean), "hasRoomForBarred", [])
set_option maxRecDepth 20000 in
theorem sim_X2_hasRoomForBarred (l : Launch) (v0 : Option Nat) (v1 : Int32) : Sim (M_X2_hasRoomForBarred l) (zFin zcI) 0 [(0, .inr (.inr v0)), (1, .inl v1)] [] (p_X2_hasRoomForBarred v0 v1) := by
  unfold p_X2_hasRoomForBarred
  refine s_aloadn (j := 0) dX2_hasRoomForBarred_0 rfl ?_
  refine s_getR (k := 4) cls_3 (by decide) rfl dX2_hasRoomForBarred_1 w_103 rfl (fun x1 => ?_)
  refine s_iloadn (j := 1) dX2_hasRoomForBarred_4 rfl ?_
  refine s_cVI (rest := []) (met_X10_valueOf l x1 v1) cls_11 mth_X10_valueOf rfl dX2_hasRoomForBarred_5 w_378 w_379 w_380 ⟨Nat.le_of_ble_eq_true rfl, Nat.le_of_ble_eq_true rfl⟩ (Nat.le_of_ble_eq_true rfl) rfl (fun x2 => ?_)
  refine s_if_ne (tgt := 23) dX2_hasRoomForBarred_8 (by decide) ?_ ?_
  · refine s_iconst (v := 1) dX2_hasRoomForBarred_23 (by decide) ?_
    refine s_goto (tgt := 28) dX2_hasRoomForBarred_24 (by decide) ?_
    exact s_zret dX2_hasRoomForBarred_28 rfl
  · refine s_aloadn (j := 0) dX2_hasRoomForBarred_11 rfl ?_
    refine s_getR (k := 4) cls_3 (by decide) rfl dX2_hasRoomForBarred_12 w_103 rfl (fun x3 => ?_)
    refine s_cVI (rest := []) (met_X10_count l x3) cls_11 mth_X10_count rfl dX2_hasRoomForBarred_15 w_701 w_549 w_550 ⟨Nat.le_of_ble_eq_true rfl, Nat.le_of_ble_eq_true rfl⟩ (Nat.le_of_ble_eq_true rfl) rfl (fun x4 => ?_)
    refine s_bipush (v := 10) dX2_hasRoomForBarred_18 (by decide) ?_
    refine s_icmp_ge (tgt := 27) dX2_hasRoomForBarred_20 (by decide) ?_ ?_
    · refine s_iconst (v := 0) dX2_hasRoomForBarred_27 (by decide) ?_
      exact s_zret dX2_hasRoomForBarred_28 rfl
    · refine s_iconst (v := 1) dX2_hasRoomForBarred_23 (by decide) ?_
      refine s_goto (tgt := 28) dX2_hasRoomForBarred_24 (by decide) ?_
      exact s_zret dX2_hasRoomForBarred_28 rfl
theorem met_X2_hasRoomForBarred (l : Launch) (v0 : Option Nat) (v1 : Int32) : zMet l yX2_hasRoomForBarred cX2_hasRoomForBarred 2 (some .boolean) 3 68 [.inr (.inr v0), .inl v1] zcI (p_X2_hasRoomForBarred v0 v1) :=
  zMet.of (by decide +kernel) (Nat.le_of_ble_eq_true rfl) rfl (sim_X2_hasRoomForBarred l v0 v1)
def p_X4_remove (v0 : Option Nat) (v1 : Int32) (v2 : Int32) : ZM Unit :=
  if v1 < 0 then (z_rt ())
  else (if v2 ≤ v1 then (z_rt ())
  else (z_b (z_gR 5 0 v0) fun x1 => z_b (z_aN x1) fun x2 => if x2 < v2 then (z_rt ())
  else (z_b (z_gR 5 0 v0) fun x3 => z_b (z_gR 5 0 v0) fun x4 => z_b (z_same x3 x4) fun _ => z_b (z_cp x3 (v1 + 1) v1 ((v2 - v1) - 1)) fun _ => z_rt ())))
abbrev M_X4_remove (l : Launch) : ZMe := (l, "SpellScribe$Row", cX4_remove, 3, 1, 40, none, "remove", [])
set_option maxRecDepth 20000 in
theorem sim_X4_remove (l : Launch) (v0 : Option Nat) (v1 : Int32) (v2 : Int32) : Sim (M_X4_remove l) (zFin zcV) 0 [(0, .inr (.inr v0)), (1, .inl v1), (2, .inl v2)] [] (p_X4_remove v0 v1 v2) := by
  unfold p_X4_remove
  refine s_iloadn (j := 1) dX4_remove_0 rfl ?_
  refine s_if_lt (tgt := 38) dX4_remove_1 (by decide) ?_ ?_
  · exact s_vret dX4_remove_38 rfl
  · refine s_iloadn (j := 1) dX4_remove_4 rfl ?_
    refine s_iloadn (j := 2) dX4_remove_5 rfl ?_
    refine s_icmp_ge (tgt := 38) dX4_remove_6 (by decide) ?_ ?_
    · exact s_vret dX4_remove_38 rfl
    · refine s_iloadn (j := 2) dX4_remove_9 rfl ?_
      refine s_aloadn (j := 0) dX4_remove_10 rfl ?_
      refine s_getR (k := 0) cls_5 (by decide) rfl dX4_remove_11 w_81 rfl (fun x1 => ?_)
      refine s_alen dX4_remove_14 (fun x2 => ?_)
      refine s_icmp_gt (tgt := 38) dX4_remove_15 (by decide) ?_ ?_
      · exact s_vret dX4_remove_38 rfl
      · refine s_aloadn (j := 0) dX4_remove_18 rfl ?_
        refine s_getR (k := 0) cls_5 (by decide) rfl dX4_remove_19 w_81 rfl (fun x3 => ?_)
        refine s_iloadn (j := 1) dX4_remove_22 rfl ?_
        refine s_iconst (v := 1) dX4_remove_23 (by decide) ?_
        refine s_iadd dX4_remove_24 ?_
        refine s_aloadn (j := 0) dX4_remove_25 rfl ?_
        refine s_getR (k := 0) cls_5 (by decide) rfl dX4_remove_26 w_81 rfl (fun x4 => ?_)
        refine s_iloadn (j := 1) dX4_remove_29 rfl ?_
        refine s_iloadn (j := 2) dX4_remove_30 rfl ?_
        refine s_iloadn (j := 1) dX4_remove_31 rfl ?_
        refine s_isub dX4_remove_32 ?_
        refine s_iconst (v := 1) dX4_remove_33 (by decide) ?_
        refine s_isub dX4_remove_34 ?_
        refine s_same (fun hq => ?_)
        subst hq
        refine s_copy dX4_remove_35 w_598 w_600 w_599 w_24 (Nat.le_of_ble_eq_true rfl) (Nat.le_of_ble_eq_true rfl) ?_
        exact s_vret dX4_remove_38 rfl
theorem met_X4_remove (l : Launch) (v0 : Option Nat) (v1 : Int32) (v2 : Int32) : zMet l yX4_remove cX4_remove 3 none 1 40 [.inr (.inr v0), .inl v1, .inl v2] zcV (p_X4_remove v0 v1 v2) :=
  zMet.of (by decide +kernel) (Nat.le_of_ble_eq_true rfl) rfl (sim_X4_remove l v0 v1 v2)
def p_X10_drop (v0 : Option Nat) (v1 : Int32) : ZM Unit :=
  z_b (z_vr 11 v0 (p_X10_placeOf v0 v1)) fun x1 => z_b (z_gI 11 3 v0) fun x2 => if x2 ≤ x1 then (z_rt ())
  else (z_b (z_gR 11 0 v0) fun x3 => z_b (z_vr 5 x3 (p_X4_get x3 x1)) fun x4 => if ¬ x4 = v1 then (z_rt ())
  else (z_b (z_gR 11 0 v0) fun x5 => z_b (z_gI 11 3 v0) fun x6 => z_b (z_vr 5 x5 (p_X4_remove x5 x1 x6)) fun _ => z_b (z_gR 11 1 v0) fun x7 => z_b (z_gI 11 3 v0) fun x8 => z_b (z_vr 5 x7 (p_X4_remove x7 x1 x8)) fun _ => z_b (z_gI 11 3 v0) fun x9 => z_b (z_pI 11 3 v0 (x9 - 1)) fun _ => z_rt ()))
abbrev M_X10_drop (l : Launch) : ZMe := (l, "SpellScribe$WordBook", cX10_drop, 3, 2, 62, none, "drop", [])
set_option maxRecDepth 20000 in
theorem sim_X10_drop (l : Launch) (v0 : Option Nat) (v1 : Int32) : Sim (M_X10_drop l) (zFin zcV) 0 [(0, .inr (.inr v0)), (1, .inl v1)] [] (p_X10_drop v0 v1) := by
  unfold p_X10_drop
  refine s_aloadn (j := 0) dX10_drop_0 rfl ?_
  refine s_iloadn (j := 1) dX10_drop_1 rfl ?_
  refine s_cVI (rest := []) (met_X10_placeOf l v0 v1) cls_11 mth_X10_placeOf rfl dX10_drop_2 w_382 w_384 wp_2 ⟨Nat.le_of_ble_eq_true rfl, Nat.le_of_ble_eq_true rfl⟩ (Nat.le_of_ble_eq_true rfl) rfl (fun x1 => ?_)
  refine s_istoren (lv' := [(2, .inl x1), (0, .inr (.inr v0)), (1, .inl v1)]) dX10_drop_5 (Nat.le_of_ble_eq_true rfl) rfl ?_
  refine s_iloadn (j := 0) dX10_drop_6 rfl ?_
  refine s_aloadn (j := 1) dX10_drop_7 rfl ?_
  refine s_getI (k := 3) cls_11 (by decide) rfl dX10_drop_8 w_89 rfl (fun x2 => ?_)
  refine s_icmp_ge (tgt := 60) dX10_drop_11 (by decide) ?_ ?_
  · exact s_vret dX10_drop_60 rfl
  · refine s_aloadn (j := 1) dX10_drop_14 rfl ?_
    refine s_getR (k := 0) cls_11 (by decide) rfl dX10_drop_15 w_86 rfl (fun x3 => ?_)
    refine s_iloadn (j := 0) dX10_drop_18 rfl ?_
    refine s_cVI (rest := []) (met_X4_get l x3 x1) cls_5 mth_X4_get rfl dX10_drop_19 w_386 w_355 w_356 ⟨Nat.le_of_ble_eq_true rfl, Nat.le_of_ble_eq_true rfl⟩ (Nat.le_of_ble_eq_true rfl) rfl (fun x4 => ?_)
    refine s_iloadn (j := 2) dX10_drop_22 rfl ?_
    refine s_icmp_ne (tgt := 60) dX10_drop_23 (by decide) ?_ ?_
    · exact s_vret dX10_drop_60 rfl
    · refine s_aloadn (j := 1) dX10_drop_26 rfl ?_
      refine s_getR (k := 0) cls_11 (by decide) rfl dX10_drop_27 w_86 rfl (fun x5 => ?_)
      refine s_iloadn (j := 0) dX10_drop_30 rfl ?_
      refine s_aloadn (j := 1) dX10_drop_31 rfl ?_
      refine s_getI (k := 3) cls_11 (by decide) rfl dX10_drop_32 w_89 rfl (fun x6 => ?_)
      refine s_cVV (rest := []) (met_X4_remove l x5 x1 x6) cls_5 mth_X4_remove rfl dX10_drop_35 w_1093 w_629 w_630 ⟨Nat.le_of_ble_eq_true rfl, Nat.le_of_ble_eq_true rfl⟩ (Nat.le_of_ble_eq_true rfl) rfl ?_
      refine s_aloadn (j := 1) dX10_drop_38 rfl ?_
      refine s_getR (k := 1) cls_11 (by decide) rfl dX10_drop_39 w_87 rfl (fun x7 => ?_)
      refine s_iloadn (j := 0) dX10_drop_42 rfl ?_
      refine s_aloadn (j := 1) dX10_drop_43 rfl ?_
      refine s_getI (k := 3) cls_11 (by decide) rfl dX10_drop_44 w_89 rfl (fun x8 => ?_)
      refine s_cVV (rest := []) (met_X4_remove l x7 x1 x8) cls_5 mth_X4_remove rfl dX10_drop_47 w_1093 w_629 w_630 ⟨Nat.le_of_ble_eq_true rfl, Nat.le_of_ble_eq_true rfl⟩ (Nat.le_of_ble_eq_true rfl) rfl ?_
      refine s_aloadn (j := 1) dX10_drop_50 rfl ?_
      refine s_dupR dX10_drop_51 ?_
      refine s_getI (k := 3) cls_11 (by decide) rfl dX10_drop_52 w_89 rfl (fun x9 => ?_)
      refine s_iconst (v := 1) dX10_drop_55 (by decide) ?_
      refine s_isub dX10_drop_56 ?_
      refine s_putI (k := 3) cls_11 (by decide) rfl rfl rfl dX10_drop_57 w_89 rfl ?_
      exact s_vret dX10_drop_60 rfl
theorem met_X10_drop (l : Launch) (v0 : Option Nat) (v1 : Int32) : zMet l yX10_drop cX10_drop 3 none 2 62 [.inr (.inr v0), .inl v1] zcV (p_X10_drop v0 v1) :=
  zMet.of (by decide +kernel) (Nat.le_of_ble_eq_true rfl) rfl (sim_X10_drop l v0 v1)
def p_X4_insert (v0 : Option Nat) (v1 : Int32) (v2 : Int32) (v3 : Int32) : ZM Unit :=
  if v1 < 0 then (z_rt ())
  else (if v3 < v1 then (z_rt ())
  else (z_b (z_gR 5 0 v0) fun x1 => z_b (z_aN x1) fun x2 => if x2 ≤ v3 then (z_rt ())
  else (z_b (z_gR 5 0 v0) fun x3 => z_b (z_gR 5 0 v0) fun x4 => z_b (z_same x3 x4) fun _ => z_b (z_cp x3 v1 (v1 + 1) (v3 - v1)) fun _ => z_b (z_gR 5 0 v0) fun x5 => z_b (z_sI x5 v1 v2) fun _ => z_rt ())))
abbrev M_X4_insert (l : Launch) : ZMe := (l, "SpellScribe$Row", cX4_insert, 4, 1, 40, none, "insert", [])
set_option maxRecDepth 20000 in
theorem sim_X4_insert (l : Launch) (v0 : Option Nat) (v1 : Int32) (v2 : Int32) (v3 : Int32) : Sim (M_X4_insert l) (zFin zcV) 0 [(0, .inr (.inr v0)), (1, .inl v1), (2, .inl v2), (3, .inl v3)] [] (p_X4_insert v0 v1 v2 v3) := by
  unfold p_X4_insert
  refine s_iloadn (j := 1) dX4_insert_0 rfl ?_
  refine s_if_lt (tgt := 43) dX4_insert_1 (by decide) ?_ ?_
  · exact s_vret dX4_insert_43 rfl
  · refine s_iloadn (j := 1) dX4_insert_4 rfl ?_
    refine s_iloadn (j := 3) dX4_insert_5 rfl ?_
    refine s_icmp_gt (tgt := 43) dX4_insert_6 (by decide) ?_ ?_
    · exact s_vret dX4_insert_43 rfl
    · refine s_iloadn (j := 3) dX4_insert_9 rfl ?_
      refine s_aloadn (j := 0) dX4_insert_10 rfl ?_
      refine s_getR (k := 0) cls_5 (by decide) rfl dX4_insert_11 w_81 rfl (fun x1 => ?_)
      refine s_alen dX4_insert_14 (fun x2 => ?_)
      refine s_icmp_ge (tgt := 43) dX4_insert_15 (by decide) ?_ ?_
      · exact s_vret dX4_insert_43 rfl
      · refine s_aloadn (j := 0) dX4_insert_18 rfl ?_
        refine s_getR (k := 0) cls_5 (by decide) rfl dX4_insert_19 w_81 rfl (fun x3 => ?_)
        refine s_iloadn (j := 1) dX4_insert_22 rfl ?_
        refine s_aloadn (j := 0) dX4_insert_23 rfl ?_
        refine s_getR (k := 0) cls_5 (by decide) rfl dX4_insert_24 w_81 rfl (fun x4 => ?_)
        refine s_iloadn (j := 1) dX4_insert_27 rfl ?_
        refine s_iconst (v := 1) dX4_insert_28 (by decide) ?_
        refine s_iadd dX4_insert_29 ?_
        refine s_iloadn (j := 3) dX4_insert_30 rfl ?_
        refine s_iloadn (j := 1) dX4_insert_31 rfl ?_
        refine s_isub dX4_insert_32 ?_
        refine s_same (fun hq => ?_)
        subst hq
        refine s_copy dX4_insert_33 w_598 w_600 w_599 w_24 (Nat.le_of_ble_eq_true rfl) (Nat.le_of_ble_eq_true rfl) ?_
        refine s_aloadn (j := 0) dX4_insert_36 rfl ?_
        refine s_getR (k := 0) cls_5 (by decide) rfl dX4_insert_37 w_81 rfl (fun x5 => ?_)
        refine s_iloadn (j := 1) dX4_insert_40 rfl ?_
        refine s_iloadn (j := 2) dX4_insert_41 rfl ?_
        refine s_iast dX4_insert_42 ?_
        exact s_vret dX4_insert_43 rfl
theorem met_X4_insert (l : Launch) (v0 : Option Nat) (v1 : Int32) (v2 : Int32) (v3 : Int32) : zMet l yX4_insert cX4_insert 4 none 1 40 [.inr (.inr v0), .inl v1, .inl v2, .inl v3] zcV (p_X4_insert v0 v1 v2 v3) :=
  zMet.of (by decide +kernel) (Nat.le_of_ble_eq_true rfl) rfl (sim_X4_insert l v0 v1 v2 v3)
def p_X10_store_b38 (v0 : Option Nat) (v1 : Int32) (v2 : Int32) (v3 : Int32) : ZM Unit :=
  z_b (z_gI 11 3 v0) fun x1 => z_b (z_gI 11 2 v0) fun x2 => if x2 ≤ x1 then (z_rt ())
  else (z_b (z_gR 11 0 v0) fun x3 => z_b (z_gI 11 3 v0) fun x4 => z_b (z_vr 5 x3 (p_X4_insert x3 v3 v1 x4)) fun _ => z_b (z_gR 11 1 v0) fun x5 => z_b (z_gI 11 3 v0) fun x6 => z_b (z_vr 5 x5 (p_X4_insert x5 v3 v2 x6)) fun _ => z_b (z_gI 11 3 v0) fun x7 => z_b (z_pI 11 3 v0 (x7 + 1)) fun _ => z_rt ())
def p_X10_store (v0 : Option Nat) (v1 : Int32) (v2 : Int32) : ZM Unit :=
  z_b (z_vr 11 v0 (p_X10_placeOf v0 v1)) fun x8 => z_b (z_gI 11 3 v0) fun x9 => if x9 ≤ x8 then (p_X10_store_b38 v0 v1 v2 x8)
  else (z_b (z_gR 11 0 v0) fun x10 => z_b (z_vr 5 x10 (p_X4_get x10 x8)) fun x11 => if ¬ x11 = v1 then (p_X10_store_b38 v0 v1 v2 x8)
  else (z_b (z_gR 11 1 v0) fun x12 => z_b (z_vr 5 x12 (p_X4_set x12 x8 v2)) fun _ => z_rt ()))
abbrev M_X10_store (l : Launch) : ZMe := (l, "SpellScribe$WordBook", cX10_store, 4, 2, 63, none, "store", [])
set_option maxRecDepth 20000 in
theorem sim_X10_store_b38 (l : Launch) (v0 : Option Nat) (v1 : Int32) (v2 : Int32) (v3 : Int32) : Sim (M_X10_store l) (zFin zcV) 38 [(0, .inr (.inr v0)), (1, .inl v1), (2, .inl v2), (3, .inl v3)] [] (p_X10_store_b38 v0 v1 v2 v3) := by
  unfold p_X10_store_b38
  refine s_aloadn (j := 0) dX10_store_38 rfl ?_
  refine s_getI (k := 3) cls_11 (by decide) rfl dX10_store_39 w_89 rfl (fun x1 => ?_)
  refine s_aloadn (j := 0) dX10_store_42 rfl ?_
  refine s_getI (k := 2) cls_11 (by decide) rfl dX10_store_43 w_88 rfl (fun x2 => ?_)
  refine s_icmp_ge (tgt := 85) dX10_store_46 (by decide) ?_ ?_
  · exact s_vret dX10_store_85 rfl
  · refine s_aloadn (j := 0) dX10_store_49 rfl ?_
    refine s_getR (k := 0) cls_11 (by decide) rfl dX10_store_50 w_86 rfl (fun x3 => ?_)
    refine s_iloadn (j := 3) dX10_store_53 rfl ?_
    refine s_iloadn (j := 1) dX10_store_54 rfl ?_
    refine s_aloadn (j := 0) dX10_store_55 rfl ?_
    refine s_getI (k := 3) cls_11 (by decide) rfl dX10_store_56 w_89 rfl (fun x4 => ?_)
    refine s_cVV (rest := []) (met_X4_insert l x3 v3 v1 x4) cls_5 mth_X4_insert rfl dX10_store_59 w_940 w_595 w_596 ⟨Nat.le_of_ble_eq_true rfl, Nat.le_of_ble_eq_true rfl⟩ (Nat.le_of_ble_eq_true rfl) rfl ?_
    refine s_aloadn (j := 0) dX10_store_62 rfl ?_
    refine s_getR (k := 1) cls_11 (by decide) rfl dX10_store_63 w_87 rfl (fun x5 => ?_)
    refine s_iloadn (j := 3) dX10_store_66 rfl ?_
    refine s_iloadn (j := 2) dX10_store_67 rfl ?_
    refine s_aloadn (j := 0) dX10_store_68 rfl ?_
    refine s_getI (k := 3) cls_11 (by decide) rfl dX10_store_69 w_89 rfl (fun x6 => ?_)
    refine s_cVV (rest := []) (met_X4_insert l x5 v3 v2 x6) cls_5 mth_X4_insert rfl dX10_store_72 w_940 w_595 w_596 ⟨Nat.le_of_ble_eq_true rfl, Nat.le_of_ble_eq_true rfl⟩ (Nat.le_of_ble_eq_true rfl) rfl ?_
    refine s_aloadn (j := 0) dX10_store_75 rfl ?_
    refine s_dupR dX10_store_76 ?_
    refine s_getI (k := 3) cls_11 (by decide) rfl dX10_store_77 w_89 rfl (fun x7 => ?_)
    refine s_iconst (v := 1) dX10_store_80 (by decide) ?_
    refine s_iadd dX10_store_81 ?_
    refine s_putI (k := 3) cls_11 (by decide) rfl rfl rfl dX10_store_82 w_89 rfl ?_
    exact s_vret dX10_store_85 rfl
set_option maxRecDepth 20000 in
theorem sim_X10_store (l : Launch) (v0 : Option Nat) (v1 : Int32) (v2 : Int32) : Sim (M_X10_store l) (zFin zcV) 0 [(0, .inr (.inr v0)), (1, .inl v1), (2, .inl v2)] [] (p_X10_store v0 v1 v2) := by
  unfold p_X10_store
  refine s_aloadn (j := 0) dX10_store_0 rfl ?_
  refine s_iloadn (j := 1) dX10_store_1 rfl ?_
  refine s_cVI (rest := []) (met_X10_placeOf l v0 v1) cls_11 mth_X10_placeOf rfl dX10_store_2 w_382 w_384 wp_2 ⟨Nat.le_of_ble_eq_true rfl, Nat.le_of_ble_eq_true rfl⟩ (Nat.le_of_ble_eq_true rfl) rfl (fun x8 => ?_)
  refine s_istoren (lv' := [(3, .inl x8), (0, .inr (.inr v0)), (1, .inl v1), (2, .inl v2)]) dX10_store_5 (Nat.le_of_ble_eq_true rfl) rfl ?_
  refine s_iloadn (j := 0) dX10_store_6 rfl ?_
  refine s_aloadn (j := 1) dX10_store_7 rfl ?_
  refine s_getI (k := 3) cls_11 (by decide) rfl dX10_store_8 w_89 rfl (fun x9 => ?_)
  refine s_icmp_ge (tgt := 38) dX10_store_11 (by decide) ?_ ?_
  · exact Sim.sub [1, 2, 3, 0] rfl (sim_X10_store_b38 l v0 v1 v2 x8)
  · refine s_aloadn (j := 1) dX10_store_14 rfl ?_
    refine s_getR (k := 0) cls_11 (by decide) rfl dX10_store_15 w_86 rfl (fun x10 => ?_)
    refine s_iloadn (j := 0) dX10_store_18 rfl ?_
    refine s_cVI (rest := []) (met_X4_get l x10 x8) cls_5 mth_X4_get rfl dX10_store_19 w_386 w_355 w_356 ⟨Nat.le_of_ble_eq_true rfl, Nat.le_of_ble_eq_true rfl⟩ (Nat.le_of_ble_eq_true rfl) rfl (fun x11 => ?_)
    refine s_iloadn (j := 2) dX10_store_22 rfl ?_
    refine s_icmp_ne (tgt := 38) dX10_store_23 (by decide) ?_ ?_
    · exact Sim.sub [1, 2, 3, 0] rfl (sim_X10_store_b38 l v0 v1 v2 x8)
    · refine s_aloadn (j := 1) dX10_store_26 rfl ?_
      refine s_getR (k := 1) cls_11 (by decide) rfl dX10_store_27 w_87 rfl (fun x12 => ?_)
      refine s_iloadn (j := 0) dX10_store_30 rfl ?_
      refine s_iloadn (j := 3) dX10_store_31 rfl ?_
      refine s_cVV (rest := []) (met_X4_set l x12 x8 v2) cls_5 mth_X4_set rfl dX10_store_32 w_939 w_347 w_348 ⟨Nat.le_of_ble_eq_true rfl, Nat.le_of_ble_eq_true rfl⟩ (Nat.le_of_ble_eq_true rfl) rfl ?_
      refine s_goto (tgt := 85) dX10_store_35 (by decide) ?_
      exact s_vret dX10_store_85 rfl
theorem met_X10_store (l : Launch) (v0 : Option Nat) (v1 : Int32) (v2 : Int32) : zMet l yX10_store cX10_store 4 none 2 63 [.inr (.inr v0), .inl v1, .inl v2] zcV (p_X10_store v0 v1 v2) :=
  zMet.of (by decide +kernel) (Nat.le_of_ble_eq_true rfl) rfl (sim_X10_store l v0 v1 v2)
def p_X10_clear (v0 : Option Nat) : ZM Unit :=
  z_b (z_pI 11 3 v0 0) fun _ => z_rt ()
abbrev M_X10_clear (l : Launch) : ZMe := (l, "SpellScribe$WordBook", cX10_clear, 1, 0, 0, none, "clear", [])
set_option maxRecDepth 20000 in
theorem sim_X10_clear (l : Launch) (v0 : Option Nat) : Sim (M_X10_clear l) (zFin zcV) 0 [(0, .inr (.inr v0))] [] (p_X10_clear v0) := by
  unfold p_X10_clear
  refine s_aloadn (j := 0) dX10_clear_0 rfl ?_
  refine s_iconst (v := 0) dX10_clear_1 (by decide) ?_
  refine s_putI (k := 3) cls_11 (by decide) rfl rfl rfl dX10_clear_2 w_89 rfl ?_
  exact s_vret dX10_clear_5 rfl
theorem met_X10_clear (l : Launch) (v0 : Option Nat) : zMet l yX10_clear cX10_clear 1 none 0 0 [.inr (.inr v0)] zcV (p_X10_clear v0) :=
  zMet.of (by decide +kernel) (Nat.le_of_ble_eq_true rfl) rfl (sim_X10_clear l v0)
def p_X10_wordOn (v0 : Option Nat) (v1 : Int32) : ZM Int32 :=
  z_b (z_gR 11 0 v0) fun x1 => z_b (z_vr 5 x1 (p_X4_get x1 v1)) fun x2 => z_rt x2
abbrev M_X10_wordOn (l : Launch) : ZMe := (l, "SpellScribe$WordBook", cX10_wordOn, 2, 1, 21, (some .int), "wordOn", [])
set_option maxRecDepth 20000 in
theorem sim_X10_wordOn (l : Launch) (v0 : Option Nat) (v1 : Int32) : Sim (M_X10_wordOn l) (zFin zcI) 0 [(0, .inr (.inr v0)), (1, .inl v1)] [] (p_X10_wordOn v0 v1) := by
  unfold p_X10_wordOn
  refine s_aloadn (j := 0) dX10_wordOn_0 rfl ?_
  refine s_getR (k := 0) cls_11 (by decide) rfl dX10_wordOn_1 w_86 rfl (fun x1 => ?_)
  refine s_iloadn (j := 1) dX10_wordOn_4 rfl ?_
  refine s_cVI (rest := []) (met_X4_get l x1 v1) cls_5 mth_X4_get rfl dX10_wordOn_5 w_386 w_355 w_356 ⟨Nat.le_of_ble_eq_true rfl, Nat.le_of_ble_eq_true rfl⟩ (Nat.le_of_ble_eq_true rfl) rfl (fun x2 => ?_)
  exact s_iret dX10_wordOn_8 rfl
theorem met_X10_wordOn (l : Launch) (v0 : Option Nat) (v1 : Int32) : zMet l yX10_wordOn cX10_wordOn 2 (some .int) 1 21 [.inr (.inr v0), .inl v1] zcI (p_X10_wordOn v0 v1) :=
  zMet.of (by decide +kernel) (Nat.le_of_ble_eq_true rfl) rfl (sim_X10_wordOn l v0 v1)
def p_X10_valueOn (v0 : Option Nat) (v1 : Int32) : ZM Int32 :=
  z_b (z_gR 11 1 v0) fun x1 => z_b (z_vr 5 x1 (p_X4_get x1 v1)) fun x2 => z_rt x2
abbrev M_X10_valueOn (l : Launch) : ZMe := (l, "SpellScribe$WordBook", cX10_valueOn, 2, 1, 21, (some .int), "valueOn", [])
set_option maxRecDepth 20000 in
theorem sim_X10_valueOn (l : Launch) (v0 : Option Nat) (v1 : Int32) : Sim (M_X10_valueOn l) (zFin zcI) 0 [(0, .inr (.inr v0)), (1, .inl v1)] [] (p_X10_valueOn v0 v1) := by
  unfold p_X10_valueOn
  refine s_aloadn (j := 0) dX10_valueOn_0 rfl ?_
  refine s_getR (k := 1) cls_11 (by decide) rfl dX10_valueOn_1 w_87 rfl (fun x1 => ?_)
  refine s_iloadn (j := 1) dX10_valueOn_4 rfl ?_
  refine s_cVI (rest := []) (met_X4_get l x1 v1) cls_5 mth_X4_get rfl dX10_valueOn_5 w_386 w_355 w_356 ⟨Nat.le_of_ble_eq_true rfl, Nat.le_of_ble_eq_true rfl⟩ (Nat.le_of_ble_eq_true rfl) rfl (fun x2 => ?_)
  exact s_iret dX10_valueOn_8 rfl
theorem met_X10_valueOn (l : Launch) (v0 : Option Nat) (v1 : Int32) : zMet l yX10_valueOn cX10_valueOn 2 (some .int) 1 21 [.inr (.inr v0), .inl v1] zcI (p_X10_valueOn v0 v1) :=
  zMet.of (by decide +kernel) (Nat.le_of_ble_eq_true rfl) rfl (sim_X10_valueOn l v0 v1)
def p_X2_listSuggestable_c68 (r68 : Option Nat → Int32 → ZM Unit) (v0 : Option Nat) (v1 : Int32) : ZM Unit :=
  z_b (z_gR 3 3 v0) fun x1 => z_b (z_vr 11 x1 (p_X10_count x1)) fun x2 => if x2 ≤ v1 then (z_rt ())
  else (z_b (z_gR 3 5 v0) fun x3 => z_b (z_gR 3 3 v0) fun x4 => z_b (z_vr 11 x4 (p_X10_wordOn x4 v1)) fun x5 => z_b (z_vr 11 x3 (p_X10_store x3 x5 1)) fun _ => z_n (v1 + 1 : Int32) fun y6 => r68 v0 y6)
def p_X2_listSuggestable_l68 : Nat → Option Nat → Int32 → ZM Unit
  | 0, _, _ => z_fl
  | n + 1, v0, v1 => p_X2_listSuggestable_c68 (p_X2_listSuggestable_l68 n) v0 v1
def p_X2_listSuggestable_b66 (v0 : Option Nat) : ZM Unit :=
  p_X2_listSuggestable_l68 zFuel v0 0
def p_X2_listSuggestable_b60 (r9 : Option Nat → Int32 → ZM Unit) (v0 : Option Nat) (v1 : Int32) : ZM Unit :=
  z_n (v1 + 1 : Int32) fun y7 => r9 v0 y7
def p_X2_listSuggestable_c9 (r9 : Option Nat → Int32 → ZM Unit) (v0 : Option Nat) (v1 : Int32) : ZM Unit :=
  z_b (z_gR 3 2 v0) fun x8 => z_b (z_vr 11 x8 (p_X10_count x8)) fun x9 => if x9 ≤ v1 then (p_X2_listSuggestable_b66 v0)
  else (z_b (z_gR 3 2 v0) fun x10 => z_b (z_vr 11 x10 (p_X10_wordOn x10 v1)) fun x11 => z_b (z_gR 3 2 v0) fun x12 => z_b (z_vr 11 x12 (p_X10_valueOn x12 v1)) fun x13 => if (x13 &&& 65536) = 0 then (p_X2_listSuggestable_b60 r9 v0 v1)
  else (z_b (z_vr 3 v0 (p_X2_isBarred v0 x11)) fun x14 => if ¬ x14 = 0 then (p_X2_listSuggestable_b60 r9 v0 v1)
  else (z_b (z_gR 3 5 v0) fun x15 => z_b (z_vr 11 x15 (p_X10_store x15 x11 1)) fun _ => p_X2_listSuggestable_b60 r9 v0 v1)))
def p_X2_listSuggestable_l9 : Nat → Option Nat → Int32 → ZM Unit
  | 0, _, _ => z_fl
  | n + 1, v0, v1 => p_X2_listSuggestable_c9 (p_X2_listSuggestable_l9 n) v0 v1
def p_X2_listSuggestable (v0 : Option Nat) : ZM Unit :=
  z_b (z_gR 3 5 v0) fun x16 => z_b (z_vr 11 x16 (p_X10_clear x16)) fun _ => p_X2_listSuggestable_l9 zFuel v0 0
abbrev M_X2_listSuggestable (l : Launch) : ZMe := (l, "SpellScribe$Lexicon", cX2_listSuggestable, 3, 4, 89, none, "listSuggestable", [])
set_option maxRecDepth 20000 in
theorem sim_X2_listSuggestable_c68 (l : Launch) (r68 : Option Nat → Int32 → ZM Unit) (hr68 : ∀ (v0 : Option Nat) (v1 : Int32), Sim (M_X2_listSuggestable l) (zFin zcV) 68 [(0, .inr (.inr v0)), (1, .inl v1)] [] (r68 v0 v1)) (v0 : Option Nat) (v1 : Int32) : Sim (M_X2_listSuggestable l) (zFin zcV) 68 [(0, .inr (.inr v0)), (1, .inl v1)] [] (p_X2_listSuggestable_c68 r68 v0 v1) := by
  unfold p_X2_listSuggestable_c68
  refine s_iloadn (j := 1) dX2_listSuggestable_68 rfl ?_
  refine s_aloadn (j := 0) dX2_listSuggestable_69 rfl ?_
  refine s_getR (k := 3) cls_3 (by decide) rfl dX2_listSuggestable_70 w_102 rfl (fun x1 => ?_)
  refine s_cVI (rest := [.inl v1]) (met_X10_count l x1) cls_11 mth_X10_count rfl dX2_listSuggestable_73 w_701 w_549 w_550 ⟨Nat.le_of_ble_eq_true rfl, Nat.le_of_ble_eq_true rfl⟩ (Nat.le_of_ble_eq_true rfl) rfl (fun x2 => ?_)
  refine s_icmp_ge (tgt := 101) dX2_listSuggestable_76 (by decide) ?_ ?_
  · exact s_vret dX2_listSuggestable_101 rfl
  · refine s_aloadn (j := 0) dX2_listSuggestable_79 rfl ?_
    refine s_getR (k := 5) cls_3 (by decide) rfl dX2_listSuggestable_80 w_104 rfl (fun x3 => ?_)
    refine s_aloadn (j := 0) dX2_listSuggestable_83 rfl ?_
    refine s_getR (k := 3) cls_3 (by decide) rfl dX2_listSuggestable_84 w_102 rfl (fun x4 => ?_)
    refine s_iloadn (j := 1) dX2_listSuggestable_87 rfl ?_
    refine s_cVI (rest := [.inr (.inr x3)]) (met_X10_wordOn l x4 v1) cls_11 mth_X10_wordOn rfl dX2_listSuggestable_88 w_972 w_553 w_554 ⟨Nat.le_of_ble_eq_true rfl, Nat.le_of_ble_eq_true rfl⟩ (Nat.le_of_ble_eq_true rfl) rfl (fun x5 => ?_)
    refine s_iconst (v := 1) dX2_listSuggestable_91 (by decide) ?_
    refine s_cVV (rest := []) (met_X10_store l x3 x5 1) cls_11 mth_X10_store rfl dX2_listSuggestable_92 w_935 w_936 w_937 ⟨Nat.le_of_ble_eq_true rfl, Nat.le_of_ble_eq_true rfl⟩ (Nat.le_of_ble_eq_true rfl) rfl ?_
    refine s_n0 (fun y6 hy6 => ?_)
    refine s_iinc (j := 1) (v := y6) (d := 1) (lv' := [(1, .inl y6), (0, .inr (.inr v0))]) dX2_listSuggestable_95 rfl (by decide) hy6 (Nat.le_of_ble_eq_true rfl) rfl ?_
    refine s_goto (tgt := 68) dX2_listSuggestable_98 (by decide) ?_
    exact Sim.sub [1, 0] rfl (hr68 v0 y6)
theorem sim_X2_listSuggestable_l68 (l : Launch) : ∀ (n : Nat) (v0 : Option Nat) (v1 : Int32), Sim (M_X2_listSuggestable l) (zFin zcV) 68 [(0, .inr (.inr v0)), (1, .inl v1)] [] (p_X2_listSuggestable_l68 n v0 v1)
  | 0, _, _ => s_fl
  | n + 1, v0, v1 => sim_X2_listSuggestable_c68 l (p_X2_listSuggestable_l68 n) (sim_X2_listSuggestable_l68 l n) v0 v1
set_option maxRecDepth 20000 in
theorem sim_X2_listSuggestable_b66 (l : Launch) (v0 : Option Nat) : Sim (M_X2_listSuggestable l) (zFin zcV) 66 [(0, .inr (.inr v0))] [] (p_X2_listSuggestable_b66 v0) := by
  unfold p_X2_listSuggestable_b66
  refine s_iconst (v := 0) dX2_listSuggestable_66 (by decide) ?_
  refine s_istoren (lv' := [(1, .inl 0), (0, .inr (.inr v0))]) dX2_listSuggestable_67 (Nat.le_of_ble_eq_true rfl) rfl ?_
  exact Sim.sub [1, 0] rfl (sim_X2_listSuggestable_l68 l zFuel v0 0)
set_option maxRecDepth 20000 in
theorem sim_X2_listSuggestable_b60 (l : Launch) (r9 : Option Nat → Int32 → ZM Unit) (hr9 : ∀ (v0 : Option Nat) (v1 : Int32), Sim (M_X2_listSuggestable l) (zFin zcV) 9 [(0, .inr (.inr v0)), (1, .inl v1)] [] (r9 v0 v1)) (v0 : Option Nat) (v1 : Int32) : Sim (M_X2_listSuggestable l) (zFin zcV) 60 [(0, .inr (.inr v0)), (1, .inl v1)] [] (p_X2_listSuggestable_b60 r9 v0 v1) := by
  unfold p_X2_listSuggestable_b60
  refine s_n0 (fun y7 hy7 => ?_)
  refine s_iinc (j := 1) (v := y7) (d := 1) (lv' := [(1, .inl y7), (0, .inr (.inr v0))]) dX2_listSuggestable_60 rfl (by decide) hy7 (Nat.le_of_ble_eq_true rfl) rfl ?_
  refine s_goto (tgt := 9) dX2_listSuggestable_63 (by decide) ?_
  exact Sim.sub [1, 0] rfl (hr9 v0 y7)
set_option maxRecDepth 20000 in
theorem sim_X2_listSuggestable_c9 (l : Launch) (r9 : Option Nat → Int32 → ZM Unit) (hr9 : ∀ (v0 : Option Nat) (v1 : Int32), Sim (M_X2_listSuggestable l) (zFin zcV) 9 [(0, .inr (.inr v0)), (1, .inl v1)] [] (r9 v0 v1)) (v0 : Option Nat) (v1 : Int32) : Sim (M_X2_listSuggestable l) (zFin zcV) 9 [(0, .inr (.inr v0)), (1, .inl v1)] [] (p_X2_listSuggestable_c9 r9 v0 v1) := by
  unfold p_X2_listSuggestable_c9
  refine s_iloadn (j := 1) dX2_listSuggestable_9 rfl ?_
  refine s_aloadn (j := 0) dX2_listSuggestable_10 rfl ?_
  refine s_getR (k := 2) cls_3 (by decide) rfl dX2_listSuggestable_11 w_101 rfl (fun x8 => ?_)
  refine s_cVI (rest := [.inl v1]) (met_X10_count l x8) cls_11 mth_X10_count rfl dX2_listSuggestable_14 w_701 w_549 w_550 ⟨Nat.le_of_ble_eq_true rfl, Nat.le_of_ble_eq_true rfl⟩ (Nat.le_of_ble_eq_true rfl) rfl (fun x9 => ?_)
  refine s_icmp_ge (tgt := 66) dX2_listSuggestable_17 (by decide) ?_ ?_
  · exact Sim.sub [0] rfl (sim_X2_listSuggestable_b66 l v0)
  · refine s_aloadn (j := 0) dX2_listSuggestable_20 rfl ?_
    refine s_getR (k := 2) cls_3 (by decide) rfl dX2_listSuggestable_21 w_101 rfl (fun x10 => ?_)
    refine s_iloadn (j := 1) dX2_listSuggestable_24 rfl ?_
    refine s_cVI (rest := []) (met_X10_wordOn l x10 v1) cls_11 mth_X10_wordOn rfl dX2_listSuggestable_25 w_972 w_553 w_554 ⟨Nat.le_of_ble_eq_true rfl, Nat.le_of_ble_eq_true rfl⟩ (Nat.le_of_ble_eq_true rfl) rfl (fun x11 => ?_)
    refine s_istoren (lv' := [(2, .inl x11), (0, .inr (.inr v0)), (1, .inl v1)]) dX2_listSuggestable_28 (Nat.le_of_ble_eq_true rfl) rfl ?_
    refine s_aloadn (j := 1) dX2_listSuggestable_29 rfl ?_
    refine s_getR (k := 2) cls_3 (by decide) rfl dX2_listSuggestable_30 w_101 rfl (fun x12 => ?_)
    refine s_iloadn (j := 2) dX2_listSuggestable_33 rfl ?_
    refine s_cVI (rest := []) (met_X10_valueOn l x12 v1) cls_11 mth_X10_valueOn rfl dX2_listSuggestable_34 w_973 w_974 w_975 ⟨Nat.le_of_ble_eq_true rfl, Nat.le_of_ble_eq_true rfl⟩ (Nat.le_of_ble_eq_true rfl) rfl (fun x13 => ?_)
    refine s_ldc (v := 65536) dX2_listSuggestable_37 w_977 ?_
    refine s_iand dX2_listSuggestable_39 ?_
    refine s_if_eq (tgt := 60) dX2_listSuggestable_40 (by decide) ?_ ?_
    · exact Sim.sub [1, 2] rfl (sim_X2_listSuggestable_b60 l r9 hr9 v0 v1)
    · refine s_aloadn (j := 1) dX2_listSuggestable_43 rfl ?_
      refine s_iloadn (j := 0) dX2_listSuggestable_44 rfl ?_
      refine s_cVI (rest := []) (met_X2_isBarred l v0 x11) cls_3 mth_X2_isBarred rfl dX2_listSuggestable_45 w_374 w_375 w_376 ⟨Nat.le_of_ble_eq_true rfl, Nat.le_of_ble_eq_true rfl⟩ (Nat.le_of_ble_eq_true rfl) rfl (fun x14 => ?_)
      refine s_if_ne (tgt := 60) dX2_listSuggestable_48 (by decide) ?_ ?_
      · exact Sim.sub [1, 2] rfl (sim_X2_listSuggestable_b60 l r9 hr9 v0 v1)
      · refine s_aloadn (j := 1) dX2_listSuggestable_51 rfl ?_
        refine s_getR (k := 5) cls_3 (by decide) rfl dX2_listSuggestable_52 w_104 rfl (fun x15 => ?_)
        refine s_iloadn (j := 0) dX2_listSuggestable_55 rfl ?_
        refine s_iconst (v := 1) dX2_listSuggestable_56 (by decide) ?_
        refine s_cVV (rest := []) (met_X10_store l x15 x11 1) cls_11 mth_X10_store rfl dX2_listSuggestable_57 w_935 w_936 w_937 ⟨Nat.le_of_ble_eq_true rfl, Nat.le_of_ble_eq_true rfl⟩ (Nat.le_of_ble_eq_true rfl) rfl ?_
        exact Sim.sub [1, 2] rfl (sim_X2_listSuggestable_b60 l r9 hr9 v0 v1)
theorem sim_X2_listSuggestable_l9 (l : Launch) : ∀ (n : Nat) (v0 : Option Nat) (v1 : Int32), Sim (M_X2_listSuggestable l) (zFin zcV) 9 [(0, .inr (.inr v0)), (1, .inl v1)] [] (p_X2_listSuggestable_l9 n v0 v1)
  | 0, _, _ => s_fl
  | n + 1, v0, v1 => sim_X2_listSuggestable_c9 l (p_X2_listSuggestable_l9 n) (sim_X2_listSuggestable_l9 l n) v0 v1
set_option maxRecDepth 20000 in
theorem sim_X2_listSuggestable (l : Launch) (v0 : Option Nat) : Sim (M_X2_listSuggestable l) (zFin zcV) 0 [(0, .inr (.inr v0))] [] (p_X2_listSuggestable v0) := by
  unfold p_X2_listSuggestable
  refine s_aloadn (j := 0) dX2_listSuggestable_0 rfl ?_
  refine s_getR (k := 5) cls_3 (by decide) rfl dX2_listSuggestable_1 w_104 rfl (fun x16 => ?_)
  refine s_cVV (rest := []) (met_X10_clear l x16) cls_11 mth_X10_clear rfl dX2_listSuggestable_4 w_912 w_913 w_914 ⟨Nat.le_of_ble_eq_true rfl, Nat.le_of_ble_eq_true rfl⟩ (Nat.le_of_ble_eq_true rfl) rfl ?_
  refine s_iconst (v := 0) dX2_listSuggestable_7 (by decide) ?_
  refine s_istoren (lv' := [(1, .inl 0), (0, .inr (.inr v0))]) dX2_listSuggestable_8 (Nat.le_of_ble_eq_true rfl) rfl ?_
  exact Sim.sub [1, 0] rfl (sim_X2_listSuggestable_l9 l zFuel v0 0)
theorem met_X2_listSuggestable (l : Launch) (v0 : Option Nat) : zMet l yX2_listSuggestable cX2_listSuggestable 3 none 4 89 [.inr (.inr v0)] zcV (p_X2_listSuggestable v0) :=
  zMet.of (by decide +kernel) (Nat.le_of_ble_eq_true rfl) rfl (sim_X2_listSuggestable l v0)
def p_X2_addOwn (v0 : Option Nat) (v1 : Int32) (v2 : Int32) : ZM Unit :=
  z_b (z_gR 3 4 v0) fun x1 => z_b (z_vr 11 x1 (p_X10_drop x1 v1)) fun _ => z_b (z_gR 3 3 v0) fun x2 => z_b (z_vr 11 x2 (p_X10_store x2 v1 ((1 : Int32) <<< (v2 &&& 31)))) fun _ => z_b (z_vr 3 v0 (p_X2_listSuggestable v0)) fun _ => z_rt ()
abbrev M_X2_addOwn (l : Launch) : ZMe := (l, "SpellScribe$Lexicon", cX2_addOwn, 3, 5, 111, none, "addOwn", [])
set_option maxRecDepth 20000 in
theorem sim_X2_addOwn (l : Launch) (v0 : Option Nat) (v1 : Int32) (v2 : Int32) : Sim (M_X2_addOwn l) (zFin zcV) 0 [(0, .inr (.inr v0)), (1, .inl v1), (2, .inl v2)] [] (p_X2_addOwn v0 v1 v2) := by
  unfold p_X2_addOwn
  refine s_aloadn (j := 0) dX2_addOwn_0 rfl ?_
  refine s_getR (k := 4) cls_3 (by decide) rfl dX2_addOwn_1 w_103 rfl (fun x1 => ?_)
  refine s_iloadn (j := 1) dX2_addOwn_4 rfl ?_
  refine s_cVV (rest := []) (met_X10_drop l x1 v1) cls_11 mth_X10_drop rfl dX2_addOwn_5 w_1089 w_1090 w_1091 ⟨Nat.le_of_ble_eq_true rfl, Nat.le_of_ble_eq_true rfl⟩ (Nat.le_of_ble_eq_true rfl) rfl ?_
  refine s_aloadn (j := 0) dX2_addOwn_8 rfl ?_
  refine s_getR (k := 3) cls_3 (by decide) rfl dX2_addOwn_9 w_102 rfl (fun x2 => ?_)
  refine s_iloadn (j := 1) dX2_addOwn_12 rfl ?_
  refine s_iconst (v := 1) dX2_addOwn_13 (by decide) ?_
  refine s_iloadn (j := 2) dX2_addOwn_14 rfl ?_
  refine s_ishl dX2_addOwn_15 ?_
  refine s_cVV (rest := []) (met_X10_store l x2 v1 ((1 : Int32) <<< (v2 &&& 31))) cls_11 mth_X10_store rfl dX2_addOwn_16 w_935 w_936 w_937 ⟨Nat.le_of_ble_eq_true rfl, Nat.le_of_ble_eq_true rfl⟩ (Nat.le_of_ble_eq_true rfl) rfl ?_
  refine s_aloadn (j := 0) dX2_addOwn_19 rfl ?_
  refine s_cVV (rest := []) (met_X2_listSuggestable l v0) cls_3 mth_X2_listSuggestable rfl dX2_addOwn_20 w_968 w_970 wp_34 ⟨Nat.le_of_ble_eq_true rfl, Nat.le_of_ble_eq_true rfl⟩ (Nat.le_of_ble_eq_true rfl) rfl ?_
  exact s_vret dX2_addOwn_23 rfl
theorem met_X2_addOwn (l : Launch) (v0 : Option Nat) (v1 : Int32) (v2 : Int32) : zMet l yX2_addOwn cX2_addOwn 3 none 5 111 [.inr (.inr v0), .inl v1, .inl v2] zcV (p_X2_addOwn v0 v1 v2) :=
  zMet.of (by decide +kernel) (Nat.le_of_ble_eq_true rfl) rfl (sim_X2_addOwn l v0 v1 v2)
def p_X2_addBarred (v0 : Option Nat) (v1 : Int32) : ZM Unit :=
  z_b (z_gR 3 3 v0) fun x1 => z_b (z_vr 11 x1 (p_X10_drop x1 v1)) fun _ => z_b (z_gR 3 4 v0) fun x2 => z_b (z_vr 11 x2 (p_X10_store x2 v1 1)) fun _ => z_b (z_vr 3 v0 (p_X2_listSuggestable v0)) fun _ => z_rt ()
abbrev M_X2_addBarred (l : Launch) : ZMe := (l, "SpellScribe$Lexicon", cX2_addBarred, 2, 5, 111, none, "addBarred", [])
set_option maxRecDepth 20000 in
theorem sim_X2_addBarred (l : Launch) (v0 : Option Nat) (v1 : Int32) : Sim (M_X2_addBarred l) (zFin zcV) 0 [(0, .inr (.inr v0)), (1, .inl v1)] [] (p_X2_addBarred v0 v1) := by
  unfold p_X2_addBarred
  refine s_aloadn (j := 0) dX2_addBarred_0 rfl ?_
  refine s_getR (k := 3) cls_3 (by decide) rfl dX2_addBarred_1 w_102 rfl (fun x1 => ?_)
  refine s_iloadn (j := 1) dX2_addBarred_4 rfl ?_
  refine s_cVV (rest := []) (met_X10_drop l x1 v1) cls_11 mth_X10_drop rfl dX2_addBarred_5 w_1089 w_1090 w_1091 ⟨Nat.le_of_ble_eq_true rfl, Nat.le_of_ble_eq_true rfl⟩ (Nat.le_of_ble_eq_true rfl) rfl ?_
  refine s_aloadn (j := 0) dX2_addBarred_8 rfl ?_
  refine s_getR (k := 4) cls_3 (by decide) rfl dX2_addBarred_9 w_103 rfl (fun x2 => ?_)
  refine s_iloadn (j := 1) dX2_addBarred_12 rfl ?_
  refine s_iconst (v := 1) dX2_addBarred_13 (by decide) ?_
  refine s_cVV (rest := []) (met_X10_store l x2 v1 1) cls_11 mth_X10_store rfl dX2_addBarred_14 w_935 w_936 w_937 ⟨Nat.le_of_ble_eq_true rfl, Nat.le_of_ble_eq_true rfl⟩ (Nat.le_of_ble_eq_true rfl) rfl ?_
  refine s_aloadn (j := 0) dX2_addBarred_17 rfl ?_
  refine s_cVV (rest := []) (met_X2_listSuggestable l v0) cls_3 mth_X2_listSuggestable rfl dX2_addBarred_18 w_968 w_970 wp_34 ⟨Nat.le_of_ble_eq_true rfl, Nat.le_of_ble_eq_true rfl⟩ (Nat.le_of_ble_eq_true rfl) rfl ?_
  exact s_vret dX2_addBarred_21 rfl
theorem met_X2_addBarred (l : Launch) (v0 : Option Nat) (v1 : Int32) : zMet l yX2_addBarred cX2_addBarred 2 none 5 111 [.inr (.inr v0), .inl v1] zcV (p_X2_addBarred v0 v1) :=
  zMet.of (by decide +kernel) (Nat.le_of_ble_eq_true rfl) rfl (sim_X2_addBarred l v0 v1)
def p_X2_suggestable (v0 : Option Nat) : ZM (Option Nat) :=
  z_b (z_gR 3 5 v0) fun x1 => z_rt x1
abbrev M_X2_suggestable (l : Launch) : ZMe := (l, "SpellScribe$Lexicon", cX2_suggestable, 1, 0, 0, (some (.object "SpellScribe$WordBook")), "suggestable", [])
set_option maxRecDepth 20000 in
theorem sim_X2_suggestable (l : Launch) (v0 : Option Nat) : Sim (M_X2_suggestable l) (zFin zcR) 0 [(0, .inr (.inr v0))] [] (p_X2_suggestable v0) := by
  unfold p_X2_suggestable
  refine s_aloadn (j := 0) dX2_suggestable_0 rfl ?_
  refine s_getR (k := 5) cls_3 (by decide) rfl dX2_suggestable_1 w_104 rfl (fun x1 => ?_)
  exact s_aret dX2_suggestable_4 rfl (Or.inl ⟨_, rfl⟩)
theorem met_X2_suggestable (l : Launch) (v0 : Option Nat) : zMet l yX2_suggestable cX2_suggestable 1 (some (.object "SpellScribe$WordBook")) 0 0 [.inr (.inr v0)] zcR (p_X2_suggestable v0) :=
  zMet.of (by decide +kernel) (Nat.le_of_ble_eq_true rfl) rfl (sim_X2_suggestable l v0)
def p_X11_readingOf (v0 : Int32) (v1 : Int32) : ZM Int32 :=
  z_rt ((2 * v0) + v1)
abbrev M_X11_readingOf (l : Launch) : ZMe := (l, "SpellScribe", cX11_readingOf, 2, 0, 0, (some .int), "readingOf", [])
set_option maxRecDepth 20000 in
theorem sim_X11_readingOf (l : Launch) (v0 : Int32) (v1 : Int32) : Sim (M_X11_readingOf l) (zFin zcI) 0 [(0, .inl v0), (1, .inl v1)] [] (p_X11_readingOf v0 v1) := by
  unfold p_X11_readingOf
  refine s_iconst (v := 2) dX11_readingOf_0 (by decide) ?_
  refine s_iloadn (j := 0) dX11_readingOf_1 rfl ?_
  refine s_imul dX11_readingOf_2 ?_
  refine s_iloadn (j := 1) dX11_readingOf_3 rfl ?_
  refine s_iadd dX11_readingOf_4 ?_
  exact s_iret dX11_readingOf_5 rfl
theorem met_X11_readingOf (l : Launch) (v0 : Int32) (v1 : Int32) : zMet l yX11_readingOf cX11_readingOf 2 (some .int) 0 0 [.inl v0, .inl v1] zcI (p_X11_readingOf v0 v1) :=
  zMet.of (by decide +kernel) (Nat.le_of_ble_eq_true rfl) rfl (sim_X11_readingOf l v0 v1)
def p_X6_knownWith_b59 (v0 : Option Nat) (v4 : Int32) (v5 : Int32) : ZM Int32 :=
  if ¬ v4 = 0 then (z_rt v5)
  else (z_b (z_gI 7 4 v0) fun x1 => if ¬ (x1 &&& 1) = 0 then (z_rt v5)
  else (z_n ((v5 ||| 65536) : Int32) fun y2 => z_rt y2))
def p_X6_knownWith_b50 (v0 : Option Nat) (v3 : Int32) (v4 : Int32) (v5 : Int32) : ZM Int32 :=
  z_n ((v5 ||| (v3 <<< (8 &&& 31))) : Int32) fun y3 => p_X6_knownWith_b59 v0 v4 y3
def p_X6_knownWith_b34 (v0 : Option Nat) (v3 : Int32) (v4 : Int32) (s0 : Int32) : ZM Int32 :=
  if ¬ v4 = 0 then (p_X6_knownWith_b50 v0 v3 v4 s0)
  else (z_b (z_gI 7 4 v0) fun x4 => if (x4 &&& 4) = 0 then (p_X6_knownWith_b59 v0 v4 s0)
  else (p_X6_knownWith_b50 v0 v3 v4 s0))
def p_X6_knownWith_b22 (v0 : Option Nat) (v3 : Int32) (s0 : Int32) : ZM Int32 :=
  if s0 = 0 then (p_X6_knownWith_b34 v0 v3 s0 v3)
  else (p_X6_knownWith_b34 v0 v3 s0 0)
def p_X6_knownWith (v0 : Option Nat) (v1 : Int32) (v2 : Int32) : ZM Int32 :=
  z_b (p_X11_readingOf v1 v2) fun x5 => z_n (((1 : Int32) <<< (x5 &&& 31)) : Int32) fun y6 => z_b (z_gI 7 4 v0) fun x7 => if (x7 &&& 2) = 0 then (p_X6_knownWith_b22 v0 y6 0)
  else (p_X6_knownWith_b22 v0 y6 1)
abbrev M_X6_knownWith (l : Launch) : ZMe := (l, "SpellScribe$Stem", cX6_knownWith, 6, 1, 21, (some .int), "knownWith", [])
set_option maxRecDepth 20000 in
theorem sim_X6_knownWith_b59 (l : Launch) (v0 : Option Nat) (v4 : Int32) (v5 : Int32) : Sim (M_X6_knownWith l) (zFin zcI) 59 [(0, .inr (.inr v0)), (4, .inl v4), (5, .inl v5)] [] (p_X6_knownWith_b59 v0 v4 v5) := by
  unfold p_X6_knownWith_b59
  refine s_iload (j := 1) dX6_knownWith_59 rfl ?_
  refine s_if_ne (tgt := 80) dX6_knownWith_61 (by decide) ?_ ?_
  · refine s_iload (j := 2) dX6_knownWith_80 rfl ?_
    exact s_iret dX6_knownWith_82 rfl
  · refine s_aloadn (j := 0) dX6_knownWith_64 rfl ?_
    refine s_getI (k := 4) cls_7 (by decide) rfl dX6_knownWith_65 w_829 rfl (fun x1 => ?_)
    refine s_iconst (v := 1) dX6_knownWith_68 (by decide) ?_
    refine s_iand dX6_knownWith_69 ?_
    refine s_if_ne (tgt := 80) dX6_knownWith_70 (by decide) ?_ ?_
    · refine s_iload (j := 2) dX6_knownWith_80 rfl ?_
      exact s_iret dX6_knownWith_82 rfl
    · refine s_iload (j := 2) dX6_knownWith_73 rfl ?_
      refine s_ldc (v := 65536) dX6_knownWith_75 w_934 ?_
      refine s_ior dX6_knownWith_77 ?_
      refine s_nI (fun y2 => ?_)
      refine s_istore (lv' := [(5, .inl y2), (0, .inr (.inr v0)), (4, .inl v4)]) dX6_knownWith_78 (Nat.le_of_ble_eq_true rfl) rfl ?_
      refine s_iload (j := 0) dX6_knownWith_80 rfl ?_
      exact s_iret dX6_knownWith_82 rfl
set_option maxRecDepth 20000 in
theorem sim_X6_knownWith_b50 (l : Launch) (v0 : Option Nat) (v3 : Int32) (v4 : Int32) (v5 : Int32) : Sim (M_X6_knownWith l) (zFin zcI) 50 [(0, .inr (.inr v0)), (3, .inl v3), (4, .inl v4), (5, .inl v5)] [] (p_X6_knownWith_b50 v0 v3 v4 v5) := by
  unfold p_X6_knownWith_b50
  refine s_iload (j := 3) dX6_knownWith_50 rfl ?_
  refine s_iloadn (j := 1) dX6_knownWith_52 rfl ?_
  refine s_bipush (v := 8) dX6_knownWith_53 (by decide) ?_
  refine s_ishl dX6_knownWith_55 ?_
  refine s_ior dX6_knownWith_56 ?_
  refine s_nI (fun y3 => ?_)
  refine s_istore (lv' := [(5, .inl y3), (0, .inr (.inr v0)), (3, .inl v3), (4, .inl v4)]) dX6_knownWith_57 (Nat.le_of_ble_eq_true rfl) rfl ?_
  exact Sim.sub [1, 3, 0] rfl (sim_X6_knownWith_b59 l v0 v4 y3)
set_option maxRecDepth 20000 in
theorem sim_X6_knownWith_b34 (l : Launch) (v0 : Option Nat) (v3 : Int32) (v4 : Int32) (s0 : Int32) : Sim (M_X6_knownWith l) (zFin zcI) 34 [(0, .inr (.inr v0)), (3, .inl v3), (4, .inl v4)] [.inl s0] (p_X6_knownWith_b34 v0 v3 v4 s0) := by
  unfold p_X6_knownWith_b34
  refine s_istore (lv' := [(5, .inl s0), (0, .inr (.inr v0)), (3, .inl v3), (4, .inl v4)]) dX6_knownWith_34 (Nat.le_of_ble_eq_true rfl) rfl ?_
  refine s_iload (j := 3) dX6_knownWith_36 rfl ?_
  refine s_if_ne (tgt := 50) dX6_knownWith_38 (by decide) ?_ ?_
  · exact Sim.sub [1, 2, 3, 0] rfl (sim_X6_knownWith_b50 l v0 v3 v4 s0)
  · refine s_aloadn (j := 1) dX6_knownWith_41 rfl ?_
    refine s_getI (k := 4) cls_7 (by decide) rfl dX6_knownWith_42 w_829 rfl (fun x4 => ?_)
    refine s_iconst (v := 4) dX6_knownWith_45 (by decide) ?_
    refine s_iand dX6_knownWith_46 ?_
    refine s_if_eq (tgt := 59) dX6_knownWith_47 (by decide) ?_ ?_
    · exact Sim.sub [1, 3, 0] rfl (sim_X6_knownWith_b59 l v0 v4 s0)
    · exact Sim.sub [1, 2, 3, 0] rfl (sim_X6_knownWith_b50 l v0 v3 v4 s0)
set_option maxRecDepth 20000 in
theorem sim_X6_knownWith_b22 (l : Launch) (v0 : Option Nat) (v3 : Int32) (s0 : Int32) : Sim (M_X6_knownWith l) (zFin zcI) 22 [(0, .inr (.inr v0)), (3, .inl v3)] [.inl s0] (p_X6_knownWith_b22 v0 v3 s0) := by
  unfold p_X6_knownWith_b22
  refine s_istore (lv' := [(4, .inl s0), (0, .inr (.inr v0)), (3, .inl v3)]) dX6_knownWith_22 (Nat.le_of_ble_eq_true rfl) rfl ?_
  refine s_iload (j := 0) dX6_knownWith_24 rfl ?_
  refine s_if_eq (tgt := 33) dX6_knownWith_26 (by decide) ?_ ?_
  · refine s_iloadn (j := 2) dX6_knownWith_33 rfl ?_
    exact Sim.sub [1, 2, 0] rfl (sim_X6_knownWith_b34 l v0 v3 s0 v3)
  · refine s_iconst (v := 0) dX6_knownWith_29 (by decide) ?_
    refine s_goto (tgt := 34) dX6_knownWith_30 (by decide) ?_
    exact Sim.sub [1, 2, 0] rfl (sim_X6_knownWith_b34 l v0 v3 s0 0)
set_option maxRecDepth 20000 in
theorem sim_X6_knownWith (l : Launch) (v0 : Option Nat) (v1 : Int32) (v2 : Int32) : Sim (M_X6_knownWith l) (zFin zcI) 0 [(0, .inr (.inr v0)), (1, .inl v1), (2, .inl v2)] [] (p_X6_knownWith v0 v1 v2) := by
  unfold p_X6_knownWith
  refine s_iconst (v := 1) dX6_knownWith_0 (by decide) ?_
  refine s_iloadn (j := 1) dX6_knownWith_1 rfl ?_
  refine s_iloadn (j := 2) dX6_knownWith_2 rfl ?_
  refine s_cSIN (rest := [.inl 1]) (met_X11_readingOf l v1 v2) mth_X11_readingOf rfl dX6_knownWith_3 w_931 w_932 ⟨Nat.le_of_ble_eq_true rfl, Nat.le_of_ble_eq_true rfl⟩ (Nat.le_of_ble_eq_true rfl) rfl (fun x5 => ?_)
  refine s_ishl dX6_knownWith_6 ?_
  refine s_nI (fun y6 => ?_)
  refine s_istoren (lv' := [(3, .inl y6), (0, .inr (.inr v0)), (1, .inl v1), (2, .inl v2)]) dX6_knownWith_7 (Nat.le_of_ble_eq_true rfl) rfl ?_
  refine s_aloadn (j := 1) dX6_knownWith_8 rfl ?_
  refine s_getI (k := 4) cls_7 (by decide) rfl dX6_knownWith_9 w_829 rfl (fun x7 => ?_)
  refine s_iconst (v := 2) dX6_knownWith_12 (by decide) ?_
  refine s_iand dX6_knownWith_13 ?_
  refine s_if_eq (tgt := 21) dX6_knownWith_14 (by decide) ?_ ?_
  · refine s_iconst (v := 0) dX6_knownWith_21 (by decide) ?_
    exact Sim.sub [1, 0] rfl (sim_X6_knownWith_b22 l v0 y6 0)
  · refine s_iconst (v := 1) dX6_knownWith_17 (by decide) ?_
    refine s_goto (tgt := 22) dX6_knownWith_18 (by decide) ?_
    exact Sim.sub [1, 0] rfl (sim_X6_knownWith_b22 l v0 y6 1)
theorem met_X6_knownWith (l : Launch) (v0 : Option Nat) (v1 : Int32) (v2 : Int32) : zMet l yX6_knownWith cX6_knownWith 6 (some .int) 1 21 [.inr (.inr v0), .inl v1, .inl v2] zcI (p_X6_knownWith v0 v1 v2) :=
  zMet.of (by decide +kernel) (Nat.le_of_ble_eq_true rfl) rfl (sim_X6_knownWith l v0 v1 v2)
def p_X5_isAmong (v0 : Option Nat) (v1 : Int32) (v2 : Int32) : ZM Int32 :=
  z_b (z_gI 6 1 v0) fun x1 => if ¬ x1 = v2 then (z_rz 0)
  else (z_b (z_gI 6 0 v0) fun x2 => if ((v1 >>> (x2 &&& 31)) &&& 1) = 0 then (z_rz 0)
  else (z_rz 1))
abbrev M_X5_isAmong (l : Launch) : ZMe := (l, "SpellScribe$Rule", cX5_isAmong, 3, 0, 0, (some .boolean), "isAmong", [])
set_option maxRecDepth 20000 in
theorem sim_X5_isAmong (l : Launch) (v0 : Option Nat) (v1 : Int32) (v2 : Int32) : Sim (M_X5_isAmong l) (zFin zcI) 0 [(0, .inr (.inr v0)), (1, .inl v1), (2, .inl v2)] [] (p_X5_isAmong v0 v1 v2) := by
  unfold p_X5_isAmong
  refine s_aloadn (j := 0) dX5_isAmong_0 rfl ?_
  refine s_getI (k := 1) cls_6 (by decide) rfl dX5_isAmong_1 w_998 rfl (fun x1 => ?_)
  refine s_iloadn (j := 2) dX5_isAmong_4 rfl ?_
  refine s_icmp_ne (tgt := 23) dX5_isAmong_5 (by decide) ?_ ?_
  · refine s_iconst (v := 0) dX5_isAmong_23 (by decide) ?_
    exact s_zret dX5_isAmong_24 rfl
  · refine s_iloadn (j := 1) dX5_isAmong_8 rfl ?_
    refine s_aloadn (j := 0) dX5_isAmong_9 rfl ?_
    refine s_getI (k := 0) cls_6 (by decide) rfl dX5_isAmong_10 w_997 rfl (fun x2 => ?_)
    refine s_ishr dX5_isAmong_13 ?_
    refine s_iconst (v := 1) dX5_isAmong_14 (by decide) ?_
    refine s_iand dX5_isAmong_15 ?_
    refine s_if_eq (tgt := 23) dX5_isAmong_16 (by decide) ?_ ?_
    · refine s_iconst (v := 0) dX5_isAmong_23 (by decide) ?_
      exact s_zret dX5_isAmong_24 rfl
    · refine s_iconst (v := 1) dX5_isAmong_19 (by decide) ?_
      refine s_goto (tgt := 24) dX5_isAmong_20 (by decide) ?_
      exact s_zret dX5_isAmong_24 rfl
theorem met_X5_isAmong (l : Launch) (v0 : Option Nat) (v1 : Int32) (v2 : Int32) : zMet l yX5_isAmong cX5_isAmong 3 (some .boolean) 0 0 [.inr (.inr v0), .inl v1, .inl v2] zcI (p_X5_isAmong v0 v1 v2) :=
  zMet.of (by decide +kernel) (Nat.le_of_ble_eq_true rfl) rfl (sim_X5_isAmong l v0 v1 v2)
def p_X11_sizeOf_c4 (r4 : Int32 → Int32 → ZM Int32) (v1 : Int32) (v2 : Int32) : ZM Int32 :=
  if v2 < 8 then (z_rt v1)
  else (if 10 ≤ v1 then (z_rt v1)
  else (z_n (v1 + 1 : Int32) fun y1 => z_n ((v2 >>> (3 &&& 31)) : Int32) fun y2 => r4 y1 y2))
def p_X11_sizeOf_l4 : Nat → Int32 → Int32 → ZM Int32
  | 0, _, _ => z_fl
  | n + 1, v1, v2 => p_X11_sizeOf_c4 (p_X11_sizeOf_l4 n) v1 v2
def p_X11_sizeOf (v0 : Int32) : ZM Int32 :=
  p_X11_sizeOf_l4 zFuel 0 v0
abbrev M_X11_sizeOf (l : Launch) : ZMe := (l, "SpellScribe", cX11_sizeOf, 3, 0, 0, (some .int), "sizeOf", [])
set_option maxRecDepth 20000 in
theorem sim_X11_sizeOf_c4 (l : Launch) (r4 : Int32 → Int32 → ZM Int32) (hr4 : ∀ (v1 : Int32) (v2 : Int32), Sim (M_X11_sizeOf l) (zFin zcI) 4 [(1, .inl v1), (2, .inl v2)] [] (r4 v1 v2)) (v1 : Int32) (v2 : Int32) : Sim (M_X11_sizeOf l) (zFin zcI) 4 [(1, .inl v1), (2, .inl v2)] [] (p_X11_sizeOf_c4 r4 v1 v2) := by
  unfold p_X11_sizeOf_c4
  refine s_iloadn (j := 1) dX11_sizeOf_4 rfl ?_
  refine s_bipush (v := 8) dX11_sizeOf_5 (by decide) ?_
  refine s_icmp_lt (tgt := 26) dX11_sizeOf_7 (by decide) ?_ ?_
  · refine s_iloadn (j := 0) dX11_sizeOf_26 rfl ?_
    exact s_iret dX11_sizeOf_27 rfl
  · refine s_iloadn (j := 0) dX11_sizeOf_10 rfl ?_
    refine s_bipush (v := 10) dX11_sizeOf_11 (by decide) ?_
    refine s_icmp_ge (tgt := 26) dX11_sizeOf_13 (by decide) ?_ ?_
    · refine s_iloadn (j := 0) dX11_sizeOf_26 rfl ?_
      exact s_iret dX11_sizeOf_27 rfl
    · refine s_n0 (fun y1 hy1 => ?_)
      refine s_iinc (j := 0) (v := y1) (d := 1) (lv' := [(1, .inl y1), (2, .inl v2)]) dX11_sizeOf_16 rfl (by decide) hy1 (Nat.le_of_ble_eq_true rfl) rfl ?_
      refine s_iloadn (j := 1) dX11_sizeOf_19 rfl ?_
      refine s_iconst (v := 3) dX11_sizeOf_20 (by decide) ?_
      refine s_ishr dX11_sizeOf_21 ?_
      refine s_nI (fun y2 => ?_)
      refine s_istoren (lv' := [(2, .inl y2), (1, .inl y1)]) dX11_sizeOf_22 (Nat.le_of_ble_eq_true rfl) rfl ?_
      refine s_goto (tgt := 4) dX11_sizeOf_23 (by decide) ?_
      exact Sim.sub [1, 0] rfl (hr4 y1 y2)
theorem sim_X11_sizeOf_l4 (l : Launch) : ∀ (n : Nat) (v1 : Int32) (v2 : Int32), Sim (M_X11_sizeOf l) (zFin zcI) 4 [(1, .inl v1), (2, .inl v2)] [] (p_X11_sizeOf_l4 n v1 v2)
  | 0, _, _ => s_fl
  | n + 1, v1, v2 => sim_X11_sizeOf_c4 l (p_X11_sizeOf_l4 n) (sim_X11_sizeOf_l4 l n) v1 v2
set_option maxRecDepth 20000 in
theorem sim_X11_sizeOf (l : Launch) (v0 : Int32) : Sim (M_X11_sizeOf l) (zFin zcI) 0 [(0, .inl v0)] [] (p_X11_sizeOf v0) := by
  unfold p_X11_sizeOf
  refine s_iconst (v := 0) dX11_sizeOf_0 (by decide) ?_
  refine s_istoren (lv' := [(1, .inl 0), (0, .inl v0)]) dX11_sizeOf_1 (Nat.le_of_ble_eq_true rfl) rfl ?_
  refine s_iloadn (j := 1) dX11_sizeOf_2 rfl ?_
  refine s_istoren (lv' := [(2, .inl v0), (1, .inl 0), (0, .inl v0)]) dX11_sizeOf_3 (Nat.le_of_ble_eq_true rfl) rfl ?_
  exact Sim.sub [1, 0] rfl (sim_X11_sizeOf_l4 l zFuel 0 v0)
theorem met_X11_sizeOf (l : Launch) (v0 : Int32) : zMet l yX11_sizeOf cX11_sizeOf 3 (some .int) 0 0 [.inl v0] zcI (p_X11_sizeOf v0) :=
  zMet.of (by decide +kernel) (Nat.le_of_ble_eq_true rfl) rfl (sim_X11_sizeOf l v0)
def p_X11_letterOf (v0 : Int32) (v1 : Int32) : ZM Int32 :=
  z_b (p_X11_sizeOf v0) fun x1 => z_rt ((v0 >>> ((3 * ((x1 - 1) - v1)) &&& 31)) &&& 7)
abbrev M_X11_letterOf (l : Launch) : ZMe := (l, "SpellScribe", cX11_letterOf, 2, 1, 22, (some .int), "letterOf", [])
set_option maxRecDepth 20000 in
theorem sim_X11_letterOf (l : Launch) (v0 : Int32) (v1 : Int32) : Sim (M_X11_letterOf l) (zFin zcI) 0 [(0, .inl v0), (1, .inl v1)] [] (p_X11_letterOf v0 v1) := by
  unfold p_X11_letterOf
  refine s_iloadn (j := 0) dX11_letterOf_0 rfl ?_
  refine s_iconst (v := 3) dX11_letterOf_1 (by decide) ?_
  refine s_iloadn (j := 0) dX11_letterOf_2 rfl ?_
  refine s_cSI (rest := [.inl 3, .inl v0]) (met_X11_sizeOf l v0) mth_X11_sizeOf rfl dX11_letterOf_3 w_327 w_328 ⟨Nat.le_of_ble_eq_true rfl, Nat.le_of_ble_eq_true rfl⟩ (Nat.le_of_ble_eq_true rfl) rfl (fun x1 => ?_)
  refine s_iconst (v := 1) dX11_letterOf_6 (by decide) ?_
  refine s_isub dX11_letterOf_7 ?_
  refine s_iloadn (j := 1) dX11_letterOf_8 rfl ?_
  refine s_isub dX11_letterOf_9 ?_
  refine s_imul dX11_letterOf_10 ?_
  refine s_ishr dX11_letterOf_11 ?_
  refine s_bipush (v := 7) dX11_letterOf_12 (by decide) ?_
  refine s_iand dX11_letterOf_14 ?_
  exact s_iret dX11_letterOf_15 rfl
theorem met_X11_letterOf (l : Launch) (v0 : Int32) (v1 : Int32) : zMet l yX11_letterOf cX11_letterOf 2 (some .int) 1 22 [.inl v0, .inl v1] zcI (p_X11_letterOf v0 v1) :=
  zMet.of (by decide +kernel) (Nat.le_of_ble_eq_true rfl) rfl (sim_X11_letterOf l v0 v1)
def p_X11_partOf (v0 : Int32) (v1 : Int32) (v2 : Int32) : ZM Int32 :=
  z_n (((1 : Int32) <<< ((3 * (v2 - v1)) &&& 31)) : Int32) fun y1 => z_b (p_X11_sizeOf v0) fun x2 => z_n ((v0 >>> ((3 * (x2 - v2)) &&& 31)) : Int32) fun y3 => z_rt (y1 ||| (y3 &&& (y1 - 1)))
abbrev M_X11_partOf (l : Launch) : ZMe := (l, "SpellScribe", cX11_partOf, 5, 1, 22, (some .int), "partOf", [])
set_option maxRecDepth 20000 in
theorem sim_X11_partOf (l : Launch) (v0 : Int32) (v1 : Int32) (v2 : Int32) : Sim (M_X11_partOf l) (zFin zcI) 0 [(0, .inl v0), (1, .inl v1), (2, .inl v2)] [] (p_X11_partOf v0 v1 v2) := by
  unfold p_X11_partOf
  refine s_iconst (v := 1) dX11_partOf_0 (by decide) ?_
  refine s_iconst (v := 3) dX11_partOf_1 (by decide) ?_
  refine s_iloadn (j := 2) dX11_partOf_2 rfl ?_
  refine s_iloadn (j := 1) dX11_partOf_3 rfl ?_
  refine s_isub dX11_partOf_4 ?_
  refine s_imul dX11_partOf_5 ?_
  refine s_ishl dX11_partOf_6 ?_
  refine s_nI (fun y1 => ?_)
  refine s_istoren (lv' := [(3, .inl y1), (0, .inl v0), (1, .inl v1), (2, .inl v2)]) dX11_partOf_7 (Nat.le_of_ble_eq_true rfl) rfl ?_
  refine s_iloadn (j := 1) dX11_partOf_8 rfl ?_
  refine s_iconst (v := 3) dX11_partOf_9 (by decide) ?_
  refine s_iloadn (j := 1) dX11_partOf_10 rfl ?_
  refine s_cSI (rest := [.inl 3, .inl v0]) (met_X11_sizeOf l v0) mth_X11_sizeOf rfl dX11_partOf_11 w_327 w_328 ⟨Nat.le_of_ble_eq_true rfl, Nat.le_of_ble_eq_true rfl⟩ (Nat.le_of_ble_eq_true rfl) rfl (fun x2 => ?_)
  refine s_iloadn (j := 3) dX11_partOf_14 rfl ?_
  refine s_isub dX11_partOf_15 ?_
  refine s_imul dX11_partOf_16 ?_
  refine s_ishr dX11_partOf_17 ?_
  refine s_nI (fun y3 => ?_)
  refine s_istore (lv' := [(4, .inl y3), (3, .inl y1), (0, .inl v0), (1, .inl v1), (2, .inl v2)]) dX11_partOf_18 (Nat.le_of_ble_eq_true rfl) rfl ?_
  refine s_iloadn (j := 1) dX11_partOf_20 rfl ?_
  refine s_iload (j := 0) dX11_partOf_21 rfl ?_
  refine s_iloadn (j := 1) dX11_partOf_23 rfl ?_
  refine s_iconst (v := 1) dX11_partOf_24 (by decide) ?_
  refine s_isub dX11_partOf_25 ?_
  refine s_iand dX11_partOf_26 ?_
  refine s_ior dX11_partOf_27 ?_
  exact s_iret dX11_partOf_28 rfl
theorem met_X11_partOf (l : Launch) (v0 : Int32) (v1 : Int32) (v2 : Int32) : zMet l yX11_partOf cX11_partOf 5 (some .int) 1 22 [.inl v0, .inl v1, .inl v2] zcI (p_X11_partOf v0 v1 v2) :=
  zMet.of (by decide +kernel) (Nat.le_of_ble_eq_true rfl) rfl (sim_X11_partOf l v0 v1 v2)
def p_X11_joined (v0 : Int32) (v1 : Int32) : ZM Int32 :=
  z_b (p_X11_sizeOf v1) fun x1 => z_n (((1 : Int32) <<< ((3 * x1) &&& 31)) : Int32) fun y2 => z_rt ((v0 * y2) ||| (v1 &&& (y2 - 1)))
abbrev M_X11_joined (l : Launch) : ZMe := (l, "SpellScribe", cX11_joined, 3, 1, 22, (some .int), "joined", [])
set_option maxRecDepth 20000 in
theorem sim_X11_joined (l : Launch) (v0 : Int32) (v1 : Int32) : Sim (M_X11_joined l) (zFin zcI) 0 [(0, .inl v0), (1, .inl v1)] [] (p_X11_joined v0 v1) := by
  unfold p_X11_joined
  refine s_iconst (v := 1) dX11_joined_0 (by decide) ?_
  refine s_iconst (v := 3) dX11_joined_1 (by decide) ?_
  refine s_iloadn (j := 1) dX11_joined_2 rfl ?_
  refine s_cSI (rest := [.inl 3, .inl 1]) (met_X11_sizeOf l v1) mth_X11_sizeOf rfl dX11_joined_3 w_327 w_328 ⟨Nat.le_of_ble_eq_true rfl, Nat.le_of_ble_eq_true rfl⟩ (Nat.le_of_ble_eq_true rfl) rfl (fun x1 => ?_)
  refine s_imul dX11_joined_6 ?_
  refine s_ishl dX11_joined_7 ?_
  refine s_nI (fun y2 => ?_)
  refine s_istoren (lv' := [(2, .inl y2), (0, .inl v0), (1, .inl v1)]) dX11_joined_8 (Nat.le_of_ble_eq_true rfl) rfl ?_
  refine s_iloadn (j := 1) dX11_joined_9 rfl ?_
  refine s_iloadn (j := 0) dX11_joined_10 rfl ?_
  refine s_imul dX11_joined_11 ?_
  refine s_iloadn (j := 2) dX11_joined_12 rfl ?_
  refine s_iloadn (j := 0) dX11_joined_13 rfl ?_
  refine s_iconst (v := 1) dX11_joined_14 (by decide) ?_
  refine s_isub dX11_joined_15 ?_
  refine s_iand dX11_joined_16 ?_
  refine s_ior dX11_joined_17 ?_
  exact s_iret dX11_joined_18 rfl
theorem met_X11_joined (l : Launch) (v0 : Int32) (v1 : Int32) : zMet l yX11_joined cX11_joined 3 (some .int) 1 22 [.inl v0, .inl v1] zcI (p_X11_joined v0 v1) :=
  zMet.of (by decide +kernel) (Nat.le_of_ble_eq_true rfl) rfl (sim_X11_joined l v0 v1)
def p_X5_usedOn_b69 (v0 : Option Nat) (v1 : Int32) (v2 : Int32) : ZM Int32 :=
  z_b (z_gI 6 1 v0) fun x1 => if x1 = 0 then (z_b (z_gI 6 4 v0) fun x2 => z_b (z_gI 6 2 v0) fun x3 => z_b (p_X11_partOf v1 x3 v2) fun x4 => z_b (p_X11_joined x2 x4) fun x5 => z_rt x5)
  else (z_b (z_gI 6 2 v0) fun x6 => z_b (p_X11_partOf v1 0 (v2 - x6)) fun x7 => z_b (z_gI 6 4 v0) fun x8 => z_b (p_X11_joined x7 x8) fun x9 => z_rt x9)
def p_X5_usedOn_b61 (v0 : Option Nat) (v1 : Int32) (v2 : Int32) (s0 : Int32) (s1 : Int32) (s2 : Int32) : ZM Int32 :=
  z_b (p_X11_letterOf s1 s2) fun x10 => if s0 = x10 then (p_X5_usedOn_b69 v0 v1 v2)
  else (z_rt 0)
def p_X5_usedOn (v0 : Option Nat) (v1 : Int32) : ZM Int32 :=
  z_b (p_X11_sizeOf v1) fun x11 => z_b (z_gI 6 2 v0) fun x12 => if x11 ≤ x12 then (z_rt 0)
  else (z_b (z_gI 6 2 v0) fun x13 => z_b (z_gI 6 4 v0) fun x14 => z_b (p_X11_sizeOf x14) fun x15 => if ((x11 - x13) + x15) ≤ 10 then (z_b (z_gI 6 3 v0) fun x16 => if x16 = (-1) then (p_X5_usedOn_b69 v0 v1 x11)
  else (z_b (z_gI 6 3 v0) fun x17 => z_b (z_gI 6 1 v0) fun x18 => if x18 = 0 then (p_X5_usedOn_b61 v0 v1 x11 x17 v1 0)
  else (p_X5_usedOn_b61 v0 v1 x11 x17 v1 (x11 - 1))))
  else (z_rt 0))
abbrev M_X5_usedOn (l : Launch) : ZMe := (l, "SpellScribe$Rule", cX5_usedOn, 3, 2, 46, (some .int), "usedOn", [])
set_option maxRecDepth 20000 in
theorem sim_X5_usedOn_b69 (l : Launch) (v0 : Option Nat) (v1 : Int32) (v2 : Int32) : Sim (M_X5_usedOn l) (zFin zcI) 69 [(0, .inr (.inr v0)), (1, .inl v1), (2, .inl v2)] [] (p_X5_usedOn_b69 v0 v1 v2) := by
  unfold p_X5_usedOn_b69
  refine s_aloadn (j := 0) dX5_usedOn_69 rfl ?_
  refine s_getI (k := 1) cls_6 (by decide) rfl dX5_usedOn_70 w_998 rfl (fun x1 => ?_)
  refine s_if_eq (tgt := 97) dX5_usedOn_73 (by decide) ?_ ?_
  · refine s_aloadn (j := 0) dX5_usedOn_97 rfl ?_
    refine s_getI (k := 4) cls_6 (by decide) rfl dX5_usedOn_98 w_1002 rfl (fun x2 => ?_)
    refine s_iloadn (j := 1) dX5_usedOn_101 rfl ?_
    refine s_aloadn (j := 0) dX5_usedOn_102 rfl ?_
    refine s_getI (k := 2) cls_6 (by decide) rfl dX5_usedOn_103 w_1000 rfl (fun x3 => ?_)
    refine s_iloadn (j := 2) dX5_usedOn_106 rfl ?_
    refine s_cSIN (rest := [.inl x2]) (met_X11_partOf l v1 x3 v2) mth_X11_partOf rfl dX5_usedOn_107 w_952 w_404 ⟨Nat.le_of_ble_eq_true rfl, Nat.le_of_ble_eq_true rfl⟩ (Nat.le_of_ble_eq_true rfl) rfl (fun x4 => ?_)
    refine s_cSIN (rest := []) (met_X11_joined l x2 x4) mth_X11_joined rfl dX5_usedOn_110 w_953 w_954 ⟨Nat.le_of_ble_eq_true rfl, Nat.le_of_ble_eq_true rfl⟩ (Nat.le_of_ble_eq_true rfl) rfl (fun x5 => ?_)
    exact s_iret dX5_usedOn_113 rfl
  · refine s_iloadn (j := 1) dX5_usedOn_76 rfl ?_
    refine s_iconst (v := 0) dX5_usedOn_77 (by decide) ?_
    refine s_iloadn (j := 2) dX5_usedOn_78 rfl ?_
    refine s_aloadn (j := 0) dX5_usedOn_79 rfl ?_
    refine s_getI (k := 2) cls_6 (by decide) rfl dX5_usedOn_80 w_1000 rfl (fun x6 => ?_)
    refine s_isub dX5_usedOn_83 ?_
    refine s_cSIN (rest := []) (met_X11_partOf l v1 0 (v2 - x6)) mth_X11_partOf rfl dX5_usedOn_84 w_952 w_404 ⟨Nat.le_of_ble_eq_true rfl, Nat.le_of_ble_eq_true rfl⟩ (Nat.le_of_ble_eq_true rfl) rfl (fun x7 => ?_)
    refine s_aloadn (j := 0) dX5_usedOn_87 rfl ?_
    refine s_getI (k := 4) cls_6 (by decide) rfl dX5_usedOn_88 w_1002 rfl (fun x8 => ?_)
    refine s_cSIN (rest := []) (met_X11_joined l x7 x8) mth_X11_joined rfl dX5_usedOn_91 w_953 w_954 ⟨Nat.le_of_ble_eq_true rfl, Nat.le_of_ble_eq_true rfl⟩ (Nat.le_of_ble_eq_true rfl) rfl (fun x9 => ?_)
    refine s_goto (tgt := 113) dX5_usedOn_94 (by decide) ?_
    exact s_iret dX5_usedOn_113 rfl
set_option maxRecDepth 20000 in
theorem sim_X5_usedOn_b61 (l : Launch) (v0 : Option Nat) (v1 : Int32) (v2 : Int32) (s0 : Int32) (s1 : Int32) (s2 : Int32) : Sim (M_X5_usedOn l) (zFin zcI) 61 [(0, .inr (.inr v0)), (1, .inl v1), (2, .inl v2)] [.inl s2, .inl s1, .inl s0] (p_X5_usedOn_b61 v0 v1 v2 s0 s1 s2) := by
  unfold p_X5_usedOn_b61
  refine s_cSIN (rest := [.inl s0]) (met_X11_letterOf l s1 s2) mth_X11_letterOf rfl dX5_usedOn_61 w_951 w_397 ⟨Nat.le_of_ble_eq_true rfl, Nat.le_of_ble_eq_true rfl⟩ (Nat.le_of_ble_eq_true rfl) rfl (fun x10 => ?_)
  refine s_icmp_eq (tgt := 69) dX5_usedOn_64 (by decide) ?_ ?_
  · exact Sim.sub [0, 1, 2] rfl (sim_X5_usedOn_b69 l v0 v1 v2)
  · refine s_iconst (v := 0) dX5_usedOn_67 (by decide) ?_
    exact s_iret dX5_usedOn_68 rfl
set_option maxRecDepth 20000 in
theorem sim_X5_usedOn (l : Launch) (v0 : Option Nat) (v1 : Int32) : Sim (M_X5_usedOn l) (zFin zcI) 0 [(0, .inr (.inr v0)), (1, .inl v1)] [] (p_X5_usedOn v0 v1) := by
  unfold p_X5_usedOn
  refine s_iloadn (j := 1) dX5_usedOn_0 rfl ?_
  refine s_cSIN (rest := []) (met_X11_sizeOf l v1) mth_X11_sizeOf rfl dX5_usedOn_1 w_950 w_328 ⟨Nat.le_of_ble_eq_true rfl, Nat.le_of_ble_eq_true rfl⟩ (Nat.le_of_ble_eq_true rfl) rfl (fun x11 => ?_)
  refine s_istoren (lv' := [(2, .inl x11), (0, .inr (.inr v0)), (1, .inl v1)]) dX5_usedOn_4 (Nat.le_of_ble_eq_true rfl) rfl ?_
  refine s_iloadn (j := 0) dX5_usedOn_5 rfl ?_
  refine s_aloadn (j := 1) dX5_usedOn_6 rfl ?_
  refine s_getI (k := 2) cls_6 (by decide) rfl dX5_usedOn_7 w_1000 rfl (fun x12 => ?_)
  refine s_icmp_le (tgt := 32) dX5_usedOn_10 (by decide) ?_ ?_
  · refine s_iconst (v := 0) dX5_usedOn_32 (by decide) ?_
    exact s_iret dX5_usedOn_33 rfl
  · refine s_iloadn (j := 0) dX5_usedOn_13 rfl ?_
    refine s_aloadn (j := 1) dX5_usedOn_14 rfl ?_
    refine s_getI (k := 2) cls_6 (by decide) rfl dX5_usedOn_15 w_1000 rfl (fun x13 => ?_)
    refine s_isub dX5_usedOn_18 ?_
    refine s_aloadn (j := 1) dX5_usedOn_19 rfl ?_
    refine s_getI (k := 4) cls_6 (by decide) rfl dX5_usedOn_20 w_1002 rfl (fun x14 => ?_)
    refine s_cSIN (rest := [.inl (x11 - x13)]) (met_X11_sizeOf l x14) mth_X11_sizeOf rfl dX5_usedOn_23 w_950 w_328 ⟨Nat.le_of_ble_eq_true rfl, Nat.le_of_ble_eq_true rfl⟩ (Nat.le_of_ble_eq_true rfl) rfl (fun x15 => ?_)
    refine s_iadd dX5_usedOn_26 ?_
    refine s_bipush (v := 10) dX5_usedOn_27 (by decide) ?_
    refine s_icmp_le (tgt := 34) dX5_usedOn_29 (by decide) ?_ ?_
    · refine s_aloadn (j := 1) dX5_usedOn_34 rfl ?_
      refine s_getI (k := 3) cls_6 (by decide) rfl dX5_usedOn_35 w_1001 rfl (fun x16 => ?_)
      refine s_iconst (v := (-1)) dX5_usedOn_38 (by decide) ?_
      refine s_icmp_eq (tgt := 69) dX5_usedOn_39 (by decide) ?_ ?_
      · exact Sim.sub [1, 2, 0] rfl (sim_X5_usedOn_b69 l v0 v1 x11)
      · refine s_aloadn (j := 1) dX5_usedOn_42 rfl ?_
        refine s_getI (k := 3) cls_6 (by decide) rfl dX5_usedOn_43 w_1001 rfl (fun x17 => ?_)
        refine s_iloadn (j := 2) dX5_usedOn_46 rfl ?_
        refine s_aloadn (j := 1) dX5_usedOn_47 rfl ?_
        refine s_getI (k := 1) cls_6 (by decide) rfl dX5_usedOn_48 w_998 rfl (fun x18 => ?_)
        refine s_if_eq (tgt := 60) dX5_usedOn_51 (by decide) ?_ ?_
        · refine s_iconst (v := 0) dX5_usedOn_60 (by decide) ?_
          exact Sim.sub [1, 2, 0] rfl (sim_X5_usedOn_b61 l v0 v1 x11 x17 v1 0)
        · refine s_iloadn (j := 0) dX5_usedOn_54 rfl ?_
          refine s_iconst (v := 1) dX5_usedOn_55 (by decide) ?_
          refine s_isub dX5_usedOn_56 ?_
          refine s_goto (tgt := 61) dX5_usedOn_57 (by decide) ?_
          exact Sim.sub [1, 2, 0] rfl (sim_X5_usedOn_b61 l v0 v1 x11 x17 v1 (x11 - 1))
    · refine s_iconst (v := 0) dX5_usedOn_32 (by decide) ?_
      exact s_iret dX5_usedOn_33 rfl
theorem met_X5_usedOn (l : Launch) (v0 : Option Nat) (v1 : Int32) : zMet l yX5_usedOn cX5_usedOn 3 (some .int) 2 46 [.inr (.inr v0), .inl v1] zcI (p_X5_usedOn v0 v1) :=
  zMet.of (by decide +kernel) (Nat.le_of_ble_eq_true rfl) rfl (sim_X5_usedOn l v0 v1)
def p_X5_kindAfter (v0 : Option Nat) (v1 : Int32) : ZM Int32 :=
  z_b (z_gI 6 5 v0) fun x1 => if ¬ x1 = (-1) then (z_b (z_gI 6 5 v0) fun x2 => z_rt x2)
  else (z_rt v1)
abbrev M_X5_kindAfter (l : Launch) : ZMe := (l, "SpellScribe$Rule", cX5_kindAfter, 2, 0, 0, (some .int), "kindAfter", [])
set_option maxRecDepth 20000 in
theorem sim_X5_kindAfter (l : Launch) (v0 : Option Nat) (v1 : Int32) : Sim (M_X5_kindAfter l) (zFin zcI) 0 [(0, .inr (.inr v0)), (1, .inl v1)] [] (p_X5_kindAfter v0 v1) := by
  unfold p_X5_kindAfter
  refine s_aloadn (j := 0) dX5_kindAfter_0 rfl ?_
  refine s_getI (k := 5) cls_6 (by decide) rfl dX5_kindAfter_1 w_1003 rfl (fun x1 => ?_)
  refine s_iconst (v := (-1)) dX5_kindAfter_4 (by decide) ?_
  refine s_icmp_ne (tgt := 12) dX5_kindAfter_5 (by decide) ?_ ?_
  · refine s_aloadn (j := 0) dX5_kindAfter_12 rfl ?_
    refine s_getI (k := 5) cls_6 (by decide) rfl dX5_kindAfter_13 w_1003 rfl (fun x2 => ?_)
    exact s_iret dX5_kindAfter_16 rfl
  · refine s_iloadn (j := 1) dX5_kindAfter_8 rfl ?_
    refine s_goto (tgt := 16) dX5_kindAfter_9 (by decide) ?_
    exact s_iret dX5_kindAfter_16 rfl
theorem met_X5_kindAfter (l : Launch) (v0 : Option Nat) (v1 : Int32) : zMet l yX5_kindAfter cX5_kindAfter 2 (some .int) 0 0 [.inr (.inr v0), .inl v1] zcI (p_X5_kindAfter v0 v1) :=
  zMet.of (by decide +kernel) (Nat.le_of_ble_eq_true rfl) rfl (sim_X5_kindAfter l v0 v1)
def p_X5_formAfter (v0 : Option Nat) (v1 : Int32) : ZM Int32 :=
  z_b (z_gI 6 6 v0) fun x1 => if ¬ x1 = (-1) then (z_b (z_gI 6 6 v0) fun x2 => z_rt x2)
  else (z_rt v1)
abbrev M_X5_formAfter (l : Launch) : ZMe := (l, "SpellScribe$Rule", cX5_formAfter, 2, 0, 0, (some .int), "formAfter", [])
set_option maxRecDepth 20000 in
theorem sim_X5_formAfter (l : Launch) (v0 : Option Nat) (v1 : Int32) : Sim (M_X5_formAfter l) (zFin zcI) 0 [(0, .inr (.inr v0)), (1, .inl v1)] [] (p_X5_formAfter v0 v1) := by
  unfold p_X5_formAfter
  refine s_aloadn (j := 0) dX5_formAfter_0 rfl ?_
  refine s_getI (k := 6) cls_6 (by decide) rfl dX5_formAfter_1 w_1004 rfl (fun x1 => ?_)
  refine s_iconst (v := (-1)) dX5_formAfter_4 (by decide) ?_
  refine s_icmp_ne (tgt := 12) dX5_formAfter_5 (by decide) ?_ ?_
  · refine s_aloadn (j := 0) dX5_formAfter_12 rfl ?_
    refine s_getI (k := 6) cls_6 (by decide) rfl dX5_formAfter_13 w_1004 rfl (fun x2 => ?_)
    exact s_iret dX5_formAfter_16 rfl
  · refine s_iloadn (j := 1) dX5_formAfter_8 rfl ?_
    refine s_goto (tgt := 16) dX5_formAfter_9 (by decide) ?_
    exact s_iret dX5_formAfter_16 rfl
theorem met_X5_formAfter (l : Launch) (v0 : Option Nat) (v1 : Int32) : zMet l yX5_formAfter cX5_formAfter 2 (some .int) 0 0 [.inr (.inr v0), .inl v1] zcI (p_X5_formAfter v0 v1) :=
  zMet.of (by decide +kernel) (Nat.le_of_ble_eq_true rfl) rfl (sim_X5_formAfter l v0 v1)
def p_X2_makeWithBeginnings_b127 (r27 : Option Nat → Option Nat → Int32 → Int32 → Int32 → Int32 → ZM Unit) (v0 : Option Nat) (v1 : Option Nat) (v2 : Int32) (v3 : Int32) (v4 : Int32) (v5 : Int32) : ZM Unit :=
  z_n (v5 + 1 : Int32) fun y1 => r27 v0 v1 v2 v3 v4 y1
def p_X2_makeWithBeginnings_b80 (r27 : Option Nat → Option Nat → Int32 → Int32 → Int32 → Int32 → ZM Unit) (v0 : Option Nat) (v1 : Option Nat) (v2 : Int32) (v3 : Int32) (v4 : Int32) (v5 : Int32) (v6 : Option Nat) (s0 : Int32) : ZM Unit :=
  if s0 = 0 then (p_X2_makeWithBeginnings_b127 r27 v0 v1 v2 v3 v4 v5)
  else (z_b (z_vr 6 v6 (p_X5_kindAfter v6 v3)) fun x2 => z_b (z_vr 6 v6 (p_X5_formAfter v6 v4)) fun x3 => z_b (z_vr 7 v1 (p_X6_knownWith v1 x2 x3)) fun x4 => z_b (z_gR 3 2 v0) fun x5 => z_b (z_gR 3 2 v0) fun x6 => z_b (z_vr 11 x6 (p_X10_valueOf x6 s0)) fun x7 => z_b (z_vr 11 x5 (p_X10_store x5 s0 (x7 ||| x4))) fun _ => p_X2_makeWithBeginnings_b127 r27 v0 v1 v2 v3 v4 v5)
def p_X2_makeWithBeginnings_c27 (r27 : Option Nat → Option Nat → Int32 → Int32 → Int32 → Int32 → ZM Unit) (v0 : Option Nat) (v1 : Option Nat) (v2 : Int32) (v3 : Int32) (v4 : Int32) (v5 : Int32) : ZM Unit :=
  z_b (z_gR 3 1 v0) fun x8 => z_b (z_vr 0 x8 (p_Jx4a65c_size_8abf5 x8)) fun x9 => if x9 ≤ v5 then (z_rt ())
  else (z_b (z_gR 3 1 v0) fun x10 => z_b (z_vr 0 x10 (p_Jx4a65c_get_915e3 x10 v5)) fun x11 => z_b (z_ct 6 x11) fun _ => z_b (z_gI 7 1 v1) fun x12 => z_b (z_vr 6 x11 (p_X5_isAmong x11 x12 0)) fun x13 => if x13 = 0 then (p_X2_makeWithBeginnings_b80 r27 v0 v1 v2 v3 v4 v5 x11 0)
  else (z_b (z_vr 6 x11 (p_X5_usedOn x11 v2)) fun x14 => p_X2_makeWithBeginnings_b80 r27 v0 v1 v2 v3 v4 v5 x11 x14))
def p_X2_makeWithBeginnings_l27 : Nat → Option Nat → Option Nat → Int32 → Int32 → Int32 → Int32 → ZM Unit
  | 0, _, _, _, _, _, _ => z_fl
  | n + 1, v0, v1, v2, v3, v4, v5 => p_X2_makeWithBeginnings_c27 (p_X2_makeWithBeginnings_l27 n) v0 v1 v2 v3 v4 v5
def p_X2_makeWithBeginnings (v0 : Option Nat) (v1 : Option Nat) (v2 : Int32) (v3 : Int32) (v4 : Int32) : ZM Unit :=
  z_b (z_gR 3 2 v0) fun x15 => z_b (z_gR 3 2 v0) fun x16 => z_b (z_vr 11 x16 (p_X10_valueOf x16 v2)) fun x17 => z_b (z_vr 7 v1 (p_X6_knownWith v1 v3 v4)) fun x18 => z_b (z_vr 11 x15 (p_X10_store x15 v2 (x17 ||| x18))) fun _ => p_X2_makeWithBeginnings_l27 zFuel v0 v1 v2 v3 v4 0
abbrev M_X2_makeWithBeginnings (l : Launch) : ZMe := (l, "SpellScribe$Lexicon", cX2_makeWithBeginnings, 9, 3, 86, none, "makeWithBeginnings", [])
set_option maxRecDepth 20000 in
theorem sim_X2_makeWithBeginnings_b127 (l : Launch) (r27 : Option Nat → Option Nat → Int32 → Int32 → Int32 → Int32 → ZM Unit) (hr27 : ∀ (v0 : Option Nat) (v1 : Option Nat) (v2 : Int32) (v3 : Int32) (v4 : Int32) (v5 : Int32), Sim (M_X2_makeWithBeginnings l) (zFin zcV) 27 [(0, .inr (.inr v0)), (1, .inr (.inr v1)), (2, .inl v2), (3, .inl v3), (4, .inl v4), (5, .inl v5)] [] (r27 v0 v1 v2 v3 v4 v5)) (v0 : Option Nat) (v1 : Option Nat) (v2 : Int32) (v3 : Int32) (v4 : Int32) (v5 : Int32) : Sim (M_X2_makeWithBeginnings l) (zFin zcV) 127 [(0, .inr (.inr v0)), (1, .inr (.inr v1)), (2, .inl v2), (3, .inl v3), (4, .inl v4), (5, .inl v5)] [] (p_X2_makeWithBeginnings_b127 r27 v0 v1 v2 v3 v4 v5) := by
  unfold p_X2_makeWithBeginnings_b127
  refine s_n0 (fun y1 hy1 => ?_)
  refine s_iinc (j := 5) (v := y1) (d := 1) (lv' := [(5, .inl y1), (0, .inr (.inr v0)), (1, .inr (.inr v1)), (2, .inl v2), (3, .inl v3), (4, .inl v4)]) dX2_makeWithBeginnings_127 rfl (by decide) hy1 (Nat.le_of_ble_eq_true rfl) rfl ?_
  refine s_goto (tgt := 27) dX2_makeWithBeginnings_130 (by decide) ?_
  exact Sim.sub [1, 2, 3, 4, 5, 0] rfl (hr27 v0 v1 v2 v3 v4 y1)
set_option maxRecDepth 20000 in
theorem sim_X2_makeWithBeginnings_b80 (l : Launch) (r27 : Option Nat → Option Nat → Int32 → Int32 → Int32 → Int32 → ZM Unit) (hr27 : ∀ (v0 : Option Nat) (v1 : Option Nat) (v2 : Int32) (v3 : Int32) (v4 : Int32) (v5 : Int32), Sim (M_X2_makeWithBeginnings l) (zFin zcV) 27 [(0, .inr (.inr v0)), (1, .inr (.inr v1)), (2, .inl v2), (3, .inl v3), (4, .inl v4), (5, .inl v5)] [] (r27 v0 v1 v2 v3 v4 v5)) (v0 : Option Nat) (v1 : Option Nat) (v2 : Int32) (v3 : Int32) (v4 : Int32) (v5 : Int32) (v6 : Option Nat) (s0 : Int32) : Sim (M_X2_makeWithBeginnings l) (zFin zcV) 80 [(0, .inr (.inr v0)), (1, .inr (.inr v1)), (2, .inl v2), (3, .inl v3), (4, .inl v4), (5, .inl v5), (6, .inr (.inr v6))] [.inl s0] (p_X2_makeWithBeginnings_b80 r27 v0 v1 v2 v3 v4 v5 v6 s0) := by
  unfold p_X2_makeWithBeginnings_b80
  refine s_istore (lv' := [(7, .inl s0), (0, .inr (.inr v0)), (1, .inr (.inr v1)), (2, .inl v2), (3, .inl v3), (4, .inl v4), (5, .inl v5), (6, .inr (.inr v6))]) dX2_makeWithBeginnings_80 (Nat.le_of_ble_eq_true rfl) rfl ?_
  refine s_iload (j := 0) dX2_makeWithBeginnings_82 rfl ?_
  refine s_if_eq (tgt := 127) dX2_makeWithBeginnings_84 (by decide) ?_ ?_
  · exact Sim.sub [1, 2, 3, 4, 5, 6] rfl (sim_X2_makeWithBeginnings_b127 l r27 hr27 v0 v1 v2 v3 v4 v5)
  · refine s_aloadn (j := 2) dX2_makeWithBeginnings_87 rfl ?_
    refine s_aload (j := 7) dX2_makeWithBeginnings_88 rfl ?_
    refine s_iloadn (j := 4) dX2_makeWithBeginnings_90 rfl ?_
    refine s_cVI (rest := [.inr (.inr v1)]) (met_X5_kindAfter l v6 v3) cls_6 mth_X5_kindAfter rfl dX2_makeWithBeginnings_91 w_956 w_957 w_958 ⟨Nat.le_of_ble_eq_true rfl, Nat.le_of_ble_eq_true rfl⟩ (Nat.le_of_ble_eq_true rfl) rfl (fun x2 => ?_)
    refine s_aload (j := 7) dX2_makeWithBeginnings_94 rfl ?_
    refine s_iload (j := 5) dX2_makeWithBeginnings_96 rfl ?_
    refine s_cVI (rest := [.inl x2, .inr (.inr v1)]) (met_X5_formAfter l v6 v4) cls_6 mth_X5_formAfter rfl dX2_makeWithBeginnings_98 w_960 w_961 w_962 ⟨Nat.le_of_ble_eq_true rfl, Nat.le_of_ble_eq_true rfl⟩ (Nat.le_of_ble_eq_true rfl) rfl (fun x3 => ?_)
    refine s_cVI (rest := []) (met_X6_knownWith l v1 x2 x3) cls_7 mth_X6_knownWith rfl dX2_makeWithBeginnings_101 w_927 w_928 w_929 ⟨Nat.le_of_ble_eq_true rfl, Nat.le_of_ble_eq_true rfl⟩ (Nat.le_of_ble_eq_true rfl) rfl (fun x4 => ?_)
    refine s_istore (lv' := [(8, .inl x4), (7, .inl s0), (0, .inr (.inr v0)), (1, .inr (.inr v1)), (2, .inl v2), (3, .inl v3), (4, .inl v4), (5, .inl v5), (6, .inr (.inr v6))]) dX2_makeWithBeginnings_104 (Nat.le_of_ble_eq_true rfl) rfl ?_
    refine s_aloadn (j := 2) dX2_makeWithBeginnings_106 rfl ?_
    refine s_getR (k := 2) cls_3 (by decide) rfl dX2_makeWithBeginnings_107 w_101 rfl (fun x5 => ?_)
    refine s_iload (j := 1) dX2_makeWithBeginnings_110 rfl ?_
    refine s_aloadn (j := 2) dX2_makeWithBeginnings_112 rfl ?_
    refine s_getR (k := 2) cls_3 (by decide) rfl dX2_makeWithBeginnings_113 w_101 rfl (fun x6 => ?_)
    refine s_iload (j := 1) dX2_makeWithBeginnings_116 rfl ?_
    refine s_cVI (rest := [.inl s0, .inr (.inr x5)]) (met_X10_valueOf l x6 s0) cls_11 mth_X10_valueOf rfl dX2_makeWithBeginnings_118 w_378 w_379 w_380 ⟨Nat.le_of_ble_eq_true rfl, Nat.le_of_ble_eq_true rfl⟩ (Nat.le_of_ble_eq_true rfl) rfl (fun x7 => ?_)
    refine s_iload (j := 0) dX2_makeWithBeginnings_121 rfl ?_
    refine s_ior dX2_makeWithBeginnings_123 ?_
    refine s_cVV (rest := []) (met_X10_store l x5 s0 (x7 ||| x4)) cls_11 mth_X10_store rfl dX2_makeWithBeginnings_124 w_935 w_936 w_937 ⟨Nat.le_of_ble_eq_true rfl, Nat.le_of_ble_eq_true rfl⟩ (Nat.le_of_ble_eq_true rfl) rfl ?_
    exact Sim.sub [2, 3, 4, 5, 6, 7] rfl (sim_X2_makeWithBeginnings_b127 l r27 hr27 v0 v1 v2 v3 v4 v5)
set_option maxRecDepth 20000 in
theorem sim_X2_makeWithBeginnings_c27 (l : Launch) (r27 : Option Nat → Option Nat → Int32 → Int32 → Int32 → Int32 → ZM Unit) (hr27 : ∀ (v0 : Option Nat) (v1 : Option Nat) (v2 : Int32) (v3 : Int32) (v4 : Int32) (v5 : Int32), Sim (M_X2_makeWithBeginnings l) (zFin zcV) 27 [(0, .inr (.inr v0)), (1, .inr (.inr v1)), (2, .inl v2), (3, .inl v3), (4, .inl v4), (5, .inl v5)] [] (r27 v0 v1 v2 v3 v4 v5)) (v0 : Option Nat) (v1 : Option Nat) (v2 : Int32) (v3 : Int32) (v4 : Int32) (v5 : Int32) : Sim (M_X2_makeWithBeginnings l) (zFin zcV) 27 [(0, .inr (.inr v0)), (1, .inr (.inr v1)), (2, .inl v2), (3, .inl v3), (4, .inl v4), (5, .inl v5)] [] (p_X2_makeWithBeginnings_c27 r27 v0 v1 v2 v3 v4 v5) := by
  unfold p_X2_makeWithBeginnings_c27
  refine s_iload (j := 5) dX2_makeWithBeginnings_27 rfl ?_
  refine s_aloadn (j := 0) dX2_makeWithBeginnings_29 rfl ?_
  refine s_getR (k := 1) cls_3 (by decide) rfl dX2_makeWithBeginnings_30 w_100 rfl (fun x8 => ?_)
  refine s_cFI (rest := [.inl v5]) (met_Jx4a65c_size_8abf5 l x8) cls_0 mth_Jx4a65c_size_8abf5 face_size rfl dX2_makeWithBeginnings_33 w_813 ⟨Nat.le_of_ble_eq_true rfl, Nat.le_of_ble_eq_true rfl⟩ (Nat.le_of_ble_eq_true rfl) rfl (fun x9 => ?_)
  refine s_icmp_ge (tgt := 133) dX2_makeWithBeginnings_38 (by decide) ?_ ?_
  · exact s_vret dX2_makeWithBeginnings_133 rfl
  · refine s_aloadn (j := 0) dX2_makeWithBeginnings_41 rfl ?_
    refine s_getR (k := 1) cls_3 (by decide) rfl dX2_makeWithBeginnings_42 w_100 rfl (fun x10 => ?_)
    refine s_iload (j := 5) dX2_makeWithBeginnings_45 rfl ?_
    refine s_cFR (rest := []) (met_Jx4a65c_get_915e3 l x10 v5) cls_0 mth_Jx4a65c_get_915e3 face_get rfl dX2_makeWithBeginnings_47 w_917 ⟨Nat.le_of_ble_eq_true rfl, Nat.le_of_ble_eq_true rfl⟩ (Nat.le_of_ble_eq_true rfl) rfl (fun x11 => ?_)
    refine s_cast cls_6 dX2_makeWithBeginnings_52 w_941 ?_
    refine s_astore (lv' := [(6, .inr (.inr x11)), (0, .inr (.inr v0)), (1, .inr (.inr v1)), (2, .inl v2), (3, .inl v3), (4, .inl v4), (5, .inl v5)]) dX2_makeWithBeginnings_55 (Nat.le_of_ble_eq_true rfl) rfl ?_
    refine s_aload (j := 0) dX2_makeWithBeginnings_57 rfl ?_
    refine s_aloadn (j := 2) dX2_makeWithBeginnings_59 rfl ?_
    refine s_getIN (k := 1) cls_7 (by decide) rfl dX2_makeWithBeginnings_60 w_824 rfl (fun x12 => ?_)
    refine s_iconst (v := 0) dX2_makeWithBeginnings_63 (by decide) ?_
    refine s_cVI (rest := []) (met_X5_isAmong l x11 x12 0) cls_6 mth_X5_isAmong rfl dX2_makeWithBeginnings_64 w_942 w_943 w_944 ⟨Nat.le_of_ble_eq_true rfl, Nat.le_of_ble_eq_true rfl⟩ (Nat.le_of_ble_eq_true rfl) rfl (fun x13 => ?_)
    refine s_if_eq (tgt := 79) dX2_makeWithBeginnings_67 (by decide) ?_ ?_
    · refine s_iconst (v := 0) dX2_makeWithBeginnings_79 (by decide) ?_
      exact Sim.sub [1, 2, 3, 4, 5, 6, 0] rfl (sim_X2_makeWithBeginnings_b80 l r27 hr27 v0 v1 v2 v3 v4 v5 x11 0)
    · refine s_aload (j := 0) dX2_makeWithBeginnings_70 rfl ?_
      refine s_iloadn (j := 3) dX2_makeWithBeginnings_72 rfl ?_
      refine s_cVI (rest := []) (met_X5_usedOn l x11 v2) cls_6 mth_X5_usedOn rfl dX2_makeWithBeginnings_73 w_946 w_947 w_948 ⟨Nat.le_of_ble_eq_true rfl, Nat.le_of_ble_eq_true rfl⟩ (Nat.le_of_ble_eq_true rfl) rfl (fun x14 => ?_)
      refine s_goto (tgt := 80) dX2_makeWithBeginnings_76 (by decide) ?_
      exact Sim.sub [1, 2, 3, 4, 5, 6, 0] rfl (sim_X2_makeWithBeginnings_b80 l r27 hr27 v0 v1 v2 v3 v4 v5 x11 x14)
theorem sim_X2_makeWithBeginnings_l27 (l : Launch) : ∀ (n : Nat) (v0 : Option Nat) (v1 : Option Nat) (v2 : Int32) (v3 : Int32) (v4 : Int32) (v5 : Int32), Sim (M_X2_makeWithBeginnings l) (zFin zcV) 27 [(0, .inr (.inr v0)), (1, .inr (.inr v1)), (2, .inl v2), (3, .inl v3), (4, .inl v4), (5, .inl v5)] [] (p_X2_makeWithBeginnings_l27 n v0 v1 v2 v3 v4 v5)
  | 0, _, _, _, _, _, _ => s_fl
  | n + 1, v0, v1, v2, v3, v4, v5 => sim_X2_makeWithBeginnings_c27 l (p_X2_makeWithBeginnings_l27 n) (sim_X2_makeWithBeginnings_l27 l n) v0 v1 v2 v3 v4 v5
set_option maxRecDepth 20000 in
theorem sim_X2_makeWithBeginnings (l : Launch) (v0 : Option Nat) (v1 : Option Nat) (v2 : Int32) (v3 : Int32) (v4 : Int32) : Sim (M_X2_makeWithBeginnings l) (zFin zcV) 0 [(0, .inr (.inr v0)), (1, .inr (.inr v1)), (2, .inl v2), (3, .inl v3), (4, .inl v4)] [] (p_X2_makeWithBeginnings v0 v1 v2 v3 v4) := by
  unfold p_X2_makeWithBeginnings
  refine s_aloadn (j := 0) dX2_makeWithBeginnings_0 rfl ?_
  refine s_getR (k := 2) cls_3 (by decide) rfl dX2_makeWithBeginnings_1 w_101 rfl (fun x15 => ?_)
  refine s_iloadn (j := 2) dX2_makeWithBeginnings_4 rfl ?_
  refine s_aloadn (j := 0) dX2_makeWithBeginnings_5 rfl ?_
  refine s_getR (k := 2) cls_3 (by decide) rfl dX2_makeWithBeginnings_6 w_101 rfl (fun x16 => ?_)
  refine s_iloadn (j := 2) dX2_makeWithBeginnings_9 rfl ?_
  refine s_cVI (rest := [.inl v2, .inr (.inr x15)]) (met_X10_valueOf l x16 v2) cls_11 mth_X10_valueOf rfl dX2_makeWithBeginnings_10 w_378 w_379 w_380 ⟨Nat.le_of_ble_eq_true rfl, Nat.le_of_ble_eq_true rfl⟩ (Nat.le_of_ble_eq_true rfl) rfl (fun x17 => ?_)
  refine s_aloadn (j := 1) dX2_makeWithBeginnings_13 rfl ?_
  refine s_iloadn (j := 3) dX2_makeWithBeginnings_14 rfl ?_
  refine s_iload (j := 4) dX2_makeWithBeginnings_15 rfl ?_
  refine s_cVI (rest := [.inl x17, .inl v2, .inr (.inr x15)]) (met_X6_knownWith l v1 v3 v4) cls_7 mth_X6_knownWith rfl dX2_makeWithBeginnings_17 w_927 w_928 w_929 ⟨Nat.le_of_ble_eq_true rfl, Nat.le_of_ble_eq_true rfl⟩ (Nat.le_of_ble_eq_true rfl) rfl (fun x18 => ?_)
  refine s_ior dX2_makeWithBeginnings_20 ?_
  refine s_cVV (rest := []) (met_X10_store l x15 v2 (x17 ||| x18)) cls_11 mth_X10_store rfl dX2_makeWithBeginnings_21 w_935 w_936 w_937 ⟨Nat.le_of_ble_eq_true rfl, Nat.le_of_ble_eq_true rfl⟩ (Nat.le_of_ble_eq_true rfl) rfl ?_
  refine s_iconst (v := 0) dX2_makeWithBeginnings_24 (by decide) ?_
  refine s_istore (lv' := [(5, .inl 0), (0, .inr (.inr v0)), (1, .inr (.inr v1)), (2, .inl v2), (3, .inl v3), (4, .inl v4)]) dX2_makeWithBeginnings_25 (Nat.le_of_ble_eq_true rfl) rfl ?_
  exact Sim.sub [1, 2, 3, 4, 5, 0] rfl (sim_X2_makeWithBeginnings_l27 l zFuel v0 v1 v2 v3 v4 0)
theorem met_X2_makeWithBeginnings (l : Launch) (v0 : Option Nat) (v1 : Option Nat) (v2 : Int32) (v3 : Int32) (v4 : Int32) : zMet l yX2_makeWithBeginnings cX2_makeWithBeginnings 9 none 3 86 [.inr (.inr v0), .inr (.inr v1), .inl v2, .inl v3, .inl v4] zcV (p_X2_makeWithBeginnings v0 v1 v2 v3 v4) :=
  zMet.of (by decide +kernel) (Nat.le_of_ble_eq_true rfl) rfl (sim_X2_makeWithBeginnings l v0 v1 v2 v3 v4)
def p_X2_makeSecondEndings_b81 (r3 : Option Nat → Option Nat → Int32 → Int32 → Int32 → Int32 → Int32 → ZM Unit) (v0 : Option Nat) (v1 : Option Nat) (v2 : Int32) (v3 : Int32) (v4 : Int32) (v5 : Int32) (v6 : Int32) : ZM Unit :=
  z_n (v6 + 1 : Int32) fun y1 => r3 v0 v1 v2 v3 v4 v5 y1
def p_X2_makeSecondEndings_b53 (r3 : Option Nat → Option Nat → Int32 → Int32 → Int32 → Int32 → Int32 → ZM Unit) (v0 : Option Nat) (v1 : Option Nat) (v2 : Int32) (v3 : Int32) (v4 : Int32) (v5 : Int32) (v6 : Int32) (v7 : Option Nat) (s0 : Int32) : ZM Unit :=
  if s0 = 0 then (p_X2_makeSecondEndings_b81 r3 v0 v1 v2 v3 v4 v5 v6)
  else (z_b (z_vr 6 v7 (p_X5_kindAfter v7 v4)) fun x2 => z_b (z_vr 6 v7 (p_X5_formAfter v7 v5)) fun x3 => z_b (z_vr 3 v0 (p_X2_makeWithBeginnings v0 v1 s0 x2 x3)) fun _ => p_X2_makeSecondEndings_b81 r3 v0 v1 v2 v3 v4 v5 v6)
def p_X2_makeSecondEndings_c3 (r3 : Option Nat → Option Nat → Int32 → Int32 → Int32 → Int32 → Int32 → ZM Unit) (v0 : Option Nat) (v1 : Option Nat) (v2 : Int32) (v3 : Int32) (v4 : Int32) (v5 : Int32) (v6 : Int32) : ZM Unit :=
  z_b (z_gR 3 1 v0) fun x4 => z_b (z_vr 0 x4 (p_Jx4a65c_size_8abf5 x4)) fun x5 => if x5 ≤ v6 then (z_rt ())
  else (z_b (z_gR 3 1 v0) fun x6 => z_b (z_vr 0 x6 (p_Jx4a65c_get_915e3 x6 v6)) fun x7 => z_b (z_ct 6 x7) fun _ => z_b (z_vr 6 x7 (p_X5_isAmong x7 v2 1)) fun x8 => if x8 = 0 then (p_X2_makeSecondEndings_b53 r3 v0 v1 v2 v3 v4 v5 v6 x7 0)
  else (z_b (z_vr 6 x7 (p_X5_usedOn x7 v3)) fun x9 => p_X2_makeSecondEndings_b53 r3 v0 v1 v2 v3 v4 v5 v6 x7 x9))
def p_X2_makeSecondEndings_l3 : Nat → Option Nat → Option Nat → Int32 → Int32 → Int32 → Int32 → Int32 → ZM Unit
  | 0, _, _, _, _, _, _, _ => z_fl
  | n + 1, v0, v1, v2, v3, v4, v5, v6 => p_X2_makeSecondEndings_c3 (p_X2_makeSecondEndings_l3 n) v0 v1 v2 v3 v4 v5 v6
def p_X2_makeSecondEndings (v0 : Option Nat) (v1 : Option Nat) (v2 : Int32) (v3 : Int32) (v4 : Int32) (v5 : Int32) : ZM Unit :=
  p_X2_makeSecondEndings_l3 zFuel v0 v1 v2 v3 v4 v5 0
abbrev M_X2_makeSecondEndings (l : Launch) : ZMe := (l, "SpellScribe$Lexicon", cX2_makeSecondEndings, 9, 4, 114, none, "makeSecondEndings", [])
set_option maxRecDepth 20000 in
theorem sim_X2_makeSecondEndings_b81 (l : Launch) (r3 : Option Nat → Option Nat → Int32 → Int32 → Int32 → Int32 → Int32 → ZM Unit) (hr3 : ∀ (v0 : Option Nat) (v1 : Option Nat) (v2 : Int32) (v3 : Int32) (v4 : Int32) (v5 : Int32) (v6 : Int32), Sim (M_X2_makeSecondEndings l) (zFin zcV) 3 [(0, .inr (.inr v0)), (1, .inr (.inr v1)), (2, .inl v2), (3, .inl v3), (4, .inl v4), (5, .inl v5), (6, .inl v6)] [] (r3 v0 v1 v2 v3 v4 v5 v6)) (v0 : Option Nat) (v1 : Option Nat) (v2 : Int32) (v3 : Int32) (v4 : Int32) (v5 : Int32) (v6 : Int32) : Sim (M_X2_makeSecondEndings l) (zFin zcV) 81 [(0, .inr (.inr v0)), (1, .inr (.inr v1)), (2, .inl v2), (3, .inl v3), (4, .inl v4), (5, .inl v5), (6, .inl v6)] [] (p_X2_makeSecondEndings_b81 r3 v0 v1 v2 v3 v4 v5 v6) := by
  unfold p_X2_makeSecondEndings_b81
  refine s_n0 (fun y1 hy1 => ?_)
  refine s_iinc (j := 6) (v := y1) (d := 1) (lv' := [(6, .inl y1), (0, .inr (.inr v0)), (1, .inr (.inr v1)), (2, .inl v2), (3, .inl v3), (4, .inl v4), (5, .inl v5)]) dX2_makeSecondEndings_81 rfl (by decide) hy1 (Nat.le_of_ble_eq_true rfl) rfl ?_
  refine s_goto (tgt := 3) dX2_makeSecondEndings_84 (by decide) ?_
  exact Sim.sub [1, 2, 3, 4, 5, 6, 0] rfl (hr3 v0 v1 v2 v3 v4 v5 y1)
set_option maxRecDepth 20000 in
theorem sim_X2_makeSecondEndings_b53 (l : Launch) (r3 : Option Nat → Option Nat → Int32 → Int32 → Int32 → Int32 → Int32 → ZM Unit) (hr3 : ∀ (v0 : Option Nat) (v1 : Option Nat) (v2 : Int32) (v3 : Int32) (v4 : Int32) (v5 : Int32) (v6 : Int32), Sim (M_X2_makeSecondEndings l) (zFin zcV) 3 [(0, .inr (.inr v0)), (1, .inr (.inr v1)), (2, .inl v2), (3, .inl v3), (4, .inl v4), (5, .inl v5), (6, .inl v6)] [] (r3 v0 v1 v2 v3 v4 v5 v6)) (v0 : Option Nat) (v1 : Option Nat) (v2 : Int32) (v3 : Int32) (v4 : Int32) (v5 : Int32) (v6 : Int32) (v7 : Option Nat) (s0 : Int32) : Sim (M_X2_makeSecondEndings l) (zFin zcV) 53 [(0, .inr (.inr v0)), (1, .inr (.inr v1)), (2, .inl v2), (3, .inl v3), (4, .inl v4), (5, .inl v5), (6, .inl v6), (7, .inr (.inr v7))] [.inl s0] (p_X2_makeSecondEndings_b53 r3 v0 v1 v2 v3 v4 v5 v6 v7 s0) := by
  unfold p_X2_makeSecondEndings_b53
  refine s_istore (lv' := [(8, .inl s0), (0, .inr (.inr v0)), (1, .inr (.inr v1)), (2, .inl v2), (3, .inl v3), (4, .inl v4), (5, .inl v5), (6, .inl v6), (7, .inr (.inr v7))]) dX2_makeSecondEndings_53 (Nat.le_of_ble_eq_true rfl) rfl ?_
  refine s_iload (j := 0) dX2_makeSecondEndings_55 rfl ?_
  refine s_if_eq (tgt := 81) dX2_makeSecondEndings_57 (by decide) ?_ ?_
  · exact Sim.sub [1, 2, 3, 4, 5, 6, 7] rfl (sim_X2_makeSecondEndings_b81 l r3 hr3 v0 v1 v2 v3 v4 v5 v6)
  · refine s_aloadn (j := 1) dX2_makeSecondEndings_60 rfl ?_
    refine s_aloadn (j := 2) dX2_makeSecondEndings_61 rfl ?_
    refine s_iload (j := 0) dX2_makeSecondEndings_62 rfl ?_
    refine s_aload (j := 8) dX2_makeSecondEndings_64 rfl ?_
    refine s_iload (j := 5) dX2_makeSecondEndings_66 rfl ?_
    refine s_cVI (rest := [.inl s0, .inr (.inr v1), .inr (.inr v0)]) (met_X5_kindAfter l v7 v4) cls_6 mth_X5_kindAfter rfl dX2_makeSecondEndings_68 w_956 w_957 w_958 ⟨Nat.le_of_ble_eq_true rfl, Nat.le_of_ble_eq_true rfl⟩ (Nat.le_of_ble_eq_true rfl) rfl (fun x2 => ?_)
    refine s_aload (j := 8) dX2_makeSecondEndings_71 rfl ?_
    refine s_iload (j := 6) dX2_makeSecondEndings_73 rfl ?_
    refine s_cVI (rest := [.inl x2, .inl s0, .inr (.inr v1), .inr (.inr v0)]) (met_X5_formAfter l v7 v5) cls_6 mth_X5_formAfter rfl dX2_makeSecondEndings_75 w_960 w_961 w_962 ⟨Nat.le_of_ble_eq_true rfl, Nat.le_of_ble_eq_true rfl⟩ (Nat.le_of_ble_eq_true rfl) rfl (fun x3 => ?_)
    refine s_cVV (rest := []) (met_X2_makeWithBeginnings l v0 v1 s0 x2 x3) cls_3 mth_X2_makeWithBeginnings rfl dX2_makeSecondEndings_78 w_923 w_925 wp_32 ⟨Nat.le_of_ble_eq_true rfl, Nat.le_of_ble_eq_true rfl⟩ (Nat.le_of_ble_eq_true rfl) rfl ?_
    exact Sim.sub [1, 2, 3, 4, 5, 6, 7] rfl (sim_X2_makeSecondEndings_b81 l r3 hr3 v0 v1 v2 v3 v4 v5 v6)
set_option maxRecDepth 20000 in
theorem sim_X2_makeSecondEndings_c3 (l : Launch) (r3 : Option Nat → Option Nat → Int32 → Int32 → Int32 → Int32 → Int32 → ZM Unit) (hr3 : ∀ (v0 : Option Nat) (v1 : Option Nat) (v2 : Int32) (v3 : Int32) (v4 : Int32) (v5 : Int32) (v6 : Int32), Sim (M_X2_makeSecondEndings l) (zFin zcV) 3 [(0, .inr (.inr v0)), (1, .inr (.inr v1)), (2, .inl v2), (3, .inl v3), (4, .inl v4), (5, .inl v5), (6, .inl v6)] [] (r3 v0 v1 v2 v3 v4 v5 v6)) (v0 : Option Nat) (v1 : Option Nat) (v2 : Int32) (v3 : Int32) (v4 : Int32) (v5 : Int32) (v6 : Int32) : Sim (M_X2_makeSecondEndings l) (zFin zcV) 3 [(0, .inr (.inr v0)), (1, .inr (.inr v1)), (2, .inl v2), (3, .inl v3), (4, .inl v4), (5, .inl v5), (6, .inl v6)] [] (p_X2_makeSecondEndings_c3 r3 v0 v1 v2 v3 v4 v5 v6) := by
  unfold p_X2_makeSecondEndings_c3
  refine s_iload (j := 6) dX2_makeSecondEndings_3 rfl ?_
  refine s_aloadn (j := 0) dX2_makeSecondEndings_5 rfl ?_
  refine s_getR (k := 1) cls_3 (by decide) rfl dX2_makeSecondEndings_6 w_100 rfl (fun x4 => ?_)
  refine s_cFI (rest := [.inl v6]) (met_Jx4a65c_size_8abf5 l x4) cls_0 mth_Jx4a65c_size_8abf5 face_size rfl dX2_makeSecondEndings_9 w_813 ⟨Nat.le_of_ble_eq_true rfl, Nat.le_of_ble_eq_true rfl⟩ (Nat.le_of_ble_eq_true rfl) rfl (fun x5 => ?_)
  refine s_icmp_ge (tgt := 87) dX2_makeSecondEndings_14 (by decide) ?_ ?_
  · exact s_vret dX2_makeSecondEndings_87 rfl
  · refine s_aloadn (j := 0) dX2_makeSecondEndings_17 rfl ?_
    refine s_getR (k := 1) cls_3 (by decide) rfl dX2_makeSecondEndings_18 w_100 rfl (fun x6 => ?_)
    refine s_iload (j := 6) dX2_makeSecondEndings_21 rfl ?_
    refine s_cFR (rest := []) (met_Jx4a65c_get_915e3 l x6 v6) cls_0 mth_Jx4a65c_get_915e3 face_get rfl dX2_makeSecondEndings_23 w_917 ⟨Nat.le_of_ble_eq_true rfl, Nat.le_of_ble_eq_true rfl⟩ (Nat.le_of_ble_eq_true rfl) rfl (fun x7 => ?_)
    refine s_cast cls_6 dX2_makeSecondEndings_28 w_941 ?_
    refine s_astore (lv' := [(7, .inr (.inr x7)), (0, .inr (.inr v0)), (1, .inr (.inr v1)), (2, .inl v2), (3, .inl v3), (4, .inl v4), (5, .inl v5), (6, .inl v6)]) dX2_makeSecondEndings_31 (Nat.le_of_ble_eq_true rfl) rfl ?_
    refine s_aload (j := 0) dX2_makeSecondEndings_33 rfl ?_
    refine s_iloadn (j := 3) dX2_makeSecondEndings_35 rfl ?_
    refine s_iconst (v := 1) dX2_makeSecondEndings_36 (by decide) ?_
    refine s_cVI (rest := []) (met_X5_isAmong l x7 v2 1) cls_6 mth_X5_isAmong rfl dX2_makeSecondEndings_37 w_942 w_943 w_944 ⟨Nat.le_of_ble_eq_true rfl, Nat.le_of_ble_eq_true rfl⟩ (Nat.le_of_ble_eq_true rfl) rfl (fun x8 => ?_)
    refine s_if_eq (tgt := 52) dX2_makeSecondEndings_40 (by decide) ?_ ?_
    · refine s_iconst (v := 0) dX2_makeSecondEndings_52 (by decide) ?_
      exact Sim.sub [1, 2, 3, 4, 5, 6, 7, 0] rfl (sim_X2_makeSecondEndings_b53 l r3 hr3 v0 v1 v2 v3 v4 v5 v6 x7 0)
    · refine s_aload (j := 0) dX2_makeSecondEndings_43 rfl ?_
      refine s_iloadn (j := 4) dX2_makeSecondEndings_45 rfl ?_
      refine s_cVI (rest := []) (met_X5_usedOn l x7 v3) cls_6 mth_X5_usedOn rfl dX2_makeSecondEndings_46 w_946 w_947 w_948 ⟨Nat.le_of_ble_eq_true rfl, Nat.le_of_ble_eq_true rfl⟩ (Nat.le_of_ble_eq_true rfl) rfl (fun x9 => ?_)
      refine s_goto (tgt := 53) dX2_makeSecondEndings_49 (by decide) ?_
      exact Sim.sub [1, 2, 3, 4, 5, 6, 7, 0] rfl (sim_X2_makeSecondEndings_b53 l r3 hr3 v0 v1 v2 v3 v4 v5 v6 x7 x9)
theorem sim_X2_makeSecondEndings_l3 (l : Launch) : ∀ (n : Nat) (v0 : Option Nat) (v1 : Option Nat) (v2 : Int32) (v3 : Int32) (v4 : Int32) (v5 : Int32) (v6 : Int32), Sim (M_X2_makeSecondEndings l) (zFin zcV) 3 [(0, .inr (.inr v0)), (1, .inr (.inr v1)), (2, .inl v2), (3, .inl v3), (4, .inl v4), (5, .inl v5), (6, .inl v6)] [] (p_X2_makeSecondEndings_l3 n v0 v1 v2 v3 v4 v5 v6)
  | 0, _, _, _, _, _, _, _ => s_fl
  | n + 1, v0, v1, v2, v3, v4, v5, v6 => sim_X2_makeSecondEndings_c3 l (p_X2_makeSecondEndings_l3 n) (sim_X2_makeSecondEndings_l3 l n) v0 v1 v2 v3 v4 v5 v6
set_option maxRecDepth 20000 in
theorem sim_X2_makeSecondEndings (l : Launch) (v0 : Option Nat) (v1 : Option Nat) (v2 : Int32) (v3 : Int32) (v4 : Int32) (v5 : Int32) : Sim (M_X2_makeSecondEndings l) (zFin zcV) 0 [(0, .inr (.inr v0)), (1, .inr (.inr v1)), (2, .inl v2), (3, .inl v3), (4, .inl v4), (5, .inl v5)] [] (p_X2_makeSecondEndings v0 v1 v2 v3 v4 v5) := by
  unfold p_X2_makeSecondEndings
  refine s_iconst (v := 0) dX2_makeSecondEndings_0 (by decide) ?_
  refine s_istore (lv' := [(6, .inl 0), (0, .inr (.inr v0)), (1, .inr (.inr v1)), (2, .inl v2), (3, .inl v3), (4, .inl v4), (5, .inl v5)]) dX2_makeSecondEndings_1 (Nat.le_of_ble_eq_true rfl) rfl ?_
  exact Sim.sub [1, 2, 3, 4, 5, 6, 0] rfl (sim_X2_makeSecondEndings_l3 l zFuel v0 v1 v2 v3 v4 v5 0)
theorem met_X2_makeSecondEndings (l : Launch) (v0 : Option Nat) (v1 : Option Nat) (v2 : Int32) (v3 : Int32) (v4 : Int32) (v5 : Int32) : zMet l yX2_makeSecondEndings cX2_makeSecondEndings 9 none 4 114 [.inr (.inr v0), .inr (.inr v1), .inl v2, .inl v3, .inl v4, .inl v5] zcV (p_X2_makeSecondEndings v0 v1 v2 v3 v4 v5) :=
  zMet.of (by decide +kernel) (Nat.le_of_ble_eq_true rfl) rfl (sim_X2_makeSecondEndings l v0 v1 v2 v3 v4 v5)
def p_X2_makeOf_b123 (r19 : Option Nat → Option Nat → Int32 → ZM Unit) (v0 : Option Nat) (v1 : Option Nat) (v2 : Int32) : ZM Unit :=
  z_n (v2 + 1 : Int32) fun y1 => r19 v0 v1 y1
def p_X2_makeOf_b70 (r19 : Option Nat → Option Nat → Int32 → ZM Unit) (v0 : Option Nat) (v1 : Option Nat) (v2 : Int32) (v3 : Option Nat) (s0 : Int32) : ZM Unit :=
  if s0 = 0 then (p_X2_makeOf_b123 r19 v0 v1 v2)
  else (z_b (z_gI 7 2 v1) fun x2 => z_b (z_vr 6 v3 (p_X5_kindAfter v3 x2)) fun x3 => z_b (z_gI 7 3 v1) fun x4 => z_b (z_vr 6 v3 (p_X5_formAfter v3 x4)) fun x5 => z_b (z_vr 3 v0 (p_X2_makeWithBeginnings v0 v1 s0 x3 x5)) fun _ => z_b (z_gI 6 7 v3) fun x6 => z_b (z_vr 3 v0 (p_X2_makeSecondEndings v0 v1 x6 s0 x3 x5)) fun _ => p_X2_makeOf_b123 r19 v0 v1 v2)
def p_X2_makeOf_c19 (r19 : Option Nat → Option Nat → Int32 → ZM Unit) (v0 : Option Nat) (v1 : Option Nat) (v2 : Int32) : ZM Unit :=
  z_b (z_gR 3 1 v0) fun x7 => z_b (z_vr 0 x7 (p_Jx4a65c_size_8abf5 x7)) fun x8 => if x8 ≤ v2 then (z_rt ())
  else (z_b (z_gR 3 1 v0) fun x9 => z_b (z_vr 0 x9 (p_Jx4a65c_get_915e3 x9 v2)) fun x10 => z_b (z_ct 6 x10) fun _ => z_b (z_gI 7 1 v1) fun x11 => z_b (z_vr 6 x10 (p_X5_isAmong x10 x11 1)) fun x12 => if x12 = 0 then (p_X2_makeOf_b70 r19 v0 v1 v2 x10 0)
  else (z_b (z_gI 7 0 v1) fun x13 => z_b (z_vr 6 x10 (p_X5_usedOn x10 x13)) fun x14 => p_X2_makeOf_b70 r19 v0 v1 v2 x10 x14))
def p_X2_makeOf_l19 : Nat → Option Nat → Option Nat → Int32 → ZM Unit
  | 0, _, _, _ => z_fl
  | n + 1, v0, v1, v2 => p_X2_makeOf_c19 (p_X2_makeOf_l19 n) v0 v1 v2
def p_X2_makeOf (v0 : Option Nat) (v1 : Option Nat) : ZM Unit :=
  z_b (z_gI 7 0 v1) fun x15 => z_b (z_gI 7 2 v1) fun x16 => z_b (z_gI 7 3 v1) fun x17 => z_b (z_vr 3 v0 (p_X2_makeWithBeginnings v0 v1 x15 x16 x17)) fun _ => p_X2_makeOf_l19 zFuel v0 v1 0
abbrev M_X2_makeOf (l : Launch) : ZMe := (l, "SpellScribe$Lexicon", cX2_makeOf, 7, 5, 142, none, "makeOf", [])
set_option maxRecDepth 20000 in
theorem sim_X2_makeOf_b123 (l : Launch) (r19 : Option Nat → Option Nat → Int32 → ZM Unit) (hr19 : ∀ (v0 : Option Nat) (v1 : Option Nat) (v2 : Int32), Sim (M_X2_makeOf l) (zFin zcV) 19 [(0, .inr (.inr v0)), (1, .inr (.inr v1)), (2, .inl v2)] [] (r19 v0 v1 v2)) (v0 : Option Nat) (v1 : Option Nat) (v2 : Int32) : Sim (M_X2_makeOf l) (zFin zcV) 123 [(0, .inr (.inr v0)), (1, .inr (.inr v1)), (2, .inl v2)] [] (p_X2_makeOf_b123 r19 v0 v1 v2) := by
  unfold p_X2_makeOf_b123
  refine s_n0 (fun y1 hy1 => ?_)
  refine s_iinc (j := 2) (v := y1) (d := 1) (lv' := [(2, .inl y1), (0, .inr (.inr v0)), (1, .inr (.inr v1))]) dX2_makeOf_123 rfl (by decide) hy1 (Nat.le_of_ble_eq_true rfl) rfl ?_
  refine s_goto (tgt := 19) dX2_makeOf_126 (by decide) ?_
  exact Sim.sub [1, 2, 0] rfl (hr19 v0 v1 y1)
set_option maxRecDepth 20000 in
theorem sim_X2_makeOf_b70 (l : Launch) (r19 : Option Nat → Option Nat → Int32 → ZM Unit) (hr19 : ∀ (v0 : Option Nat) (v1 : Option Nat) (v2 : Int32), Sim (M_X2_makeOf l) (zFin zcV) 19 [(0, .inr (.inr v0)), (1, .inr (.inr v1)), (2, .inl v2)] [] (r19 v0 v1 v2)) (v0 : Option Nat) (v1 : Option Nat) (v2 : Int32) (v3 : Option Nat) (s0 : Int32) : Sim (M_X2_makeOf l) (zFin zcV) 70 [(0, .inr (.inr v0)), (1, .inr (.inr v1)), (2, .inl v2), (3, .inr (.inr v3))] [.inl s0] (p_X2_makeOf_b70 r19 v0 v1 v2 v3 s0) := by
  unfold p_X2_makeOf_b70
  refine s_istore (lv' := [(4, .inl s0), (0, .inr (.inr v0)), (1, .inr (.inr v1)), (2, .inl v2), (3, .inr (.inr v3))]) dX2_makeOf_70 (Nat.le_of_ble_eq_true rfl) rfl ?_
  refine s_iload (j := 0) dX2_makeOf_72 rfl ?_
  refine s_if_eq (tgt := 123) dX2_makeOf_74 (by decide) ?_ ?_
  · exact Sim.sub [1, 2, 3] rfl (sim_X2_makeOf_b123 l r19 hr19 v0 v1 v2)
  · refine s_aloadn (j := 4) dX2_makeOf_77 rfl ?_
    refine s_aloadn (j := 2) dX2_makeOf_78 rfl ?_
    refine s_getIN (k := 2) cls_7 (by decide) rfl dX2_makeOf_79 w_826 rfl (fun x2 => ?_)
    refine s_cVI (rest := []) (met_X5_kindAfter l v3 x2) cls_6 mth_X5_kindAfter rfl dX2_makeOf_82 w_956 w_957 w_958 ⟨Nat.le_of_ble_eq_true rfl, Nat.le_of_ble_eq_true rfl⟩ (Nat.le_of_ble_eq_true rfl) rfl (fun x3 => ?_)
    refine s_istore (lv' := [(5, .inl x3), (4, .inl s0), (0, .inr (.inr v0)), (1, .inr (.inr v1)), (2, .inl v2), (3, .inr (.inr v3))]) dX2_makeOf_85 (Nat.le_of_ble_eq_true rfl) rfl ?_
    refine s_aloadn (j := 5) dX2_makeOf_87 rfl ?_
    refine s_aloadn (j := 3) dX2_makeOf_88 rfl ?_
    refine s_getIN (k := 3) cls_7 (by decide) rfl dX2_makeOf_89 w_828 rfl (fun x4 => ?_)
    refine s_cVI (rest := []) (met_X5_formAfter l v3 x4) cls_6 mth_X5_formAfter rfl dX2_makeOf_92 w_960 w_961 w_962 ⟨Nat.le_of_ble_eq_true rfl, Nat.le_of_ble_eq_true rfl⟩ (Nat.le_of_ble_eq_true rfl) rfl (fun x5 => ?_)
    refine s_istore (lv' := [(6, .inl x5), (5, .inl x3), (4, .inl s0), (0, .inr (.inr v0)), (1, .inr (.inr v1)), (2, .inl v2), (3, .inr (.inr v3))]) dX2_makeOf_95 (Nat.le_of_ble_eq_true rfl) rfl ?_
    refine s_aloadn (j := 3) dX2_makeOf_97 rfl ?_
    refine s_aloadn (j := 4) dX2_makeOf_98 rfl ?_
    refine s_iload (j := 2) dX2_makeOf_99 rfl ?_
    refine s_iload (j := 1) dX2_makeOf_101 rfl ?_
    refine s_iload (j := 0) dX2_makeOf_103 rfl ?_
    refine s_cVV (rest := []) (met_X2_makeWithBeginnings l v0 v1 s0 x3 x5) cls_3 mth_X2_makeWithBeginnings rfl dX2_makeOf_105 w_923 w_925 wp_32 ⟨Nat.le_of_ble_eq_true rfl, Nat.le_of_ble_eq_true rfl⟩ (Nat.le_of_ble_eq_true rfl) rfl ?_
    refine s_aloadn (j := 3) dX2_makeOf_108 rfl ?_
    refine s_aloadn (j := 4) dX2_makeOf_109 rfl ?_
    refine s_aloadn (j := 6) dX2_makeOf_110 rfl ?_
    refine s_getIN (k := 7) cls_6 (by decide) rfl dX2_makeOf_111 w_1006 rfl (fun x6 => ?_)
    refine s_iload (j := 2) dX2_makeOf_114 rfl ?_
    refine s_iload (j := 1) dX2_makeOf_116 rfl ?_
    refine s_iload (j := 0) dX2_makeOf_118 rfl ?_
    refine s_cVV (rest := []) (met_X2_makeSecondEndings l v0 v1 x6 s0 x3 x5) cls_3 mth_X2_makeSecondEndings rfl dX2_makeOf_120 w_964 w_966 wp_33 ⟨Nat.le_of_ble_eq_true rfl, Nat.le_of_ble_eq_true rfl⟩ (Nat.le_of_ble_eq_true rfl) rfl ?_
    exact Sim.sub [3, 4, 5] rfl (sim_X2_makeOf_b123 l r19 hr19 v0 v1 v2)
set_option maxRecDepth 20000 in
theorem sim_X2_makeOf_c19 (l : Launch) (r19 : Option Nat → Option Nat → Int32 → ZM Unit) (hr19 : ∀ (v0 : Option Nat) (v1 : Option Nat) (v2 : Int32), Sim (M_X2_makeOf l) (zFin zcV) 19 [(0, .inr (.inr v0)), (1, .inr (.inr v1)), (2, .inl v2)] [] (r19 v0 v1 v2)) (v0 : Option Nat) (v1 : Option Nat) (v2 : Int32) : Sim (M_X2_makeOf l) (zFin zcV) 19 [(0, .inr (.inr v0)), (1, .inr (.inr v1)), (2, .inl v2)] [] (p_X2_makeOf_c19 r19 v0 v1 v2) := by
  unfold p_X2_makeOf_c19
  refine s_iloadn (j := 2) dX2_makeOf_19 rfl ?_
  refine s_aloadn (j := 0) dX2_makeOf_20 rfl ?_
  refine s_getR (k := 1) cls_3 (by decide) rfl dX2_makeOf_21 w_100 rfl (fun x7 => ?_)
  refine s_cFI (rest := [.inl v2]) (met_Jx4a65c_size_8abf5 l x7) cls_0 mth_Jx4a65c_size_8abf5 face_size rfl dX2_makeOf_24 w_813 ⟨Nat.le_of_ble_eq_true rfl, Nat.le_of_ble_eq_true rfl⟩ (Nat.le_of_ble_eq_true rfl) rfl (fun x8 => ?_)
  refine s_icmp_ge (tgt := 129) dX2_makeOf_29 (by decide) ?_ ?_
  · exact s_vret dX2_makeOf_129 rfl
  · refine s_aloadn (j := 0) dX2_makeOf_32 rfl ?_
    refine s_getR (k := 1) cls_3 (by decide) rfl dX2_makeOf_33 w_100 rfl (fun x9 => ?_)
    refine s_iloadn (j := 2) dX2_makeOf_36 rfl ?_
    refine s_cFR (rest := []) (met_Jx4a65c_get_915e3 l x9 v2) cls_0 mth_Jx4a65c_get_915e3 face_get rfl dX2_makeOf_37 w_917 ⟨Nat.le_of_ble_eq_true rfl, Nat.le_of_ble_eq_true rfl⟩ (Nat.le_of_ble_eq_true rfl) rfl (fun x10 => ?_)
    refine s_cast cls_6 dX2_makeOf_42 w_941 ?_
    refine s_astoren (lv' := [(3, .inr (.inr x10)), (0, .inr (.inr v0)), (1, .inr (.inr v1)), (2, .inl v2)]) dX2_makeOf_45 (Nat.le_of_ble_eq_true rfl) rfl ?_
    refine s_aloadn (j := 0) dX2_makeOf_46 rfl ?_
    refine s_aloadn (j := 2) dX2_makeOf_47 rfl ?_
    refine s_getIN (k := 1) cls_7 (by decide) rfl dX2_makeOf_48 w_824 rfl (fun x11 => ?_)
    refine s_iconst (v := 1) dX2_makeOf_51 (by decide) ?_
    refine s_cVI (rest := []) (met_X5_isAmong l x10 x11 1) cls_6 mth_X5_isAmong rfl dX2_makeOf_52 w_942 w_943 w_944 ⟨Nat.le_of_ble_eq_true rfl, Nat.le_of_ble_eq_true rfl⟩ (Nat.le_of_ble_eq_true rfl) rfl (fun x12 => ?_)
    refine s_if_eq (tgt := 69) dX2_makeOf_55 (by decide) ?_ ?_
    · refine s_iconst (v := 0) dX2_makeOf_69 (by decide) ?_
      exact Sim.sub [1, 2, 3, 0] rfl (sim_X2_makeOf_b70 l r19 hr19 v0 v1 v2 x10 0)
    · refine s_aloadn (j := 0) dX2_makeOf_58 rfl ?_
      refine s_aloadn (j := 2) dX2_makeOf_59 rfl ?_
      refine s_getIN (k := 0) cls_7 (by decide) rfl dX2_makeOf_60 w_822 rfl (fun x13 => ?_)
      refine s_cVI (rest := []) (met_X5_usedOn l x10 x13) cls_6 mth_X5_usedOn rfl dX2_makeOf_63 w_946 w_947 w_948 ⟨Nat.le_of_ble_eq_true rfl, Nat.le_of_ble_eq_true rfl⟩ (Nat.le_of_ble_eq_true rfl) rfl (fun x14 => ?_)
      refine s_goto (tgt := 70) dX2_makeOf_66 (by decide) ?_
      exact Sim.sub [1, 2, 3, 0] rfl (sim_X2_makeOf_b70 l r19 hr19 v0 v1 v2 x10 x14)
theorem sim_X2_makeOf_l19 (l : Launch) : ∀ (n : Nat) (v0 : Option Nat) (v1 : Option Nat) (v2 : Int32), Sim (M_X2_makeOf l) (zFin zcV) 19 [(0, .inr (.inr v0)), (1, .inr (.inr v1)), (2, .inl v2)] [] (p_X2_makeOf_l19 n v0 v1 v2)
  | 0, _, _, _ => s_fl
  | n + 1, v0, v1, v2 => sim_X2_makeOf_c19 l (p_X2_makeOf_l19 n) (sim_X2_makeOf_l19 l n) v0 v1 v2
set_option maxRecDepth 20000 in
theorem sim_X2_makeOf (l : Launch) (v0 : Option Nat) (v1 : Option Nat) : Sim (M_X2_makeOf l) (zFin zcV) 0 [(0, .inr (.inr v0)), (1, .inr (.inr v1))] [] (p_X2_makeOf v0 v1) := by
  unfold p_X2_makeOf
  refine s_aloadn (j := 0) dX2_makeOf_0 rfl ?_
  refine s_aloadn (j := 1) dX2_makeOf_1 rfl ?_
  refine s_aloadn (j := 1) dX2_makeOf_2 rfl ?_
  refine s_getIN (k := 0) cls_7 (by decide) rfl dX2_makeOf_3 w_822 rfl (fun x15 => ?_)
  refine s_aloadn (j := 1) dX2_makeOf_6 rfl ?_
  refine s_getIN (k := 2) cls_7 (by decide) rfl dX2_makeOf_7 w_826 rfl (fun x16 => ?_)
  refine s_aloadn (j := 1) dX2_makeOf_10 rfl ?_
  refine s_getIN (k := 3) cls_7 (by decide) rfl dX2_makeOf_11 w_828 rfl (fun x17 => ?_)
  refine s_cVV (rest := []) (met_X2_makeWithBeginnings l v0 v1 x15 x16 x17) cls_3 mth_X2_makeWithBeginnings rfl dX2_makeOf_14 w_923 w_925 wp_32 ⟨Nat.le_of_ble_eq_true rfl, Nat.le_of_ble_eq_true rfl⟩ (Nat.le_of_ble_eq_true rfl) rfl ?_
  refine s_iconst (v := 0) dX2_makeOf_17 (by decide) ?_
  refine s_istoren (lv' := [(2, .inl 0), (0, .inr (.inr v0)), (1, .inr (.inr v1))]) dX2_makeOf_18 (Nat.le_of_ble_eq_true rfl) rfl ?_
  exact Sim.sub [1, 2, 0] rfl (sim_X2_makeOf_l19 l zFuel v0 v1 0)
theorem met_X2_makeOf (l : Launch) (v0 : Option Nat) (v1 : Option Nat) : zMet l yX2_makeOf cX2_makeOf 7 none 5 142 [.inr (.inr v0), .inr (.inr v1)] zcV (p_X2_makeOf v0 v1) :=
  zMet.of (by decide +kernel) (Nat.le_of_ble_eq_true rfl) rfl (sim_X2_makeOf l v0 v1)
def p_X2_remake_b45 (v0 : Option Nat) : ZM Unit :=
  z_b (z_vr 3 v0 (p_X2_listSuggestable v0)) fun _ => z_rt ()
def p_X2_remake_c9 (r9 : Option Nat → Int32 → ZM Unit) (v0 : Option Nat) (v1 : Int32) : ZM Unit :=
  z_b (z_gR 3 0 v0) fun x1 => z_b (z_vr 0 x1 (p_Jx4a65c_size_8abf5 x1)) fun x2 => if x2 ≤ v1 then (p_X2_remake_b45 v0)
  else (z_b (z_gR 3 0 v0) fun x3 => z_b (z_vr 0 x3 (p_Jx4a65c_get_915e3 x3 v1)) fun x4 => z_b (z_ct 7 x4) fun _ => z_b (z_vr 3 v0 (p_X2_makeOf v0 x4)) fun _ => z_n (v1 + 1 : Int32) fun y5 => r9 v0 y5)
def p_X2_remake_l9 : Nat → Option Nat → Int32 → ZM Unit
  | 0, _, _ => z_fl
  | n + 1, v0, v1 => p_X2_remake_c9 (p_X2_remake_l9 n) v0 v1
def p_X2_remake (v0 : Option Nat) : ZM Unit :=
  z_b (z_gR 3 2 v0) fun x6 => z_b (z_vr 11 x6 (p_X10_clear x6)) fun _ => p_X2_remake_l9 zFuel v0 0
abbrev M_X2_remake (l : Launch) : ZMe := (l, "SpellScribe$Lexicon", cX2_remake, 2, 6, 168, none, "remake", [])
set_option maxRecDepth 20000 in
theorem sim_X2_remake_b45 (l : Launch) (v0 : Option Nat) : Sim (M_X2_remake l) (zFin zcV) 45 [(0, .inr (.inr v0))] [] (p_X2_remake_b45 v0) := by
  unfold p_X2_remake_b45
  refine s_aloadn (j := 0) dX2_remake_45 rfl ?_
  refine s_cVV (rest := []) (met_X2_listSuggestable l v0) cls_3 mth_X2_listSuggestable rfl dX2_remake_46 w_968 w_970 wp_34 ⟨Nat.le_of_ble_eq_true rfl, Nat.le_of_ble_eq_true rfl⟩ (Nat.le_of_ble_eq_true rfl) rfl ?_
  exact s_vret dX2_remake_49 rfl
set_option maxRecDepth 20000 in
theorem sim_X2_remake_c9 (l : Launch) (r9 : Option Nat → Int32 → ZM Unit) (hr9 : ∀ (v0 : Option Nat) (v1 : Int32), Sim (M_X2_remake l) (zFin zcV) 9 [(0, .inr (.inr v0)), (1, .inl v1)] [] (r9 v0 v1)) (v0 : Option Nat) (v1 : Int32) : Sim (M_X2_remake l) (zFin zcV) 9 [(0, .inr (.inr v0)), (1, .inl v1)] [] (p_X2_remake_c9 r9 v0 v1) := by
  unfold p_X2_remake_c9
  refine s_iloadn (j := 1) dX2_remake_9 rfl ?_
  refine s_aloadn (j := 0) dX2_remake_10 rfl ?_
  refine s_getR (k := 0) cls_3 (by decide) rfl dX2_remake_11 w_99 rfl (fun x1 => ?_)
  refine s_cFI (rest := [.inl v1]) (met_Jx4a65c_size_8abf5 l x1) cls_0 mth_Jx4a65c_size_8abf5 face_size rfl dX2_remake_14 w_813 ⟨Nat.le_of_ble_eq_true rfl, Nat.le_of_ble_eq_true rfl⟩ (Nat.le_of_ble_eq_true rfl) rfl (fun x2 => ?_)
  refine s_icmp_ge (tgt := 45) dX2_remake_19 (by decide) ?_ ?_
  · exact Sim.sub [0] rfl (sim_X2_remake_b45 l v0)
  · refine s_aloadn (j := 0) dX2_remake_22 rfl ?_
    refine s_aloadn (j := 0) dX2_remake_23 rfl ?_
    refine s_getR (k := 0) cls_3 (by decide) rfl dX2_remake_24 w_99 rfl (fun x3 => ?_)
    refine s_iloadn (j := 1) dX2_remake_27 rfl ?_
    refine s_cFR (rest := [.inr (.inr v0)]) (met_Jx4a65c_get_915e3 l x3 v1) cls_0 mth_Jx4a65c_get_915e3 face_get rfl dX2_remake_28 w_917 ⟨Nat.le_of_ble_eq_true rfl, Nat.le_of_ble_eq_true rfl⟩ (Nat.le_of_ble_eq_true rfl) rfl (fun x4 => ?_)
    refine s_cast cls_7 dX2_remake_33 w_918 ?_
    refine s_cVV (rest := []) (met_X2_makeOf l v0 x4) cls_3 mth_X2_makeOf rfl dX2_remake_36 w_919 w_921 wp_31 ⟨Nat.le_of_ble_eq_true rfl, Nat.le_of_ble_eq_true rfl⟩ (Nat.le_of_ble_eq_true rfl) rfl ?_
    refine s_n0 (fun y5 hy5 => ?_)
    refine s_iinc (j := 1) (v := y5) (d := 1) (lv' := [(1, .inl y5), (0, .inr (.inr v0))]) dX2_remake_39 rfl (by decide) hy5 (Nat.le_of_ble_eq_true rfl) rfl ?_
    refine s_goto (tgt := 9) dX2_remake_42 (by decide) ?_
    exact Sim.sub [1, 0] rfl (hr9 v0 y5)
theorem sim_X2_remake_l9 (l : Launch) : ∀ (n : Nat) (v0 : Option Nat) (v1 : Int32), Sim (M_X2_remake l) (zFin zcV) 9 [(0, .inr (.inr v0)), (1, .inl v1)] [] (p_X2_remake_l9 n v0 v1)
  | 0, _, _ => s_fl
  | n + 1, v0, v1 => sim_X2_remake_c9 l (p_X2_remake_l9 n) (sim_X2_remake_l9 l n) v0 v1
set_option maxRecDepth 20000 in
theorem sim_X2_remake (l : Launch) (v0 : Option Nat) : Sim (M_X2_remake l) (zFin zcV) 0 [(0, .inr (.inr v0))] [] (p_X2_remake v0) := by
  unfold p_X2_remake
  refine s_aloadn (j := 0) dX2_remake_0 rfl ?_
  refine s_getR (k := 2) cls_3 (by decide) rfl dX2_remake_1 w_101 rfl (fun x6 => ?_)
  refine s_cVV (rest := []) (met_X10_clear l x6) cls_11 mth_X10_clear rfl dX2_remake_4 w_912 w_913 w_914 ⟨Nat.le_of_ble_eq_true rfl, Nat.le_of_ble_eq_true rfl⟩ (Nat.le_of_ble_eq_true rfl) rfl ?_
  refine s_iconst (v := 0) dX2_remake_7 (by decide) ?_
  refine s_istoren (lv' := [(1, .inl 0), (0, .inr (.inr v0))]) dX2_remake_8 (Nat.le_of_ble_eq_true rfl) rfl ?_
  exact Sim.sub [1, 0] rfl (sim_X2_remake_l9 l zFuel v0 0)
theorem met_X2_remake (l : Launch) (v0 : Option Nat) : zMet l yX2_remake cX2_remake 2 none 6 168 [.inr (.inr v0)] zcV (p_X2_remake v0) :=
  zMet.of (by decide +kernel) (Nat.le_of_ble_eq_true rfl) rfl (sim_X2_remake l v0)
def p_X2_canBeBorder (v0 : Option Nat) (v1 : Int32) (v2 : Int32) : ZM Int32 :=
  z_b (p_X11_letterOf v1 (v2 - 1)) fun x1 => z_b (p_X11_letterOf v1 v2) fun x2 => if x1 = x2 then (z_rz 0)
  else (z_rz 1)
abbrev M_X2_canBeBorder (l : Launch) : ZMe := (l, "SpellScribe$Lexicon", cX2_canBeBorder, 3, 2, 43, (some .boolean), "canBeBorder", [])
set_option maxRecDepth 20000 in
theorem sim_X2_canBeBorder (l : Launch) (v0 : Option Nat) (v1 : Int32) (v2 : Int32) : Sim (M_X2_canBeBorder l) (zFin zcI) 0 [(0, .inr (.inr v0)), (1, .inl v1), (2, .inl v2)] [] (p_X2_canBeBorder v0 v1 v2) := by
  unfold p_X2_canBeBorder
  refine s_iloadn (j := 1) dX2_canBeBorder_0 rfl ?_
  refine s_iloadn (j := 2) dX2_canBeBorder_1 rfl ?_
  refine s_iconst (v := 1) dX2_canBeBorder_2 (by decide) ?_
  refine s_isub dX2_canBeBorder_3 ?_
  refine s_cSIN (rest := []) (met_X11_letterOf l v1 (v2 - 1)) mth_X11_letterOf rfl dX2_canBeBorder_4 w_396 w_397 ⟨Nat.le_of_ble_eq_true rfl, Nat.le_of_ble_eq_true rfl⟩ (Nat.le_of_ble_eq_true rfl) rfl (fun x1 => ?_)
  refine s_iloadn (j := 1) dX2_canBeBorder_7 rfl ?_
  refine s_iloadn (j := 2) dX2_canBeBorder_8 rfl ?_
  refine s_cSIN (rest := [.inl x1]) (met_X11_letterOf l v1 v2) mth_X11_letterOf rfl dX2_canBeBorder_9 w_396 w_397 ⟨Nat.le_of_ble_eq_true rfl, Nat.le_of_ble_eq_true rfl⟩ (Nat.le_of_ble_eq_true rfl) rfl (fun x2 => ?_)
  refine s_icmp_eq (tgt := 19) dX2_canBeBorder_12 (by decide) ?_ ?_
  · refine s_iconst (v := 0) dX2_canBeBorder_19 (by decide) ?_
    exact s_zret dX2_canBeBorder_20 rfl
  · refine s_iconst (v := 1) dX2_canBeBorder_15 (by decide) ?_
    refine s_goto (tgt := 20) dX2_canBeBorder_16 (by decide) ?_
    exact s_zret dX2_canBeBorder_20 rfl
theorem met_X2_canBeBorder (l : Launch) (v0 : Option Nat) (v1 : Int32) (v2 : Int32) : zMet l yX2_canBeBorder cX2_canBeBorder 3 (some .boolean) 2 43 [.inr (.inr v0), .inl v1, .inl v2] zcI (p_X2_canBeBorder v0 v1 v2) :=
  zMet.of (by decide +kernel) (Nat.le_of_ble_eq_true rfl) rfl (sim_X2_canBeBorder l v0 v1 v2)
def p_X2_readingsInJoin (v0 : Option Nat) (v1 : Int32) (v2 : Int32) (v3 : Int32) : ZM Int32 :=
  z_b (z_gR 3 2 v0) fun x1 => z_b (p_X11_partOf v1 v2 v3) fun x2 => z_b (z_vr 11 x1 (p_X10_valueOf x1 x2)) fun x3 => z_rt ((x3 >>> (8 &&& 31)) &&& 255)
abbrev M_X2_readingsInJoin (l : Launch) : ZMe := (l, "SpellScribe$Lexicon", cX2_readingsInJoin, 4, 3, 68, (some .int), "readingsInJoin", [])
set_option maxRecDepth 20000 in
theorem sim_X2_readingsInJoin (l : Launch) (v0 : Option Nat) (v1 : Int32) (v2 : Int32) (v3 : Int32) : Sim (M_X2_readingsInJoin l) (zFin zcI) 0 [(0, .inr (.inr v0)), (1, .inl v1), (2, .inl v2), (3, .inl v3)] [] (p_X2_readingsInJoin v0 v1 v2 v3) := by
  unfold p_X2_readingsInJoin
  refine s_aloadn (j := 0) dX2_readingsInJoin_0 rfl ?_
  refine s_getR (k := 2) cls_3 (by decide) rfl dX2_readingsInJoin_1 w_101 rfl (fun x1 => ?_)
  refine s_iloadn (j := 1) dX2_readingsInJoin_4 rfl ?_
  refine s_iloadn (j := 2) dX2_readingsInJoin_5 rfl ?_
  refine s_iloadn (j := 3) dX2_readingsInJoin_6 rfl ?_
  refine s_cSIN (rest := [.inr (.inr x1)]) (met_X11_partOf l v1 v2 v3) mth_X11_partOf rfl dX2_readingsInJoin_7 w_403 w_404 ⟨Nat.le_of_ble_eq_true rfl, Nat.le_of_ble_eq_true rfl⟩ (Nat.le_of_ble_eq_true rfl) rfl (fun x2 => ?_)
  refine s_cVI (rest := []) (met_X10_valueOf l x1 x2) cls_11 mth_X10_valueOf rfl dX2_readingsInJoin_10 w_378 w_379 w_380 ⟨Nat.le_of_ble_eq_true rfl, Nat.le_of_ble_eq_true rfl⟩ (Nat.le_of_ble_eq_true rfl) rfl (fun x3 => ?_)
  refine s_bipush (v := 8) dX2_readingsInJoin_13 (by decide) ?_
  refine s_ishr dX2_readingsInJoin_15 ?_
  refine s_sipush (v := 255) dX2_readingsInJoin_16 (by decide) ?_
  refine s_iand dX2_readingsInJoin_19 ?_
  exact s_iret dX2_readingsInJoin_20 rfl
theorem met_X2_readingsInJoin (l : Launch) (v0 : Option Nat) (v1 : Int32) (v2 : Int32) (v3 : Int32) : zMet l yX2_readingsInJoin cX2_readingsInJoin 4 (some .int) 3 68 [.inr (.inr v0), .inl v1, .inl v2, .inl v3] zcI (p_X2_readingsInJoin v0 v1 v2 v3) :=
  zMet.of (by decide +kernel) (Nat.le_of_ble_eq_true rfl) rfl (sim_X2_readingsInJoin l v0 v1 v2 v3)
def p_X2_readingsAsJoin_b103 (r10 : Option Nat → Int32 → Int32 → Int32 → Int32 → ZM Int32) (v0 : Option Nat) (v1 : Int32) (v2 : Int32) (v3 : Int32) (v4 : Int32) : ZM Int32 :=
  z_n (v4 + 1 : Int32) fun y1 => r10 v0 v1 v2 v3 y1
def p_X2_readingsAsJoin_b97 (r10 : Option Nat → Int32 → Int32 → Int32 → Int32 → ZM Int32) (r56 : Option Nat → Int32 → Int32 → Int32 → Int32 → Int32 → ZM Int32) (v0 : Option Nat) (v1 : Int32) (v2 : Int32) (v3 : Int32) (v4 : Int32) (v5 : Int32) : ZM Int32 :=
  z_n (v5 + 1 : Int32) fun y2 => r56 v0 v1 v2 v3 v4 y2
def p_X2_readingsAsJoin_c56 (r10 : Option Nat → Int32 → Int32 → Int32 → Int32 → ZM Int32) (r56 : Option Nat → Int32 → Int32 → Int32 → Int32 → Int32 → ZM Int32) (v0 : Option Nat) (v1 : Int32) (v2 : Int32) (v3 : Int32) (v4 : Int32) (v5 : Int32) : ZM Int32 :=
  if (v2 - 2) < v5 then (p_X2_readingsAsJoin_b103 r10 v0 v1 v2 v3 v4)
  else (z_b (z_vr 3 v0 (p_X2_canBeBorder v0 v1 v5)) fun x3 => if x3 = 0 then (p_X2_readingsAsJoin_b97 r10 r56 v0 v1 v2 v3 v4 v5)
  else (z_b (z_vr 3 v0 (p_X2_readingsInJoin v0 v1 v4 v5)) fun x4 => if x4 = 0 then (p_X2_readingsAsJoin_b97 r10 r56 v0 v1 v2 v3 v4 v5)
  else (z_b (z_vr 3 v0 (p_X2_readingsInJoin v0 v1 v5 v2)) fun x5 => z_n ((v3 ||| x5) : Int32) fun y6 => p_X2_readingsAsJoin_b97 r10 r56 v0 v1 v2 y6 v4 v5)))
def p_X2_readingsAsJoin_l56 (r10 : Option Nat → Int32 → Int32 → Int32 → Int32 → ZM Int32) : Nat → Option Nat → Int32 → Int32 → Int32 → Int32 → Int32 → ZM Int32
  | 0, _, _, _, _, _, _ => z_fl
  | n + 1, v0, v1, v2, v3, v4, v5 => p_X2_readingsAsJoin_c56 r10 (p_X2_readingsAsJoin_l56 r10 n) v0 v1 v2 v3 v4 v5
def p_X2_readingsAsJoin_c10 (r10 : Option Nat → Int32 → Int32 → Int32 → Int32 → ZM Int32) (v0 : Option Nat) (v1 : Int32) (v2 : Int32) (v3 : Int32) (v4 : Int32) : ZM Int32 :=
  if (v2 - 2) < v4 then (z_rt v3)
  else (z_b (z_vr 3 v0 (p_X2_canBeBorder v0 v1 v4)) fun x7 => if x7 = 0 then (p_X2_readingsAsJoin_b103 r10 v0 v1 v2 v3 v4)
  else (z_b (z_vr 3 v0 (p_X2_readingsInJoin v0 v1 0 v4)) fun x8 => if x8 = 0 then (p_X2_readingsAsJoin_b103 r10 v0 v1 v2 v3 v4)
  else (z_b (z_vr 3 v0 (p_X2_readingsInJoin v0 v1 v4 v2)) fun x9 => z_n ((v3 ||| x9) : Int32) fun y10 => z_n ((v4 + 2) : Int32) fun y11 => p_X2_readingsAsJoin_l56 r10 zFuel v0 v1 v2 y10 v4 y11)))
def p_X2_readingsAsJoin_l10 : Nat → Option Nat → Int32 → Int32 → Int32 → Int32 → ZM Int32
  | 0, _, _, _, _, _ => z_fl
  | n + 1, v0, v1, v2, v3, v4 => p_X2_readingsAsJoin_c10 (p_X2_readingsAsJoin_l10 n) v0 v1 v2 v3 v4
def p_X2_readingsAsJoin (v0 : Option Nat) (v1 : Int32) : ZM Int32 :=
  z_b (p_X11_sizeOf v1) fun x12 => p_X2_readingsAsJoin_l10 zFuel v0 v1 x12 0 2
abbrev M_X2_readingsAsJoin (l : Launch) : ZMe := (l, "SpellScribe$Lexicon", cX2_readingsAsJoin, 6, 4, 91, (some .int), "readingsAsJoin", [])
set_option maxRecDepth 20000 in
theorem sim_X2_readingsAsJoin_b103 (l : Launch) (r10 : Option Nat → Int32 → Int32 → Int32 → Int32 → ZM Int32) (hr10 : ∀ (v0 : Option Nat) (v1 : Int32) (v2 : Int32) (v3 : Int32) (v4 : Int32), Sim (M_X2_readingsAsJoin l) (zFin zcI) 10 [(0, .inr (.inr v0)), (1, .inl v1), (2, .inl v2), (3, .inl v3), (4, .inl v4)] [] (r10 v0 v1 v2 v3 v4)) (v0 : Option Nat) (v1 : Int32) (v2 : Int32) (v3 : Int32) (v4 : Int32) : Sim (M_X2_readingsAsJoin l) (zFin zcI) 103 [(0, .inr (.inr v0)), (1, .inl v1), (2, .inl v2), (3, .inl v3), (4, .inl v4)] [] (p_X2_readingsAsJoin_b103 r10 v0 v1 v2 v3 v4) := by
  unfold p_X2_readingsAsJoin_b103
  refine s_n0 (fun y1 hy1 => ?_)
  refine s_iinc (j := 4) (v := y1) (d := 1) (lv' := [(4, .inl y1), (0, .inr (.inr v0)), (1, .inl v1), (2, .inl v2), (3, .inl v3)]) dX2_readingsAsJoin_103 rfl (by decide) hy1 (Nat.le_of_ble_eq_true rfl) rfl ?_
  refine s_goto (tgt := 10) dX2_readingsAsJoin_106 (by decide) ?_
  exact Sim.sub [1, 2, 3, 4, 0] rfl (hr10 v0 v1 v2 v3 y1)
set_option maxRecDepth 20000 in
theorem sim_X2_readingsAsJoin_b97 (l : Launch) (r10 : Option Nat → Int32 → Int32 → Int32 → Int32 → ZM Int32) (r56 : Option Nat → Int32 → Int32 → Int32 → Int32 → Int32 → ZM Int32) (hr10 : ∀ (v0 : Option Nat) (v1 : Int32) (v2 : Int32) (v3 : Int32) (v4 : Int32), Sim (M_X2_readingsAsJoin l) (zFin zcI) 10 [(0, .inr (.inr v0)), (1, .inl v1), (2, .inl v2), (3, .inl v3), (4, .inl v4)] [] (r10 v0 v1 v2 v3 v4)) (hr56 : ∀ (v0 : Option Nat) (v1 : Int32) (v2 : Int32) (v3 : Int32) (v4 : Int32) (v5 : Int32), Sim (M_X2_readingsAsJoin l) (zFin zcI) 56 [(0, .inr (.inr v0)), (1, .inl v1), (2, .inl v2), (3, .inl v3), (4, .inl v4), (5, .inl v5)] [] (r56 v0 v1 v2 v3 v4 v5)) (v0 : Option Nat) (v1 : Int32) (v2 : Int32) (v3 : Int32) (v4 : Int32) (v5 : Int32) : Sim (M_X2_readingsAsJoin l) (zFin zcI) 97 [(0, .inr (.inr v0)), (1, .inl v1), (2, .inl v2), (3, .inl v3), (4, .inl v4), (5, .inl v5)] [] (p_X2_readingsAsJoin_b97 r10 r56 v0 v1 v2 v3 v4 v5) := by
  unfold p_X2_readingsAsJoin_b97
  refine s_n0 (fun y2 hy2 => ?_)
  refine s_iinc (j := 5) (v := y2) (d := 1) (lv' := [(5, .inl y2), (0, .inr (.inr v0)), (1, .inl v1), (2, .inl v2), (3, .inl v3), (4, .inl v4)]) dX2_readingsAsJoin_97 rfl (by decide) hy2 (Nat.le_of_ble_eq_true rfl) rfl ?_
  refine s_goto (tgt := 56) dX2_readingsAsJoin_100 (by decide) ?_
  exact Sim.sub [1, 2, 3, 4, 5, 0] rfl (hr56 v0 v1 v2 v3 v4 y2)
set_option maxRecDepth 20000 in
theorem sim_X2_readingsAsJoin_c56 (l : Launch) (r10 : Option Nat → Int32 → Int32 → Int32 → Int32 → ZM Int32) (r56 : Option Nat → Int32 → Int32 → Int32 → Int32 → Int32 → ZM Int32) (hr10 : ∀ (v0 : Option Nat) (v1 : Int32) (v2 : Int32) (v3 : Int32) (v4 : Int32), Sim (M_X2_readingsAsJoin l) (zFin zcI) 10 [(0, .inr (.inr v0)), (1, .inl v1), (2, .inl v2), (3, .inl v3), (4, .inl v4)] [] (r10 v0 v1 v2 v3 v4)) (hr56 : ∀ (v0 : Option Nat) (v1 : Int32) (v2 : Int32) (v3 : Int32) (v4 : Int32) (v5 : Int32), Sim (M_X2_readingsAsJoin l) (zFin zcI) 56 [(0, .inr (.inr v0)), (1, .inl v1), (2, .inl v2), (3, .inl v3), (4, .inl v4), (5, .inl v5)] [] (r56 v0 v1 v2 v3 v4 v5)) (v0 : Option Nat) (v1 : Int32) (v2 : Int32) (v3 : Int32) (v4 : Int32) (v5 : Int32) : Sim (M_X2_readingsAsJoin l) (zFin zcI) 56 [(0, .inr (.inr v0)), (1, .inl v1), (2, .inl v2), (3, .inl v3), (4, .inl v4), (5, .inl v5)] [] (p_X2_readingsAsJoin_c56 r10 r56 v0 v1 v2 v3 v4 v5) := by
  unfold p_X2_readingsAsJoin_c56
  refine s_iload (j := 5) dX2_readingsAsJoin_56 rfl ?_
  refine s_iloadn (j := 2) dX2_readingsAsJoin_58 rfl ?_
  refine s_iconst (v := 2) dX2_readingsAsJoin_59 (by decide) ?_
  refine s_isub dX2_readingsAsJoin_60 ?_
  refine s_icmp_gt (tgt := 103) dX2_readingsAsJoin_61 (by decide) ?_ ?_
  · exact Sim.sub [0, 1, 2, 3, 4] rfl (sim_X2_readingsAsJoin_b103 l r10 hr10 v0 v1 v2 v3 v4)
  · refine s_aloadn (j := 0) dX2_readingsAsJoin_64 rfl ?_
    refine s_iloadn (j := 1) dX2_readingsAsJoin_65 rfl ?_
    refine s_iload (j := 5) dX2_readingsAsJoin_66 rfl ?_
    refine s_cVI (rest := []) (met_X2_canBeBorder l v0 v1 v5) cls_3 mth_X2_canBeBorder rfl dX2_readingsAsJoin_68 w_392 w_394 wp_4 ⟨Nat.le_of_ble_eq_true rfl, Nat.le_of_ble_eq_true rfl⟩ (Nat.le_of_ble_eq_true rfl) rfl (fun x3 => ?_)
    refine s_if_eq (tgt := 97) dX2_readingsAsJoin_71 (by decide) ?_ ?_
    · exact Sim.sub [0, 1, 2, 3, 4, 5] rfl (sim_X2_readingsAsJoin_b97 l r10 r56 hr10 hr56 v0 v1 v2 v3 v4 v5)
    · refine s_aloadn (j := 0) dX2_readingsAsJoin_74 rfl ?_
      refine s_iloadn (j := 1) dX2_readingsAsJoin_75 rfl ?_
      refine s_iload (j := 4) dX2_readingsAsJoin_76 rfl ?_
      refine s_iload (j := 5) dX2_readingsAsJoin_78 rfl ?_
      refine s_cVI (rest := []) (met_X2_readingsInJoin l v0 v1 v4 v5) cls_3 mth_X2_readingsInJoin rfl dX2_readingsAsJoin_80 w_399 w_401 wp_5 ⟨Nat.le_of_ble_eq_true rfl, Nat.le_of_ble_eq_true rfl⟩ (Nat.le_of_ble_eq_true rfl) rfl (fun x4 => ?_)
      refine s_if_eq (tgt := 97) dX2_readingsAsJoin_83 (by decide) ?_ ?_
      · exact Sim.sub [0, 1, 2, 3, 4, 5] rfl (sim_X2_readingsAsJoin_b97 l r10 r56 hr10 hr56 v0 v1 v2 v3 v4 v5)
      · refine s_iloadn (j := 3) dX2_readingsAsJoin_86 rfl ?_
        refine s_aloadn (j := 0) dX2_readingsAsJoin_87 rfl ?_
        refine s_iloadn (j := 1) dX2_readingsAsJoin_88 rfl ?_
        refine s_iload (j := 5) dX2_readingsAsJoin_89 rfl ?_
        refine s_iloadn (j := 2) dX2_readingsAsJoin_91 rfl ?_
        refine s_cVI (rest := [.inl v3]) (met_X2_readingsInJoin l v0 v1 v5 v2) cls_3 mth_X2_readingsInJoin rfl dX2_readingsAsJoin_92 w_399 w_401 wp_5 ⟨Nat.le_of_ble_eq_true rfl, Nat.le_of_ble_eq_true rfl⟩ (Nat.le_of_ble_eq_true rfl) rfl (fun x5 => ?_)
        refine s_ior dX2_readingsAsJoin_95 ?_
        refine s_nI (fun y6 => ?_)
        refine s_istoren (lv' := [(3, .inl y6), (0, .inr (.inr v0)), (1, .inl v1), (2, .inl v2), (4, .inl v4), (5, .inl v5)]) dX2_readingsAsJoin_96 (Nat.le_of_ble_eq_true rfl) rfl ?_
        exact Sim.sub [1, 2, 3, 0, 4, 5] rfl (sim_X2_readingsAsJoin_b97 l r10 r56 hr10 hr56 v0 v1 v2 y6 v4 v5)
theorem sim_X2_readingsAsJoin_l56 (l : Launch) (r10 : Option Nat → Int32 → Int32 → Int32 → Int32 → ZM Int32) (hr10 : ∀ (v0 : Option Nat) (v1 : Int32) (v2 : Int32) (v3 : Int32) (v4 : Int32), Sim (M_X2_readingsAsJoin l) (zFin zcI) 10 [(0, .inr (.inr v0)), (1, .inl v1), (2, .inl v2), (3, .inl v3), (4, .inl v4)] [] (r10 v0 v1 v2 v3 v4)) : ∀ (n : Nat) (v0 : Option Nat) (v1 : Int32) (v2 : Int32) (v3 : Int32) (v4 : Int32) (v5 : Int32), Sim (M_X2_readingsAsJoin l) (zFin zcI) 56 [(0, .inr (.inr v0)), (1, .inl v1), (2, .inl v2), (3, .inl v3), (4, .inl v4), (5, .inl v5)] [] (p_X2_readingsAsJoin_l56 r10 n v0 v1 v2 v3 v4 v5)
  | 0, _, _, _, _, _, _ => s_fl
  | n + 1, v0, v1, v2, v3, v4, v5 => sim_X2_readingsAsJoin_c56 l r10 (p_X2_readingsAsJoin_l56 r10 n) hr10 (sim_X2_readingsAsJoin_l56 l r10 hr10 n) v0 v1 v2 v3 v4 v5
set_option maxRecDepth 20000 in
theorem sim_X2_readingsAsJoin_c10 (l : Launch) (r10 : Option Nat → Int32 → Int32 → Int32 → Int32 → ZM Int32) (hr10 : ∀ (v0 : Option Nat) (v1 : Int32) (v2 : Int32) (v3 : Int32) (v4 : Int32), Sim (M_X2_readingsAsJoin l) (zFin zcI) 10 [(0, .inr (.inr v0)), (1, .inl v1), (2, .inl v2), (3, .inl v3), (4, .inl v4)] [] (r10 v0 v1 v2 v3 v4)) (v0 : Option Nat) (v1 : Int32) (v2 : Int32) (v3 : Int32) (v4 : Int32) : Sim (M_X2_readingsAsJoin l) (zFin zcI) 10 [(0, .inr (.inr v0)), (1, .inl v1), (2, .inl v2), (3, .inl v3), (4, .inl v4)] [] (p_X2_readingsAsJoin_c10 r10 v0 v1 v2 v3 v4) := by
  unfold p_X2_readingsAsJoin_c10
  refine s_iload (j := 4) dX2_readingsAsJoin_10 rfl ?_
  refine s_iloadn (j := 2) dX2_readingsAsJoin_12 rfl ?_
  refine s_iconst (v := 2) dX2_readingsAsJoin_13 (by decide) ?_
  refine s_isub dX2_readingsAsJoin_14 ?_
  refine s_icmp_gt (tgt := 109) dX2_readingsAsJoin_15 (by decide) ?_ ?_
  · refine s_iloadn (j := 3) dX2_readingsAsJoin_109 rfl ?_
    exact s_iret dX2_readingsAsJoin_110 rfl
  · refine s_aloadn (j := 0) dX2_readingsAsJoin_18 rfl ?_
    refine s_iloadn (j := 1) dX2_readingsAsJoin_19 rfl ?_
    refine s_iload (j := 4) dX2_readingsAsJoin_20 rfl ?_
    refine s_cVI (rest := []) (met_X2_canBeBorder l v0 v1 v4) cls_3 mth_X2_canBeBorder rfl dX2_readingsAsJoin_22 w_392 w_394 wp_4 ⟨Nat.le_of_ble_eq_true rfl, Nat.le_of_ble_eq_true rfl⟩ (Nat.le_of_ble_eq_true rfl) rfl (fun x7 => ?_)
    refine s_if_eq (tgt := 103) dX2_readingsAsJoin_25 (by decide) ?_ ?_
    · exact Sim.sub [0, 1, 2, 3, 4] rfl (sim_X2_readingsAsJoin_b103 l r10 hr10 v0 v1 v2 v3 v4)
    · refine s_aloadn (j := 0) dX2_readingsAsJoin_28 rfl ?_
      refine s_iloadn (j := 1) dX2_readingsAsJoin_29 rfl ?_
      refine s_iconst (v := 0) dX2_readingsAsJoin_30 (by decide) ?_
      refine s_iload (j := 4) dX2_readingsAsJoin_31 rfl ?_
      refine s_cVI (rest := []) (met_X2_readingsInJoin l v0 v1 0 v4) cls_3 mth_X2_readingsInJoin rfl dX2_readingsAsJoin_33 w_399 w_401 wp_5 ⟨Nat.le_of_ble_eq_true rfl, Nat.le_of_ble_eq_true rfl⟩ (Nat.le_of_ble_eq_true rfl) rfl (fun x8 => ?_)
      refine s_if_eq (tgt := 103) dX2_readingsAsJoin_36 (by decide) ?_ ?_
      · exact Sim.sub [0, 1, 2, 3, 4] rfl (sim_X2_readingsAsJoin_b103 l r10 hr10 v0 v1 v2 v3 v4)
      · refine s_iloadn (j := 3) dX2_readingsAsJoin_39 rfl ?_
        refine s_aloadn (j := 0) dX2_readingsAsJoin_40 rfl ?_
        refine s_iloadn (j := 1) dX2_readingsAsJoin_41 rfl ?_
        refine s_iload (j := 4) dX2_readingsAsJoin_42 rfl ?_
        refine s_iloadn (j := 2) dX2_readingsAsJoin_44 rfl ?_
        refine s_cVI (rest := [.inl v3]) (met_X2_readingsInJoin l v0 v1 v4 v2) cls_3 mth_X2_readingsInJoin rfl dX2_readingsAsJoin_45 w_399 w_401 wp_5 ⟨Nat.le_of_ble_eq_true rfl, Nat.le_of_ble_eq_true rfl⟩ (Nat.le_of_ble_eq_true rfl) rfl (fun x9 => ?_)
        refine s_ior dX2_readingsAsJoin_48 ?_
        refine s_nI (fun y10 => ?_)
        refine s_istoren (lv' := [(3, .inl y10), (0, .inr (.inr v0)), (1, .inl v1), (2, .inl v2), (4, .inl v4)]) dX2_readingsAsJoin_49 (Nat.le_of_ble_eq_true rfl) rfl ?_
        refine s_iload (j := 4) dX2_readingsAsJoin_50 rfl ?_
        refine s_iconst (v := 2) dX2_readingsAsJoin_52 (by decide) ?_
        refine s_iadd dX2_readingsAsJoin_53 ?_
        refine s_nI (fun y11 => ?_)
        refine s_istore (lv' := [(5, .inl y11), (3, .inl y10), (0, .inr (.inr v0)), (1, .inl v1), (2, .inl v2), (4, .inl v4)]) dX2_readingsAsJoin_54 (Nat.le_of_ble_eq_true rfl) rfl ?_
        exact Sim.sub [2, 3, 4, 1, 5, 0] rfl (sim_X2_readingsAsJoin_l56 l r10 hr10 zFuel v0 v1 v2 y10 v4 y11)
theorem sim_X2_readingsAsJoin_l10 (l : Launch) : ∀ (n : Nat) (v0 : Option Nat) (v1 : Int32) (v2 : Int32) (v3 : Int32) (v4 : Int32), Sim (M_X2_readingsAsJoin l) (zFin zcI) 10 [(0, .inr (.inr v0)), (1, .inl v1), (2, .inl v2), (3, .inl v3), (4, .inl v4)] [] (p_X2_readingsAsJoin_l10 n v0 v1 v2 v3 v4)
  | 0, _, _, _, _, _ => s_fl
  | n + 1, v0, v1, v2, v3, v4 => sim_X2_readingsAsJoin_c10 l (p_X2_readingsAsJoin_l10 n) (sim_X2_readingsAsJoin_l10 l n) v0 v1 v2 v3 v4
set_option maxRecDepth 20000 in
theorem sim_X2_readingsAsJoin (l : Launch) (v0 : Option Nat) (v1 : Int32) : Sim (M_X2_readingsAsJoin l) (zFin zcI) 0 [(0, .inr (.inr v0)), (1, .inl v1)] [] (p_X2_readingsAsJoin v0 v1) := by
  unfold p_X2_readingsAsJoin
  refine s_iloadn (j := 1) dX2_readingsAsJoin_0 rfl ?_
  refine s_cSIN (rest := []) (met_X11_sizeOf l v1) mth_X11_sizeOf rfl dX2_readingsAsJoin_1 w_391 w_328 ⟨Nat.le_of_ble_eq_true rfl, Nat.le_of_ble_eq_true rfl⟩ (Nat.le_of_ble_eq_true rfl) rfl (fun x12 => ?_)
  refine s_istoren (lv' := [(2, .inl x12), (0, .inr (.inr v0)), (1, .inl v1)]) dX2_readingsAsJoin_4 (Nat.le_of_ble_eq_true rfl) rfl ?_
  refine s_iconst (v := 0) dX2_readingsAsJoin_5 (by decide) ?_
  refine s_istoren (lv' := [(3, .inl 0), (2, .inl x12), (0, .inr (.inr v0)), (1, .inl v1)]) dX2_readingsAsJoin_6 (Nat.le_of_ble_eq_true rfl) rfl ?_
  refine s_iconst (v := 2) dX2_readingsAsJoin_7 (by decide) ?_
  refine s_istore (lv' := [(4, .inl 2), (3, .inl 0), (2, .inl x12), (0, .inr (.inr v0)), (1, .inl v1)]) dX2_readingsAsJoin_8 (Nat.le_of_ble_eq_true rfl) rfl ?_
  exact Sim.sub [3, 4, 2, 1, 0] rfl (sim_X2_readingsAsJoin_l10 l zFuel v0 v1 x12 0 2)
theorem met_X2_readingsAsJoin (l : Launch) (v0 : Option Nat) (v1 : Int32) : zMet l yX2_readingsAsJoin cX2_readingsAsJoin 6 (some .int) 4 91 [.inr (.inr v0), .inl v1] zcI (p_X2_readingsAsJoin v0 v1) :=
  zMet.of (by decide +kernel) (Nat.le_of_ble_eq_true rfl) rfl (sim_X2_readingsAsJoin l v0 v1)
def p_X2_readingsOf (v0 : Option Nat) (v1 : Int32) : ZM Int32 :=
  if v1 = 0 then (z_rt 0)
  else (z_b (z_vr 3 v0 (p_X2_isBarred v0 v1)) fun x1 => if x1 = 0 then (z_b (z_gR 3 3 v0) fun x2 => z_b (z_vr 11 x2 (p_X10_valueOf x2 v1)) fun x3 => z_b (z_gR 3 2 v0) fun x4 => z_b (z_vr 11 x4 (p_X10_valueOf x4 v1)) fun x5 => z_b (z_vr 3 v0 (p_X2_readingsAsJoin v0 v1)) fun x6 => z_rt ((x3 ||| (x5 &&& 255)) ||| x6))
  else (z_rt 0))
abbrev M_X2_readingsOf (l : Launch) : ZMe := (l, "SpellScribe$Lexicon", cX2_readingsOf, 2, 5, 116, (some .int), "readingsOf", [])
set_option maxRecDepth 20000 in
theorem sim_X2_readingsOf (l : Launch) (v0 : Option Nat) (v1 : Int32) : Sim (M_X2_readingsOf l) (zFin zcI) 0 [(0, .inr (.inr v0)), (1, .inl v1)] [] (p_X2_readingsOf v0 v1) := by
  unfold p_X2_readingsOf
  refine s_iloadn (j := 1) dX2_readingsOf_0 rfl ?_
  refine s_if_eq (tgt := 12) dX2_readingsOf_1 (by decide) ?_ ?_
  · refine s_iconst (v := 0) dX2_readingsOf_12 (by decide) ?_
    exact s_iret dX2_readingsOf_13 rfl
  · refine s_aloadn (j := 0) dX2_readingsOf_4 rfl ?_
    refine s_iloadn (j := 1) dX2_readingsOf_5 rfl ?_
    refine s_cVI (rest := []) (met_X2_isBarred l v0 v1) cls_3 mth_X2_isBarred rfl dX2_readingsOf_6 w_374 w_375 w_376 ⟨Nat.le_of_ble_eq_true rfl, Nat.le_of_ble_eq_true rfl⟩ (Nat.le_of_ble_eq_true rfl) rfl (fun x1 => ?_)
    refine s_if_eq (tgt := 14) dX2_readingsOf_9 (by decide) ?_ ?_
    · refine s_aloadn (j := 0) dX2_readingsOf_14 rfl ?_
      refine s_getR (k := 3) cls_3 (by decide) rfl dX2_readingsOf_15 w_102 rfl (fun x2 => ?_)
      refine s_iloadn (j := 1) dX2_readingsOf_18 rfl ?_
      refine s_cVI (rest := []) (met_X10_valueOf l x2 v1) cls_11 mth_X10_valueOf rfl dX2_readingsOf_19 w_378 w_379 w_380 ⟨Nat.le_of_ble_eq_true rfl, Nat.le_of_ble_eq_true rfl⟩ (Nat.le_of_ble_eq_true rfl) rfl (fun x3 => ?_)
      refine s_aloadn (j := 0) dX2_readingsOf_22 rfl ?_
      refine s_getR (k := 2) cls_3 (by decide) rfl dX2_readingsOf_23 w_101 rfl (fun x4 => ?_)
      refine s_iloadn (j := 1) dX2_readingsOf_26 rfl ?_
      refine s_cVI (rest := [.inl x3]) (met_X10_valueOf l x4 v1) cls_11 mth_X10_valueOf rfl dX2_readingsOf_27 w_378 w_379 w_380 ⟨Nat.le_of_ble_eq_true rfl, Nat.le_of_ble_eq_true rfl⟩ (Nat.le_of_ble_eq_true rfl) rfl (fun x5 => ?_)
      refine s_sipush (v := 255) dX2_readingsOf_30 (by decide) ?_
      refine s_iand dX2_readingsOf_33 ?_
      refine s_ior dX2_readingsOf_34 ?_
      refine s_aloadn (j := 0) dX2_readingsOf_35 rfl ?_
      refine s_iloadn (j := 1) dX2_readingsOf_36 rfl ?_
      refine s_cVI (rest := [.inl (x3 ||| (x5 &&& 255))]) (met_X2_readingsAsJoin l v0 v1) cls_3 mth_X2_readingsAsJoin rfl dX2_readingsOf_37 w_387 w_389 wp_3 ⟨Nat.le_of_ble_eq_true rfl, Nat.le_of_ble_eq_true rfl⟩ (Nat.le_of_ble_eq_true rfl) rfl (fun x6 => ?_)
      refine s_ior dX2_readingsOf_40 ?_
      exact s_iret dX2_readingsOf_41 rfl
    · refine s_iconst (v := 0) dX2_readingsOf_12 (by decide) ?_
      exact s_iret dX2_readingsOf_13 rfl
theorem met_X2_readingsOf (l : Launch) (v0 : Option Nat) (v1 : Int32) : zMet l yX2_readingsOf cX2_readingsOf 2 (some .int) 5 116 [.inr (.inr v0), .inl v1] zcI (p_X2_readingsOf v0 v1) :=
  zMet.of (by decide +kernel) (Nat.le_of_ble_eq_true rfl) rfl (sim_X2_readingsOf l v0 v1)
def p_X3_init (v0 : Option Nat) : ZM Unit :=
  z_b (z_ii v0 (z_rt ())) fun _ => z_b (z_nO 5 1) fun x1 => z_b (z_ii x1 (p_X4_init x1 50)) fun _ => z_b (z_pR 4 0 v0 x1) fun _ => z_b (z_nO 5 1) fun x2 => z_b (z_ii x2 (p_X4_init x2 50)) fun _ => z_b (z_pR 4 1 v0 x2) fun _ => z_b (z_nO 5 1) fun x3 => z_b (z_ii x3 (p_X4_init x3 50)) fun _ => z_b (z_pR 4 2 v0 x3) fun _ => z_b (z_nO 5 1) fun x4 => z_b (z_ii x4 (p_X4_init x4 50)) fun _ => z_b (z_pR 4 3 v0 x4) fun _ => z_b (z_nO 5 1) fun x5 => z_b (z_ii x5 (p_X4_init x5 100)) fun _ => z_b (z_pR 4 4 v0 x5) fun _ => z_b (z_nO 5 1) fun x6 => z_b (z_ii x6 (p_X4_init x6 100)) fun _ => z_b (z_pR 4 5 v0 x6) fun _ => z_rt ()
abbrev M_X3_init (l : Launch) : ZMe := (l, "SpellScribe$Proof", cX3_init, 1, 2, 33, none, "<init>", [])
set_option maxRecDepth 20000 in
theorem sim_X3_init (l : Launch) (v0 : Option Nat) : Sim (M_X3_init l) (zFin zcV) 0 [(0, .inr (.inr v0))] [] (p_X3_init v0) := by
  unfold p_X3_init
  refine s_aloadn (j := 0) dX3_init_0 rfl ?_
  refine s_objInit dX3_init_1 w_229 w_35 w_36 ⟨Nat.le_of_ble_eq_true rfl, Nat.le_of_ble_eq_true rfl⟩ ?_
  refine s_aloadn (j := 0) dX3_init_4 rfl ?_
  refine s_new cls_5 zck_5 dX3_init_5 w_230 w_76 w_7 (fun x1 => ?_)
  refine s_dupR dX3_init_8 ?_
  refine s_bipush (v := 50) dX3_init_9 (by decide) ?_
  refine s_callI (rest := [.inr (.inr x1), .inr (.inr v0)]) (met_X4_init l x1 50) mth_X4_init rfl rfl dX3_init_11 w_231 w_78 ⟨Nat.le_of_ble_eq_true rfl, Nat.le_of_ble_eq_true rfl⟩ (Nat.le_of_ble_eq_true rfl) rfl ?_
  refine s_putRF (k := 0) cls_4 (by decide) rfl rfl rfl rfl rfl dX3_init_14 w_232 rfl ?_
  refine s_aloadn (j := 0) dX3_init_17 rfl ?_
  refine s_new cls_5 zck_5 dX3_init_18 w_230 w_76 w_7 (fun x2 => ?_)
  refine s_dupR dX3_init_21 ?_
  refine s_bipush (v := 50) dX3_init_22 (by decide) ?_
  refine s_callI (rest := [.inr (.inr x2), .inr (.inr v0)]) (met_X4_init l x2 50) mth_X4_init rfl rfl dX3_init_24 w_231 w_78 ⟨Nat.le_of_ble_eq_true rfl, Nat.le_of_ble_eq_true rfl⟩ (Nat.le_of_ble_eq_true rfl) rfl ?_
  refine s_putRF (k := 1) cls_4 (by decide) rfl rfl rfl rfl rfl dX3_init_27 w_233 rfl ?_
  refine s_aloadn (j := 0) dX3_init_30 rfl ?_
  refine s_new cls_5 zck_5 dX3_init_31 w_230 w_76 w_7 (fun x3 => ?_)
  refine s_dupR dX3_init_34 ?_
  refine s_bipush (v := 50) dX3_init_35 (by decide) ?_
  refine s_callI (rest := [.inr (.inr x3), .inr (.inr v0)]) (met_X4_init l x3 50) mth_X4_init rfl rfl dX3_init_37 w_231 w_78 ⟨Nat.le_of_ble_eq_true rfl, Nat.le_of_ble_eq_true rfl⟩ (Nat.le_of_ble_eq_true rfl) rfl ?_
  refine s_putRF (k := 2) cls_4 (by decide) rfl rfl rfl rfl rfl dX3_init_40 w_234 rfl ?_
  refine s_aloadn (j := 0) dX3_init_43 rfl ?_
  refine s_new cls_5 zck_5 dX3_init_44 w_230 w_76 w_7 (fun x4 => ?_)
  refine s_dupR dX3_init_47 ?_
  refine s_bipush (v := 50) dX3_init_48 (by decide) ?_
  refine s_callI (rest := [.inr (.inr x4), .inr (.inr v0)]) (met_X4_init l x4 50) mth_X4_init rfl rfl dX3_init_50 w_231 w_78 ⟨Nat.le_of_ble_eq_true rfl, Nat.le_of_ble_eq_true rfl⟩ (Nat.le_of_ble_eq_true rfl) rfl ?_
  refine s_putRF (k := 3) cls_4 (by decide) rfl rfl rfl rfl rfl dX3_init_53 w_235 rfl ?_
  refine s_aloadn (j := 0) dX3_init_56 rfl ?_
  refine s_new cls_5 zck_5 dX3_init_57 w_230 w_76 w_7 (fun x5 => ?_)
  refine s_dupR dX3_init_60 ?_
  refine s_bipush (v := 100) dX3_init_61 (by decide) ?_
  refine s_callI (rest := [.inr (.inr x5), .inr (.inr v0)]) (met_X4_init l x5 100) mth_X4_init rfl rfl dX3_init_63 w_231 w_78 ⟨Nat.le_of_ble_eq_true rfl, Nat.le_of_ble_eq_true rfl⟩ (Nat.le_of_ble_eq_true rfl) rfl ?_
  refine s_putRF (k := 4) cls_4 (by decide) rfl rfl rfl rfl rfl dX3_init_66 w_236 rfl ?_
  refine s_aloadn (j := 0) dX3_init_69 rfl ?_
  refine s_new cls_5 zck_5 dX3_init_70 w_230 w_76 w_7 (fun x6 => ?_)
  refine s_dupR dX3_init_73 ?_
  refine s_bipush (v := 100) dX3_init_74 (by decide) ?_
  refine s_callI (rest := [.inr (.inr x6), .inr (.inr v0)]) (met_X4_init l x6 100) mth_X4_init rfl rfl dX3_init_76 w_231 w_78 ⟨Nat.le_of_ble_eq_true rfl, Nat.le_of_ble_eq_true rfl⟩ (Nat.le_of_ble_eq_true rfl) rfl ?_
  refine s_putRF (k := 5) cls_4 (by decide) rfl rfl rfl rfl rfl dX3_init_79 w_237 rfl ?_
  exact s_vret dX3_init_82 rfl
theorem met_X3_init (l : Launch) (v0 : Option Nat) : zMet l yX3_init cX3_init 1 none 2 33 [.inr (.inr v0)] zcV (p_X3_init v0) :=
  zMet.of (by decide +kernel) (Nat.le_of_ble_eq_true rfl) rfl (sim_X3_init l v0)
def p_X3_isSpelledRight (v0 : Option Nat) (v1 : Int32) : ZM Int32 :=
  z_b (z_gR 4 0 v0) fun x1 => z_b (z_vr 5 x1 (p_X4_get x1 v1)) fun x2 => if x2 = 0 then (z_rz 0)
  else (z_rz 1)
abbrev M_X3_isSpelledRight (l : Launch) : ZMe := (l, "SpellScribe$Proof", cX3_isSpelledRight, 2, 1, 21, (some .boolean), "isSpelledRight", [])
set_option maxRecDepth 20000 in
theorem sim_X3_isSpelledRight (l : Launch) (v0 : Option Nat) (v1 : Int32) : Sim (M_X3_isSpelledRight l) (zFin zcI) 0 [(0, .inr (.inr v0)), (1, .inl v1)] [] (p_X3_isSpelledRight v0 v1) := by
  unfold p_X3_isSpelledRight
  refine s_aloadn (j := 0) dX3_isSpelledRight_0 rfl ?_
  refine s_getR (k := 0) cls_4 (by decide) rfl dX3_isSpelledRight_1 w_232 rfl (fun x1 => ?_)
  refine s_iloadn (j := 1) dX3_isSpelledRight_4 rfl ?_
  refine s_cVI (rest := []) (met_X4_get l x1 v1) cls_5 mth_X4_get rfl dX3_isSpelledRight_5 w_450 w_355 w_356 ⟨Nat.le_of_ble_eq_true rfl, Nat.le_of_ble_eq_true rfl⟩ (Nat.le_of_ble_eq_true rfl) rfl (fun x2 => ?_)
  refine s_if_eq (tgt := 15) dX3_isSpelledRight_8 (by decide) ?_ ?_
  · refine s_iconst (v := 0) dX3_isSpelledRight_15 (by decide) ?_
    exact s_zret dX3_isSpelledRight_16 rfl
  · refine s_iconst (v := 1) dX3_isSpelledRight_11 (by decide) ?_
    refine s_goto (tgt := 16) dX3_isSpelledRight_12 (by decide) ?_
    exact s_zret dX3_isSpelledRight_16 rfl
theorem met_X3_isSpelledRight (l : Launch) (v0 : Option Nat) (v1 : Int32) : zMet l yX3_isSpelledRight cX3_isSpelledRight 2 (some .boolean) 1 21 [.inr (.inr v0), .inl v1] zcI (p_X3_isSpelledRight v0 v1) :=
  zMet.of (by decide +kernel) (Nat.le_of_ble_eq_true rfl) rfl (sim_X3_isSpelledRight l v0 v1)
def p_X3_readingSet (v0 : Option Nat) (v1 : Int32) : ZM Int32 :=
  z_b (z_gR 4 0 v0) fun x1 => z_b (z_vr 5 x1 (p_X4_get x1 v1)) fun x2 => z_rt x2
abbrev M_X3_readingSet (l : Launch) : ZMe := (l, "SpellScribe$Proof", cX3_readingSet, 2, 1, 21, (some .int), "readingSet", [])
set_option maxRecDepth 20000 in
theorem sim_X3_readingSet (l : Launch) (v0 : Option Nat) (v1 : Int32) : Sim (M_X3_readingSet l) (zFin zcI) 0 [(0, .inr (.inr v0)), (1, .inl v1)] [] (p_X3_readingSet v0 v1) := by
  unfold p_X3_readingSet
  refine s_aloadn (j := 0) dX3_readingSet_0 rfl ?_
  refine s_getR (k := 0) cls_4 (by decide) rfl dX3_readingSet_1 w_232 rfl (fun x1 => ?_)
  refine s_iloadn (j := 1) dX3_readingSet_4 rfl ?_
  refine s_cVI (rest := []) (met_X4_get l x1 v1) cls_5 mth_X4_get rfl dX3_readingSet_5 w_450 w_355 w_356 ⟨Nat.le_of_ble_eq_true rfl, Nat.le_of_ble_eq_true rfl⟩ (Nat.le_of_ble_eq_true rfl) rfl (fun x2 => ?_)
  exact s_iret dX3_readingSet_8 rfl
theorem met_X3_readingSet (l : Launch) (v0 : Option Nat) (v1 : Int32) : zMet l yX3_readingSet cX3_readingSet 2 (some .int) 1 21 [.inr (.inr v0), .inl v1] zcI (p_X3_readingSet v0 v1) :=
  zMet.of (by decide +kernel) (Nat.le_of_ble_eq_true rfl) rfl (sim_X3_readingSet l v0 v1)
def p_X3_chosenReading (v0 : Option Nat) (v1 : Int32) : ZM Int32 :=
  z_b (z_gR 4 1 v0) fun x1 => z_b (z_vr 5 x1 (p_X4_get x1 v1)) fun x2 => z_rt x2
abbrev M_X3_chosenReading (l : Launch) : ZMe := (l, "SpellScribe$Proof", cX3_chosenReading, 2, 1, 21, (some .int), "chosenReading", [])
set_option maxRecDepth 20000 in
theorem sim_X3_chosenReading (l : Launch) (v0 : Option Nat) (v1 : Int32) : Sim (M_X3_chosenReading l) (zFin zcI) 0 [(0, .inr (.inr v0)), (1, .inl v1)] [] (p_X3_chosenReading v0 v1) := by
  unfold p_X3_chosenReading
  refine s_aloadn (j := 0) dX3_chosenReading_0 rfl ?_
  refine s_getR (k := 1) cls_4 (by decide) rfl dX3_chosenReading_1 w_233 rfl (fun x1 => ?_)
  refine s_iloadn (j := 1) dX3_chosenReading_4 rfl ?_
  refine s_cVI (rest := []) (met_X4_get l x1 v1) cls_5 mth_X4_get rfl dX3_chosenReading_5 w_450 w_355 w_356 ⟨Nat.le_of_ble_eq_true rfl, Nat.le_of_ble_eq_true rfl⟩ (Nat.le_of_ble_eq_true rfl) rfl (fun x2 => ?_)
  exact s_iret dX3_chosenReading_8 rfl
theorem met_X3_chosenReading (l : Launch) (v0 : Option Nat) (v1 : Int32) : zMet l yX3_chosenReading cX3_chosenReading 2 (some .int) 1 21 [.inr (.inr v0), .inl v1] zcI (p_X3_chosenReading v0 v1) :=
  zMet.of (by decide +kernel) (Nat.le_of_ble_eq_true rfl) rfl (sim_X3_chosenReading l v0 v1)
def p_X3_takenStyle (v0 : Option Nat) (v1 : Int32) : ZM Int32 :=
  z_b (z_gR 4 2 v0) fun x1 => z_b (z_vr 5 x1 (p_X4_get x1 v1)) fun x2 => z_rt x2
abbrev M_X3_takenStyle (l : Launch) : ZMe := (l, "SpellScribe$Proof", cX3_takenStyle, 2, 1, 21, (some .int), "takenStyle", [])
set_option maxRecDepth 20000 in
theorem sim_X3_takenStyle (l : Launch) (v0 : Option Nat) (v1 : Int32) : Sim (M_X3_takenStyle l) (zFin zcI) 0 [(0, .inr (.inr v0)), (1, .inl v1)] [] (p_X3_takenStyle v0 v1) := by
  unfold p_X3_takenStyle
  refine s_aloadn (j := 0) dX3_takenStyle_0 rfl ?_
  refine s_getR (k := 2) cls_4 (by decide) rfl dX3_takenStyle_1 w_234 rfl (fun x1 => ?_)
  refine s_iloadn (j := 1) dX3_takenStyle_4 rfl ?_
  refine s_cVI (rest := []) (met_X4_get l x1 v1) cls_5 mth_X4_get rfl dX3_takenStyle_5 w_450 w_355 w_356 ⟨Nat.le_of_ble_eq_true rfl, Nat.le_of_ble_eq_true rfl⟩ (Nat.le_of_ble_eq_true rfl) rfl (fun x2 => ?_)
  exact s_iret dX3_takenStyle_8 rfl
theorem met_X3_takenStyle (l : Launch) (v0 : Option Nat) (v1 : Int32) : zMet l yX3_takenStyle cX3_takenStyle 2 (some .int) 1 21 [.inr (.inr v0), .inl v1] zcI (p_X3_takenStyle v0 v1) :=
  zMet.of (by decide +kernel) (Nat.le_of_ble_eq_true rfl) rfl (sim_X3_takenStyle l v0 v1)
def p_X3_mistakeCount (v0 : Option Nat) : ZM Int32 :=
  z_b (z_gI 4 6 v0) fun x1 => z_rt x1
abbrev M_X3_mistakeCount (l : Launch) : ZMe := (l, "SpellScribe$Proof", cX3_mistakeCount, 1, 0, 0, (some .int), "mistakeCount", [])
set_option maxRecDepth 20000 in
theorem sim_X3_mistakeCount (l : Launch) (v0 : Option Nat) : Sim (M_X3_mistakeCount l) (zFin zcI) 0 [(0, .inr (.inr v0))] [] (p_X3_mistakeCount v0) := by
  unfold p_X3_mistakeCount
  refine s_aloadn (j := 0) dX3_mistakeCount_0 rfl ?_
  refine s_getI (k := 6) cls_4 (by decide) rfl dX3_mistakeCount_1 w_238 rfl (fun x1 => ?_)
  exact s_iret dX3_mistakeCount_4 rfl
theorem met_X3_mistakeCount (l : Launch) (v0 : Option Nat) : zMet l yX3_mistakeCount cX3_mistakeCount 1 (some .int) 0 0 [.inr (.inr v0)] zcI (p_X3_mistakeCount v0) :=
  zMet.of (by decide +kernel) (Nat.le_of_ble_eq_true rfl) rfl (sim_X3_mistakeCount l v0)
def p_X3_kindOfMistake (v0 : Option Nat) (v1 : Int32) : ZM Int32 :=
  z_b (z_gR 4 4 v0) fun x1 => z_b (z_vr 5 x1 (p_X4_get x1 v1)) fun x2 => z_rt x2
abbrev M_X3_kindOfMistake (l : Launch) : ZMe := (l, "SpellScribe$Proof", cX3_kindOfMistake, 2, 1, 21, (some .int), "kindOfMistake", [])
set_option maxRecDepth 20000 in
theorem sim_X3_kindOfMistake (l : Launch) (v0 : Option Nat) (v1 : Int32) : Sim (M_X3_kindOfMistake l) (zFin zcI) 0 [(0, .inr (.inr v0)), (1, .inl v1)] [] (p_X3_kindOfMistake v0 v1) := by
  unfold p_X3_kindOfMistake
  refine s_aloadn (j := 0) dX3_kindOfMistake_0 rfl ?_
  refine s_getR (k := 4) cls_4 (by decide) rfl dX3_kindOfMistake_1 w_236 rfl (fun x1 => ?_)
  refine s_iloadn (j := 1) dX3_kindOfMistake_4 rfl ?_
  refine s_cVI (rest := []) (met_X4_get l x1 v1) cls_5 mth_X4_get rfl dX3_kindOfMistake_5 w_450 w_355 w_356 ⟨Nat.le_of_ble_eq_true rfl, Nat.le_of_ble_eq_true rfl⟩ (Nat.le_of_ble_eq_true rfl) rfl (fun x2 => ?_)
  exact s_iret dX3_kindOfMistake_8 rfl
theorem met_X3_kindOfMistake (l : Launch) (v0 : Option Nat) (v1 : Int32) : zMet l yX3_kindOfMistake cX3_kindOfMistake 2 (some .int) 1 21 [.inr (.inr v0), .inl v1] zcI (p_X3_kindOfMistake v0 v1) :=
  zMet.of (by decide +kernel) (Nat.le_of_ble_eq_true rfl) rfl (sim_X3_kindOfMistake l v0 v1)
def p_X3_wordOfMistake (v0 : Option Nat) (v1 : Int32) : ZM Int32 :=
  z_b (z_gR 4 5 v0) fun x1 => z_b (z_vr 5 x1 (p_X4_get x1 v1)) fun x2 => z_rt x2
abbrev M_X3_wordOfMistake (l : Launch) : ZMe := (l, "SpellScribe$Proof", cX3_wordOfMistake, 2, 1, 21, (some .int), "wordOfMistake", [])
set_option maxRecDepth 20000 in
theorem sim_X3_wordOfMistake (l : Launch) (v0 : Option Nat) (v1 : Int32) : Sim (M_X3_wordOfMistake l) (zFin zcI) 0 [(0, .inr (.inr v0)), (1, .inl v1)] [] (p_X3_wordOfMistake v0 v1) := by
  unfold p_X3_wordOfMistake
  refine s_aloadn (j := 0) dX3_wordOfMistake_0 rfl ?_
  refine s_getR (k := 5) cls_4 (by decide) rfl dX3_wordOfMistake_1 w_237 rfl (fun x1 => ?_)
  refine s_iloadn (j := 1) dX3_wordOfMistake_4 rfl ?_
  refine s_cVI (rest := []) (met_X4_get l x1 v1) cls_5 mth_X4_get rfl dX3_wordOfMistake_5 w_450 w_355 w_356 ⟨Nat.le_of_ble_eq_true rfl, Nat.le_of_ble_eq_true rfl⟩ (Nat.le_of_ble_eq_true rfl) rfl (fun x2 => ?_)
  exact s_iret dX3_wordOfMistake_8 rfl
theorem met_X3_wordOfMistake (l : Launch) (v0 : Option Nat) (v1 : Int32) : zMet l yX3_wordOfMistake cX3_wordOfMistake 2 (some .int) 1 21 [.inr (.inr v0), .inl v1] zcI (p_X3_wordOfMistake v0 v1) :=
  zMet.of (by decide +kernel) (Nat.le_of_ble_eq_true rfl) rfl (sim_X3_wordOfMistake l v0 v1)
def p_X3_setReadings (v0 : Option Nat) (v1 : Int32) (v2 : Int32) : ZM Unit :=
  z_b (z_gR 4 0 v0) fun x1 => z_b (z_vr 5 x1 (p_X4_set x1 v1 v2)) fun _ => z_rt ()
abbrev M_X3_setReadings (l : Launch) : ZMe := (l, "SpellScribe$Proof", cX3_setReadings, 3, 1, 22, none, "setReadings", [])
set_option maxRecDepth 20000 in
theorem sim_X3_setReadings (l : Launch) (v0 : Option Nat) (v1 : Int32) (v2 : Int32) : Sim (M_X3_setReadings l) (zFin zcV) 0 [(0, .inr (.inr v0)), (1, .inl v1), (2, .inl v2)] [] (p_X3_setReadings v0 v1 v2) := by
  unfold p_X3_setReadings
  refine s_aloadn (j := 0) dX3_setReadings_0 rfl ?_
  refine s_getR (k := 0) cls_4 (by decide) rfl dX3_setReadings_1 w_232 rfl (fun x1 => ?_)
  refine s_iloadn (j := 1) dX3_setReadings_4 rfl ?_
  refine s_iloadn (j := 2) dX3_setReadings_5 rfl ?_
  refine s_cVV (rest := []) (met_X4_set l x1 v1 v2) cls_5 mth_X4_set rfl dX3_setReadings_6 w_410 w_347 w_348 ⟨Nat.le_of_ble_eq_true rfl, Nat.le_of_ble_eq_true rfl⟩ (Nat.le_of_ble_eq_true rfl) rfl ?_
  exact s_vret dX3_setReadings_9 rfl
theorem met_X3_setReadings (l : Launch) (v0 : Option Nat) (v1 : Int32) (v2 : Int32) : zMet l yX3_setReadings cX3_setReadings 3 none 1 22 [.inr (.inr v0), .inl v1, .inl v2] zcV (p_X3_setReadings v0 v1 v2) :=
  zMet.of (by decide +kernel) (Nat.le_of_ble_eq_true rfl) rfl (sim_X3_setReadings l v0 v1 v2)
def p_X9_sentenceCount (v0 : Option Nat) : ZM Int32 :=
  z_b (z_gI 10 8 v0) fun x1 => z_rt x1
abbrev M_X9_sentenceCount (l : Launch) : ZMe := (l, "SpellScribe$Text", cX9_sentenceCount, 1, 0, 0, (some .int), "sentenceCount", [])
set_option maxRecDepth 20000 in
theorem sim_X9_sentenceCount (l : Launch) (v0 : Option Nat) : Sim (M_X9_sentenceCount l) (zFin zcI) 0 [(0, .inr (.inr v0))] [] (p_X9_sentenceCount v0) := by
  unfold p_X9_sentenceCount
  refine s_aloadn (j := 0) dX9_sentenceCount_0 rfl ?_
  refine s_getI (k := 8) cls_10 (by decide) rfl dX9_sentenceCount_1 w_186 rfl (fun x1 => ?_)
  exact s_iret dX9_sentenceCount_4 rfl
theorem met_X9_sentenceCount (l : Launch) (v0 : Option Nat) : zMet l yX9_sentenceCount cX9_sentenceCount 1 (some .int) 0 0 [.inr (.inr v0)] zcI (p_X9_sentenceCount v0) :=
  zMet.of (by decide +kernel) (Nat.le_of_ble_eq_true rfl) rfl (sim_X9_sentenceCount l v0)
