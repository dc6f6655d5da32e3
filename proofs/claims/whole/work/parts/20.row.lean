def p_X4_init_b14 (s0 : Option Nat) (s1 : Int32) : ZM Unit :=
  z_b (z_nA 1 s1) fun x1 => z_b (z_pR 5 0 s0 x1) fun _ => z_rt ()
def p_X4_init (v0 : Option Nat) (v1 : Int32) : ZM Unit :=
  z_b (z_ii v0 (z_rt ())) fun _ => if v1 ≤ 0 then (p_X4_init_b14 v0 0)
  else (p_X4_init_b14 v0 v1)
abbrev M_X4_init (l : Launch) : ZMe := (l, "SpellScribe$Row", cX4_init, 2, 1, 12, none, "<init>", [])
set_option maxRecDepth 20000 in
theorem sim_X4_init_b14 (l : Launch) (s0 : Option Nat) (s1 : Int32) : Sim (M_X4_init l) (zFin zcV) 14 [] [.inl s1, .inr (.inr s0)] (p_X4_init_b14 s0 s1) := by
  unfold p_X4_init_b14
  refine s_newaI dX4_init_14 w_85 (fun x1 => ?_)
  refine s_putRF (k := 0) cls_5 (by decide) rfl rfl rfl rfl rfl dX4_init_16 w_81 rfl ?_
  exact s_vret dX4_init_19 rfl
set_option maxRecDepth 20000 in
theorem sim_X4_init (l : Launch) (v0 : Option Nat) (v1 : Int32) : Sim (M_X4_init l) (zFin zcV) 0 [(0, .inr (.inr v0)), (1, .inl v1)] [] (p_X4_init v0 v1) := by
  unfold p_X4_init
  refine s_aloadn (j := 0) dX4_init_0 rfl ?_
  refine s_objInit dX4_init_1 w_80 w_35 w_36 (by decide) ?_
  refine s_aloadn (j := 0) dX4_init_4 rfl ?_
  refine s_iloadn (j := 1) dX4_init_5 rfl ?_
  refine s_if_le (tgt := 13) dX4_init_6 (by decide) ?_ ?_
  · refine s_iconst (v := 0) dX4_init_13 (by decide) ?_
    exact Sim.sub [] rfl (sim_X4_init_b14 l v0 0)
  · refine s_iloadn (j := 1) dX4_init_9 rfl ?_
    refine s_goto (tgt := 14) dX4_init_10 (by decide) ?_
    exact Sim.sub [] rfl (sim_X4_init_b14 l v0 v1)
theorem met_X4_init (l : Launch) (v0 : Option Nat) (v1 : Int32) : zMet l yX4_init cX4_init 2 none 1 12 [.inr (.inr v0), .inl v1] zcV (p_X4_init v0 v1) :=
  zMet.of (by decide +kernel) (by decide) rfl (sim_X4_init l v0 v1)
def p_X4_get (v0 : Option Nat) (v1 : Int32) : ZM Int32 :=
  if v1 < 0 then (z_rt 0)
  else (z_b (z_gR 5 0 v0) fun x1 => z_b (z_aN x1) fun x2 => if x2 ≤ v1 then (z_rt 0)
  else (z_b (z_gR 5 0 v0) fun x3 => z_b (z_aI x3 v1) fun x4 => z_rt x4))
abbrev M_X4_get (l : Launch) : ZMe := (l, "SpellScribe$Row", cX4_get, 2, 0, 0, (some .int), "get", [])
set_option maxRecDepth 20000 in
theorem sim_X4_get (l : Launch) (v0 : Option Nat) (v1 : Int32) : Sim (M_X4_get l) (zFin zcI) 0 [(0, .inr (.inr v0)), (1, .inl v1)] [] (p_X4_get v0 v1) := by
  unfold p_X4_get
  refine s_iloadn (j := 1) dX4_get_0 rfl ?_
  refine s_if_lt (tgt := 22) dX4_get_1 (by decide) ?_ ?_
  · refine s_iconst (v := 0) dX4_get_22 (by decide) ?_
    exact s_iret dX4_get_23 rfl
  · refine s_iloadn (j := 1) dX4_get_4 rfl ?_
    refine s_aloadn (j := 0) dX4_get_5 rfl ?_
    refine s_getR (k := 0) cls_5 (by decide) rfl dX4_get_6 w_81 rfl (fun x1 => ?_)
    refine s_alen dX4_get_9 (fun x2 => ?_)
    refine s_icmp_ge (tgt := 22) dX4_get_10 (by decide) ?_ ?_
    · refine s_iconst (v := 0) dX4_get_22 (by decide) ?_
      exact s_iret dX4_get_23 rfl
    · refine s_aloadn (j := 0) dX4_get_13 rfl ?_
      refine s_getR (k := 0) cls_5 (by decide) rfl dX4_get_14 w_81 rfl (fun x3 => ?_)
      refine s_iloadn (j := 1) dX4_get_17 rfl ?_
      refine s_iald dX4_get_18 (fun x4 => ?_)
      refine s_goto (tgt := 23) dX4_get_19 (by decide) ?_
      exact s_iret dX4_get_23 rfl
theorem met_X4_get (l : Launch) (v0 : Option Nat) (v1 : Int32) : zMet l yX4_get cX4_get 2 (some .int) 0 0 [.inr (.inr v0), .inl v1] zcI (p_X4_get v0 v1) :=
  zMet.of (by decide +kernel) (by decide) rfl (sim_X4_get l v0 v1)
def p_X4_set (v0 : Option Nat) (v1 : Int32) (v2 : Int32) : ZM Unit :=
  if v1 < 0 then (z_rt ())
  else (z_b (z_gR 5 0 v0) fun x1 => z_b (z_aN x1) fun x2 => if x2 ≤ v1 then (z_rt ())
  else (z_b (z_gR 5 0 v0) fun x3 => z_b (z_sI x3 v1 v2) fun _ => z_rt ()))
abbrev M_X4_set (l : Launch) : ZMe := (l, "SpellScribe$Row", cX4_set, 3, 0, 0, none, "set", [])
set_option maxRecDepth 20000 in
theorem sim_X4_set (l : Launch) (v0 : Option Nat) (v1 : Int32) (v2 : Int32) : Sim (M_X4_set l) (zFin zcV) 0 [(0, .inr (.inr v0)), (1, .inl v1), (2, .inl v2)] [] (p_X4_set v0 v1 v2) := by
  unfold p_X4_set
  refine s_iloadn (j := 1) dX4_set_0 rfl ?_
  refine s_if_lt (tgt := 20) dX4_set_1 (by decide) ?_ ?_
  · exact s_vret dX4_set_20 rfl
  · refine s_iloadn (j := 1) dX4_set_4 rfl ?_
    refine s_aloadn (j := 0) dX4_set_5 rfl ?_
    refine s_getR (k := 0) cls_5 (by decide) rfl dX4_set_6 w_81 rfl (fun x1 => ?_)
    refine s_alen dX4_set_9 (fun x2 => ?_)
    refine s_icmp_ge (tgt := 20) dX4_set_10 (by decide) ?_ ?_
    · exact s_vret dX4_set_20 rfl
    · refine s_aloadn (j := 0) dX4_set_13 rfl ?_
      refine s_getR (k := 0) cls_5 (by decide) rfl dX4_set_14 w_81 rfl (fun x3 => ?_)
      refine s_iloadn (j := 1) dX4_set_17 rfl ?_
      refine s_iloadn (j := 2) dX4_set_18 rfl ?_
      refine s_iast dX4_set_19 ?_
      exact s_vret dX4_set_20 rfl
theorem met_X4_set (l : Launch) (v0 : Option Nat) (v1 : Int32) (v2 : Int32) : zMet l yX4_set cX4_set 3 none 0 0 [.inr (.inr v0), .inl v1, .inl v2] zcV (p_X4_set v0 v1 v2) :=
  zMet.of (by decide +kernel) (by decide) rfl (sim_X4_set l v0 v1 v2)
def p_X4_insert (v0 : Option Nat) (v1 : Int32) (v2 : Int32) (v3 : Int32) : ZM Unit :=
  if v1 < 0 then (z_rt ())
  else (if v3 < v1 then (z_rt ())
  else (z_b (z_gR 5 0 v0) fun x1 => z_b (z_aN x1) fun x2 => if x2 ≤ v3 then (z_rt ())
  else (z_b (z_gR 5 0 v0) fun x3 => z_b (z_gR 5 0 v0) fun x4 => z_b (z_same x3 x4) fun _ => z_b (z_cp x3 v1 (v1 + 1) (v3 - v1)) fun _ => z_b (z_gR 5 0 v0) fun x5 => z_b (z_sI x5 v1 v2) fun _ => z_rt ())))
abbrev M_X4_insert (l : Launch) : ZMe := (l, "SpellScribe$Row", cX4_insert, 4, 1, 40, none, "insert", [])
set_option maxRecDepth 20000 in
theorem sim_X4_insert (l : Launch) (v0 : Option Nat) (v1 : Int32) (v2 : Int32) (v3 : Int32) : Sim (M_X4_insert l) (zFin zcV) 0 [(0, .inr (.inr v0)), (1, .inl v1), (2, .inl v2), (3, .inl v3)] [] (p_X4_insert v0 v1 v2 v3) := by
  unfold p_X4_insert
  refine s_iloadn (j := 1) dX4_insert_0 rfl ?_
  refine s_if_lt (tgt := 43) dX4_insert_1 (by decide) ?_ ?_
  · exact s_vret dX4_insert_43 rfl
  · refine s_iloadn (j := 1) dX4_insert_4 rfl ?_
    refine s_iloadn (j := 3) dX4_insert_5 rfl ?_
    refine s_icmp_gt (tgt := 43) dX4_insert_6 (by decide) ?_ ?_
    · exact s_vret dX4_insert_43 rfl
    · refine s_iloadn (j := 3) dX4_insert_9 rfl ?_
      refine s_aloadn (j := 0) dX4_insert_10 rfl ?_
      refine s_getR (k := 0) cls_5 (by decide) rfl dX4_insert_11 w_81 rfl (fun x1 => ?_)
      refine s_alen dX4_insert_14 (fun x2 => ?_)
      refine s_icmp_ge (tgt := 43) dX4_insert_15 (by decide) ?_ ?_
      · exact s_vret dX4_insert_43 rfl
      · refine s_aloadn (j := 0) dX4_insert_18 rfl ?_
        refine s_getR (k := 0) cls_5 (by decide) rfl dX4_insert_19 w_81 rfl (fun x3 => ?_)
        refine s_iloadn (j := 1) dX4_insert_22 rfl ?_
        refine s_aloadn (j := 0) dX4_insert_23 rfl ?_
        refine s_getR (k := 0) cls_5 (by decide) rfl dX4_insert_24 w_81 rfl (fun x4 => ?_)
        refine s_iloadn (j := 1) dX4_insert_27 rfl ?_
        refine s_iconst (v := 1) dX4_insert_28 (by decide) ?_
        refine s_iadd dX4_insert_29 ?_
        refine s_iloadn (j := 3) dX4_insert_30 rfl ?_
        refine s_iloadn (j := 1) dX4_insert_31 rfl ?_
        refine s_isub dX4_insert_32 ?_
        refine s_same (fun hq => ?_)
        subst hq
        refine s_copy dX4_insert_33 w_598 w_600 w_599 w_24 (by decide) (by decide) ?_
        refine s_aloadn (j := 0) dX4_insert_36 rfl ?_
        refine s_getR (k := 0) cls_5 (by decide) rfl dX4_insert_37 w_81 rfl (fun x5 => ?_)
        refine s_iloadn (j := 1) dX4_insert_40 rfl ?_
        refine s_iloadn (j := 2) dX4_insert_41 rfl ?_
        refine s_iast dX4_insert_42 ?_
        exact s_vret dX4_insert_43 rfl
theorem met_X4_insert (l : Launch) (v0 : Option Nat) (v1 : Int32) (v2 : Int32) (v3 : Int32) : zMet l yX4_insert cX4_insert 4 none 1 40 [.inr (.inr v0), .inl v1, .inl v2, .inl v3] zcV (p_X4_insert v0 v1 v2 v3) :=
  zMet.of (by decide +kernel) (by decide) rfl (sim_X4_insert l v0 v1 v2 v3)
def p_X4_remove (v0 : Option Nat) (v1 : Int32) (v2 : Int32) : ZM Unit :=
  if v1 < 0 then (z_rt ())
  else (if v2 ≤ v1 then (z_rt ())
  else (z_b (z_gR 5 0 v0) fun x1 => z_b (z_aN x1) fun x2 => if x2 < v2 then (z_rt ())
  else (z_b (z_gR 5 0 v0) fun x3 => z_b (z_gR 5 0 v0) fun x4 => z_b (z_same x3 x4) fun _ => z_b (z_cp x3 (v1 + 1) v1 ((v2 - v1) - 1)) fun _ => z_rt ())))
abbrev M_X4_remove (l : Launch) : ZMe := (l, "SpellScribe$Row", cX4_remove, 3, 1, 40, none, "remove", [])
set_option maxRecDepth 20000 in
theorem sim_X4_remove (l : Launch) (v0 : Option Nat) (v1 : Int32) (v2 : Int32) : Sim (M_X4_remove l) (zFin zcV) 0 [(0, .inr (.inr v0)), (1, .inl v1), (2, .inl v2)] [] (p_X4_remove v0 v1 v2) := by
  unfold p_X4_remove
  refine s_iloadn (j := 1) dX4_remove_0 rfl ?_
  refine s_if_lt (tgt := 38) dX4_remove_1 (by decide) ?_ ?_
  · exact s_vret dX4_remove_38 rfl
  · refine s_iloadn (j := 1) dX4_remove_4 rfl ?_
    refine s_iloadn (j := 2) dX4_remove_5 rfl ?_
    refine s_icmp_ge (tgt := 38) dX4_remove_6 (by decide) ?_ ?_
    · exact s_vret dX4_remove_38 rfl
    · refine s_iloadn (j := 2) dX4_remove_9 rfl ?_
      refine s_aloadn (j := 0) dX4_remove_10 rfl ?_
      refine s_getR (k := 0) cls_5 (by decide) rfl dX4_remove_11 w_81 rfl (fun x1 => ?_)
      refine s_alen dX4_remove_14 (fun x2 => ?_)
      refine s_icmp_gt (tgt := 38) dX4_remove_15 (by decide) ?_ ?_
      · exact s_vret dX4_remove_38 rfl
      · refine s_aloadn (j := 0) dX4_remove_18 rfl ?_
        refine s_getR (k := 0) cls_5 (by decide) rfl dX4_remove_19 w_81 rfl (fun x3 => ?_)
        refine s_iloadn (j := 1) dX4_remove_22 rfl ?_
        refine s_iconst (v := 1) dX4_remove_23 (by decide) ?_
        refine s_iadd dX4_remove_24 ?_
        refine s_aloadn (j := 0) dX4_remove_25 rfl ?_
        refine s_getR (k := 0) cls_5 (by decide) rfl dX4_remove_26 w_81 rfl (fun x4 => ?_)
        refine s_iloadn (j := 1) dX4_remove_29 rfl ?_
        refine s_iloadn (j := 2) dX4_remove_30 rfl ?_
        refine s_iloadn (j := 1) dX4_remove_31 rfl ?_
        refine s_isub dX4_remove_32 ?_
        refine s_iconst (v := 1) dX4_remove_33 (by decide) ?_
        refine s_isub dX4_remove_34 ?_
        refine s_same (fun hq => ?_)
        subst hq
        refine s_copy dX4_remove_35 w_598 w_600 w_599 w_24 (by decide) (by decide) ?_
        exact s_vret dX4_remove_38 rfl
theorem met_X4_remove (l : Launch) (v0 : Option Nat) (v1 : Int32) (v2 : Int32) : zMet l yX4_remove cX4_remove 3 none 1 40 [.inr (.inr v0), .inl v1, .inl v2] zcV (p_X4_remove v0 v1 v2) :=
  zMet.of (by decide +kernel) (by decide) rfl (sim_X4_remove l v0 v1 v2)
