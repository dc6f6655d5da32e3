def p_Jxa1e45_init_da8c8 (v0 : Option Nat) : ZM Unit :=
  z_b (z_ii v0 (z_rt ())) fun _ => z_rt ()
abbrev M_Jxa1e45_init_da8c8 (l : Launch) : ZMe := (l, "java/util/AbstractCollection", cJxa1e45_init_da8c8, 1, 1, 12, none, "<init>", [])
set_option maxRecDepth 20000 in
theorem sim_Jxa1e45_init_da8c8 (l : Launch) (v0 : Option Nat) : Sim (M_Jxa1e45_init_da8c8 l) (zFin zcV) 0 [(0, .inr (.inr v0))] [] (p_Jxa1e45_init_da8c8 v0) := by
  unfold p_Jxa1e45_init_da8c8
  refine s_aloadn (j := 0) dJxa1e45_init_da8c8_0 rfl ?_
  refine s_objInit dJxa1e45_init_da8c8_1 w_54 w_35 w_36 ⟨Nat.le_of_ble_eq_true rfl, Nat.le_of_ble_eq_true rfl⟩ ?_
  exact s_vret dJxa1e45_init_da8c8_4 rfl
theorem met_Jxa1e45_init_da8c8 (l : Launch) (v0 : Option Nat) : zMet l yJxa1e45_init_da8c8 cJxa1e45_init_da8c8 1 none 1 12 [.inr (.inr v0)] zcV (p_Jxa1e45_init_da8c8 v0) :=
  zMet.of (by decide +kernel) (Nat.le_of_ble_eq_true rfl) rfl (sim_Jxa1e45_init_da8c8 l v0)
def p_Jxc12de_init_da8c8 (v0 : Option Nat) : ZM Unit :=
  z_b (z_ii v0 (p_Jxa1e45_init_da8c8 v0)) fun _ => z_b (z_pI 0 0 v0 0) fun _ => z_rt ()
abbrev M_Jxc12de_init_da8c8 (l : Launch) : ZMe := (l, "java/util/AbstractList", cJxc12de_init_da8c8, 1, 2, 32, none, "<init>", [])
set_option maxRecDepth 20000 in
theorem sim_Jxc12de_init_da8c8 (l : Launch) (v0 : Option Nat) : Sim (M_Jxc12de_init_da8c8 l) (zFin zcV) 0 [(0, .inr (.inr v0))] [] (p_Jxc12de_init_da8c8 v0) := by
  unfold p_Jxc12de_init_da8c8
  refine s_aloadn (j := 0) dJxc12de_init_da8c8_0 rfl ?_
  refine s_callI (rest := []) (met_Jxa1e45_init_da8c8 l v0) mth_Jxa1e45_init_da8c8 rfl rfl dJxc12de_init_da8c8_1 w_51 w_52 ⟨Nat.le_of_ble_eq_true rfl, Nat.le_of_ble_eq_true rfl⟩ (Nat.le_of_ble_eq_true rfl) rfl ?_
  refine s_aloadn (j := 0) dJxc12de_init_da8c8_4 rfl ?_
  refine s_iconst (v := 0) dJxc12de_init_da8c8_5 (by decide) ?_
  refine s_putI (k := 0) cls_0 (by decide) rfl rfl rfl dJxc12de_init_da8c8_6 w_59 rfl ?_
  exact s_vret dJxc12de_init_da8c8_9 rfl
theorem met_Jxc12de_init_da8c8 (l : Launch) (v0 : Option Nat) : zMet l yJxc12de_init_da8c8 cJxc12de_init_da8c8 1 none 2 32 [.inr (.inr v0)] zcV (p_Jxc12de_init_da8c8 v0) :=
  zMet.of (by decide +kernel) (Nat.le_of_ble_eq_true rfl) rfl (sim_Jxc12de_init_da8c8 l v0)
def p_Jx4a65c_init_da8c8 (v0 : Option Nat) : ZM Unit :=
  z_b (z_ii v0 (p_Jxc12de_init_da8c8 v0)) fun _ => z_b z_df fun x1 => z_b (z_pR 0 1 v0 x1) fun _ => z_rt ()
abbrev M_Jx4a65c_init_da8c8 (l : Launch) : ZMe := (l, "java/util/ArrayList", cJx4a65c_init_da8c8, 1, 3, 52, none, "<init>", [])
set_option maxRecDepth 20000 in
theorem sim_Jx4a65c_init_da8c8 (l : Launch) (v0 : Option Nat) : Sim (M_Jx4a65c_init_da8c8 l) (zFin zcV) 0 [(0, .inr (.inr v0))] [] (p_Jx4a65c_init_da8c8 v0) := by
  unfold p_Jx4a65c_init_da8c8
  refine s_aloadn (j := 0) dJx4a65c_init_da8c8_0 rfl ?_
  refine s_callI (rest := []) (met_Jxc12de_init_da8c8 l v0) mth_Jxc12de_init_da8c8 rfl rfl dJx4a65c_init_da8c8_1 w_48 w_49 ⟨Nat.le_of_ble_eq_true rfl, Nat.le_of_ble_eq_true rfl⟩ (Nat.le_of_ble_eq_true rfl) rfl ?_
  refine s_aloadn (j := 0) dJx4a65c_init_da8c8_4 rfl ?_
  refine s_gets dJx4a65c_init_da8c8_5 w_55 (fun x1 => ?_)
  refine s_putR (k := 1) cls_0 (by decide) rfl rfl rfl dJx4a65c_init_da8c8_8 w_57 rfl ?_
  exact s_vret dJx4a65c_init_da8c8_11 rfl
theorem met_Jx4a65c_init_da8c8 (l : Launch) (v0 : Option Nat) : zMet l yJx4a65c_init_da8c8 cJx4a65c_init_da8c8 1 none 3 52 [.inr (.inr v0)] zcV (p_Jx4a65c_init_da8c8 v0) :=
  zMet.of (by decide +kernel) (Nat.le_of_ble_eq_true rfl) rfl (sim_Jx4a65c_init_da8c8 l v0)
def p_Jx4a65c_size_8abf5 (v0 : Option Nat) : ZM Int32 :=
  z_b (z_gI 0 2 v0) fun x1 => z_rt x1
abbrev M_Jx4a65c_size_8abf5 (l : Launch) : ZMe := (l, "java/util/ArrayList", cJx4a65c_size_8abf5, 1, 0, 0, (some .int), "size", [])
set_option maxRecDepth 20000 in
theorem sim_Jx4a65c_size_8abf5 (l : Launch) (v0 : Option Nat) : Sim (M_Jx4a65c_size_8abf5 l) (zFin zcI) 0 [(0, .inr (.inr v0))] [] (p_Jx4a65c_size_8abf5 v0) := by
  unfold p_Jx4a65c_size_8abf5
  refine s_aloadn (j := 0) dJx4a65c_size_8abf5_0 rfl ?_
  refine s_getI (k := 2) cls_0 (by decide) rfl dJx4a65c_size_8abf5_1 w_58 rfl (fun x1 => ?_)
  exact s_iret dJx4a65c_size_8abf5_4 rfl
theorem met_Jx4a65c_size_8abf5 (l : Launch) (v0 : Option Nat) : zMet l yJx4a65c_size_8abf5 cJx4a65c_size_8abf5 1 (some .int) 0 0 [.inr (.inr v0)] zcI (p_Jx4a65c_size_8abf5 v0) :=
  zMet.of (by decide +kernel) (Nat.le_of_ble_eq_true rfl) rfl (sim_Jx4a65c_size_8abf5 l v0)
def p_J8_newLength_cabcc_b21 (v0 : Int32) (v1 : Int32) : ZM Int32 :=
  z_fl
def p_J8_newLength_cabcc (v0 : Int32) (v1 : Int32) (v2 : Int32) : ZM Int32 :=
  z_n ((v0 + (if v1 < v2 then v2 else v1)) : Int32) fun y1 => if y1 ≤ 0 then (p_J8_newLength_cabcc_b21 v0 v1)
  else (if 2147483639 < y1 then (p_J8_newLength_cabcc_b21 v0 v1)
  else (z_rt y1))
abbrev M_J8_newLength_cabcc (l : Launch) : ZMe := (l, "jdk/internal/util/ArraysSupport", cJ8_newLength_cabcc, 4, 1, 40, (some .int), "newLength", [])
set_option maxRecDepth 20000 in
theorem sim_J8_newLength_cabcc_b21 (l : Launch) (v0 : Int32) (v1 : Int32) : Sim (M_J8_newLength_cabcc l) (zFin zcI) 21 [(0, .inl v0), (1, .inl v1)] [] (p_J8_newLength_cabcc_b21 v0 v1) := by
  unfold p_J8_newLength_cabcc_b21
  refine s_iloadn (j := 0) dJ8_newLength_cabcc_21 rfl ?_
  refine s_iloadn (j := 1) dJ8_newLength_cabcc_22 rfl ?_
  exact s_fl
set_option maxRecDepth 20000 in
theorem sim_J8_newLength_cabcc (l : Launch) (v0 : Int32) (v1 : Int32) (v2 : Int32) : Sim (M_J8_newLength_cabcc l) (zFin zcI) 0 [(0, .inl v0), (1, .inl v1), (2, .inl v2)] [] (p_J8_newLength_cabcc v0 v1 v2) := by
  unfold p_J8_newLength_cabcc
  refine s_iloadn (j := 0) dJ8_newLength_cabcc_0 rfl ?_
  refine s_iloadn (j := 1) dJ8_newLength_cabcc_1 rfl ?_
  refine s_iloadn (j := 2) dJ8_newLength_cabcc_2 rfl ?_
  refine s_mmax dJ8_newLength_cabcc_3 w_869 w_570 w_22 w_571 (Nat.le_of_ble_eq_true rfl) (Nat.le_of_ble_eq_true rfl) ?_
  refine s_iadd dJ8_newLength_cabcc_6 ?_
  refine s_nI (fun y1 => ?_)
  refine s_istoren (lv' := [(3, .inl y1), (0, .inl v0), (1, .inl v1), (2, .inl v2)]) dJ8_newLength_cabcc_7 (Nat.le_of_ble_eq_true rfl) rfl ?_
  refine s_iconst (v := 0) dJ8_newLength_cabcc_8 (by decide) ?_
  refine s_iloadn (j := 0) dJ8_newLength_cabcc_9 rfl ?_
  refine s_icmp_ge (tgt := 21) dJ8_newLength_cabcc_10 (by decide) ?_ ?_
  · exact Sim.sub [1, 2] rfl (sim_J8_newLength_cabcc_b21 l v0 v1)
  · refine s_iloadn (j := 0) dJ8_newLength_cabcc_13 rfl ?_
    refine s_ldc (v := 2147483639) dJ8_newLength_cabcc_14 w_870 ?_
    refine s_icmp_gt (tgt := 21) dJ8_newLength_cabcc_16 (by decide) ?_ ?_
    · exact Sim.sub [1, 2] rfl (sim_J8_newLength_cabcc_b21 l v0 v1)
    · refine s_iloadn (j := 0) dJ8_newLength_cabcc_19 rfl ?_
      exact s_iret dJ8_newLength_cabcc_20 rfl
theorem met_J8_newLength_cabcc (l : Launch) (v0 : Int32) (v1 : Int32) (v2 : Int32) : zMet l yJ8_newLength_cabcc cJ8_newLength_cabcc 4 (some .int) 1 40 [.inl v0, .inl v1, .inl v2] zcI (p_J8_newLength_cabcc v0 v1 v2) :=
  zMet.of (by decide +kernel) (Nat.le_of_ble_eq_true rfl) rfl (sim_J8_newLength_cabcc l v0 v1 v2)
def p_J7_copyOf_6403c (v0 : Option Nat) (v1 : Int32) (v2 : Option Nat) : ZM (Option Nat) :=
  z_b z_mi fun x1 => if ¬ v2 = x1 then (z_fl)
  else (z_b (z_nA 3 v1) fun x2 => z_b (z_aN v0) fun x3 => z_b (z_cq v0 0 x2 0 (if v1 < x3 then v1 else x3)) fun _ => z_rt x2)
abbrev M_J7_copyOf_6403c (l : Launch) : ZMe := (l, "java/util/Arrays", cJ7_copyOf_6403c, 4, 1, 40, (some (.array (.object "java/lang/Object"))), "copyOf", [])
set_option maxRecDepth 20000 in
theorem sim_J7_copyOf_6403c (l : Launch) (v0 : Option Nat) (v1 : Int32) (v2 : Option Nat) : Sim (M_J7_copyOf_6403c l) (zFin zcR) 0 [(0, .inr (.inr v0)), (1, .inl v1), (2, .inr (.inr v2))] [] (p_J7_copyOf_6403c v0 v1 v2) := by
  unfold p_J7_copyOf_6403c
  refine s_aloadn (j := 2) dJ7_copyOf_6403c_0 rfl ?_
  refine s_ldcM dJ7_copyOf_6403c_1 w_901 (fun x1 => ?_)
  refine s_acmp_ne (tgt := 13) dJ7_copyOf_6403c_3 (by decide) ?_ ?_
  · refine s_aloadn (j := 2) dJ7_copyOf_6403c_13 rfl ?_
    exact s_fl
  · refine s_iloadn (j := 1) dJ7_copyOf_6403c_6 rfl ?_
    refine s_anew dJ7_copyOf_6403c_7 w_903 w_902 (fun x2 => ?_)
    refine s_goto (tgt := 24) dJ7_copyOf_6403c_10 (by decide) ?_
    refine s_astoren (lv' := [(3, .inr (.inr x2)), (0, .inr (.inr v0)), (1, .inl v1), (2, .inr (.inr v2))]) dJ7_copyOf_6403c_24 (Nat.le_of_ble_eq_true rfl) rfl ?_
    refine s_aloadn (j := 1) dJ7_copyOf_6403c_25 rfl ?_
    refine s_iconst (v := 0) dJ7_copyOf_6403c_26 (by decide) ?_
    refine s_aloadn (j := 0) dJ7_copyOf_6403c_27 rfl ?_
    refine s_iconst (v := 0) dJ7_copyOf_6403c_28 (by decide) ?_
    refine s_aloadn (j := 1) dJ7_copyOf_6403c_29 rfl ?_
    refine s_alen dJ7_copyOf_6403c_30 (fun x3 => ?_)
    refine s_iloadn (j := 2) dJ7_copyOf_6403c_31 rfl ?_
    refine s_mmin dJ7_copyOf_6403c_32 w_904 w_567 w_22 w_568 (Nat.le_of_ble_eq_true rfl) (Nat.le_of_ble_eq_true rfl) ?_
    refine s_copyq dJ7_copyOf_6403c_35 w_905 w_600 w_599 w_24 (Nat.le_of_ble_eq_true rfl) (Nat.le_of_ble_eq_true rfl) ?_
    refine s_aloadn (j := 0) dJ7_copyOf_6403c_38 rfl ?_
    exact s_aret dJ7_copyOf_6403c_39 rfl (Or.inr ⟨_, rfl⟩)
theorem met_J7_copyOf_6403c (l : Launch) (v0 : Option Nat) (v1 : Int32) (v2 : Option Nat) : zMet l yJ7_copyOf_6403c cJ7_copyOf_6403c 4 (some (.array (.object "java/lang/Object"))) 1 40 [.inr (.inr v0), .inl v1, .inr (.inr v2)] zcR (p_J7_copyOf_6403c v0 v1 v2) :=
  zMet.of (by decide +kernel) (Nat.le_of_ble_eq_true rfl) rfl (sim_J7_copyOf_6403c l v0 v1 v2)
def p_J7_copyOf_1904c (v0 : Option Nat) (v1 : Int32) : ZM (Option Nat) :=
  z_b (z_gc v0) fun x1 => z_b (p_J7_copyOf_6403c v0 v1 x1) fun x2 => z_rt x2
abbrev M_J7_copyOf_1904c (l : Launch) : ZMe := (l, "java/util/Arrays", cJ7_copyOf_1904c, 2, 2, 63, (some (.array (.object "java/lang/Object"))), "copyOf", [])
set_option maxRecDepth 20000 in
theorem sim_J7_copyOf_1904c (l : Launch) (v0 : Option Nat) (v1 : Int32) : Sim (M_J7_copyOf_1904c l) (zFin zcR) 0 [(0, .inr (.inr v0)), (1, .inl v1)] [] (p_J7_copyOf_1904c v0 v1) := by
  unfold p_J7_copyOf_1904c
  refine s_aloadn (j := 0) dJ7_copyOf_1904c_0 rfl ?_
  refine s_iloadn (j := 1) dJ7_copyOf_1904c_1 rfl ?_
  refine s_aloadn (j := 0) dJ7_copyOf_1904c_2 rfl ?_
  refine s_getC dJ7_copyOf_1904c_3 w_877 w_1862 w_1861 w_878 w_897 (Nat.le_of_ble_eq_true rfl) (Nat.le_of_ble_eq_true rfl) (fun x1 => ?_)
  refine s_cSR (rest := []) (met_J7_copyOf_6403c l v0 v1 x1) mth_J7_copyOf_6403c rfl dJ7_copyOf_1904c_6 w_898 w_899 ⟨Nat.le_of_ble_eq_true rfl, Nat.le_of_ble_eq_true rfl⟩ (Nat.le_of_ble_eq_true rfl) rfl (fun x2 => ?_)
  exact s_aret dJ7_copyOf_1904c_9 rfl (Or.inr ⟨_, rfl⟩)
theorem met_J7_copyOf_1904c (l : Launch) (v0 : Option Nat) (v1 : Int32) : zMet l yJ7_copyOf_1904c cJ7_copyOf_1904c 2 (some (.array (.object "java/lang/Object"))) 2 63 [.inr (.inr v0), .inl v1] zcR (p_J7_copyOf_1904c v0 v1) :=
  zMet.of (by decide +kernel) (Nat.le_of_ble_eq_true rfl) rfl (sim_J7_copyOf_1904c l v0 v1)
def p_Jx4a65c_grow_92f84_b20 (v0 : Option Nat) (v1 : Int32) (v2 : Int32) : ZM (Option Nat) :=
  z_b (p_J8_newLength_cabcc v2 (v1 - v2) (v2 >>> (1 &&& 31))) fun x1 => z_b (z_gR 0 1 v0) fun x2 => z_b (p_J7_copyOf_1904c x2 x1) fun x3 => z_b (z_pR 0 1 v0 x3) fun _ => z_rt x3
def p_Jx4a65c_grow_92f84 (v0 : Option Nat) (v1 : Int32) : ZM (Option Nat) :=
  z_b (z_gR 0 1 v0) fun x4 => z_b (z_aN x4) fun x5 => if 0 < x5 then (p_Jx4a65c_grow_92f84_b20 v0 v1 x5)
  else (z_b (z_gR 0 1 v0) fun x6 => z_b z_df fun x7 => if x6 = x7 then (z_b (z_nA 3 (if 10 < v1 then v1 else 10)) fun x8 => z_b (z_pR 0 1 v0 x8) fun _ => z_rt x8)
  else (p_Jx4a65c_grow_92f84_b20 v0 v1 x5))
abbrev M_Jx4a65c_grow_92f84 (l : Launch) : ZMe := (l, "java/util/ArrayList", cJx4a65c_grow_92f84, 4, 3, 84, (some (.array (.object "java/lang/Object"))), "grow", [])
set_option maxRecDepth 20000 in
theorem sim_Jx4a65c_grow_92f84_b20 (l : Launch) (v0 : Option Nat) (v1 : Int32) (v2 : Int32) : Sim (M_Jx4a65c_grow_92f84 l) (zFin zcR) 20 [(0, .inr (.inr v0)), (1, .inl v1), (2, .inl v2)] [] (p_Jx4a65c_grow_92f84_b20 v0 v1 v2) := by
  unfold p_Jx4a65c_grow_92f84_b20
  refine s_iloadn (j := 2) dJx4a65c_grow_92f84_20 rfl ?_
  refine s_iloadn (j := 1) dJx4a65c_grow_92f84_21 rfl ?_
  refine s_iloadn (j := 2) dJx4a65c_grow_92f84_22 rfl ?_
  refine s_isub dJx4a65c_grow_92f84_23 ?_
  refine s_iloadn (j := 2) dJx4a65c_grow_92f84_24 rfl ?_
  refine s_iconst (v := 1) dJx4a65c_grow_92f84_25 (by decide) ?_
  refine s_ishr dJx4a65c_grow_92f84_26 ?_
  refine s_cSI (rest := []) (met_J8_newLength_cabcc l v2 (v1 - v2) (v2 >>> (1 &&& 31))) mth_J8_newLength_cabcc rfl dJx4a65c_grow_92f84_27 w_866 w_867 ⟨Nat.le_of_ble_eq_true rfl, Nat.le_of_ble_eq_true rfl⟩ (Nat.le_of_ble_eq_true rfl) rfl (fun x1 => ?_)
  refine s_istoren (lv' := [(3, .inl x1), (0, .inr (.inr v0)), (1, .inl v1), (2, .inl v2)]) dJx4a65c_grow_92f84_30 (Nat.le_of_ble_eq_true rfl) rfl ?_
  refine s_aloadn (j := 1) dJx4a65c_grow_92f84_31 rfl ?_
  refine s_aloadn (j := 1) dJx4a65c_grow_92f84_32 rfl ?_
  refine s_getR (k := 1) cls_0 (by decide) rfl dJx4a65c_grow_92f84_33 w_57 rfl (fun x2 => ?_)
  refine s_iloadn (j := 0) dJx4a65c_grow_92f84_36 rfl ?_
  refine s_cSR (rest := [.inr (.inr v0)]) (met_J7_copyOf_1904c l x2 x1) mth_J7_copyOf_1904c rfl dJx4a65c_grow_92f84_37 w_874 w_875 ⟨Nat.le_of_ble_eq_true rfl, Nat.le_of_ble_eq_true rfl⟩ (Nat.le_of_ble_eq_true rfl) rfl (fun x3 => ?_)
  refine s_dupx1R dJx4a65c_grow_92f84_40 ?_
  refine s_putR (k := 1) cls_0 (by decide) rfl rfl rfl dJx4a65c_grow_92f84_41 w_57 rfl ?_
  exact s_aret dJx4a65c_grow_92f84_44 rfl (Or.inr ⟨_, rfl⟩)
set_option maxRecDepth 20000 in
theorem sim_Jx4a65c_grow_92f84 (l : Launch) (v0 : Option Nat) (v1 : Int32) : Sim (M_Jx4a65c_grow_92f84 l) (zFin zcR) 0 [(0, .inr (.inr v0)), (1, .inl v1)] [] (p_Jx4a65c_grow_92f84 v0 v1) := by
  unfold p_Jx4a65c_grow_92f84
  refine s_aloadn (j := 0) dJx4a65c_grow_92f84_0 rfl ?_
  refine s_getR (k := 1) cls_0 (by decide) rfl dJx4a65c_grow_92f84_1 w_57 rfl (fun x4 => ?_)
  refine s_alen dJx4a65c_grow_92f84_4 (fun x5 => ?_)
  refine s_istoren (lv' := [(2, .inl x5), (0, .inr (.inr v0)), (1, .inl v1)]) dJx4a65c_grow_92f84_5 (Nat.le_of_ble_eq_true rfl) rfl ?_
  refine s_iloadn (j := 0) dJx4a65c_grow_92f84_6 rfl ?_
  refine s_if_gt (tgt := 20) dJx4a65c_grow_92f84_7 (by decide) ?_ ?_
  · exact Sim.sub [1, 2, 0] rfl (sim_Jx4a65c_grow_92f84_b20 l v0 v1 x5)
  · refine s_aloadn (j := 1) dJx4a65c_grow_92f84_10 rfl ?_
    refine s_getR (k := 1) cls_0 (by decide) rfl dJx4a65c_grow_92f84_11 w_57 rfl (fun x6 => ?_)
    refine s_gets dJx4a65c_grow_92f84_14 w_55 (fun x7 => ?_)
    refine s_acmp_eq (tgt := 45) dJx4a65c_grow_92f84_17 (by decide) ?_ ?_
    · refine s_aloadn (j := 1) dJx4a65c_grow_92f84_45 rfl ?_
      refine s_bipush (v := 10) dJx4a65c_grow_92f84_46 (by decide) ?_
      refine s_iloadn (j := 2) dJx4a65c_grow_92f84_48 rfl ?_
      refine s_mmax dJx4a65c_grow_92f84_49 w_906 w_570 w_22 w_571 (Nat.le_of_ble_eq_true rfl) (Nat.le_of_ble_eq_true rfl) ?_
      refine s_anew dJx4a65c_grow_92f84_52 w_907 w_902 (fun x8 => ?_)
      refine s_dupx1R dJx4a65c_grow_92f84_55 ?_
      refine s_putR (k := 1) cls_0 (by decide) rfl rfl rfl dJx4a65c_grow_92f84_56 w_57 rfl ?_
      exact s_aret dJx4a65c_grow_92f84_59 rfl (Or.inr ⟨_, rfl⟩)
    · exact Sim.sub [1, 2, 0] rfl (sim_Jx4a65c_grow_92f84_b20 l v0 v1 x5)
theorem met_Jx4a65c_grow_92f84 (l : Launch) (v0 : Option Nat) (v1 : Int32) : zMet l yJx4a65c_grow_92f84 cJx4a65c_grow_92f84 4 (some (.array (.object "java/lang/Object"))) 3 84 [.inr (.inr v0), .inl v1] zcR (p_Jx4a65c_grow_92f84 v0 v1) :=
  zMet.of (by decide +kernel) (Nat.le_of_ble_eq_true rfl) rfl (sim_Jx4a65c_grow_92f84 l v0 v1)
def p_Jx4a65c_grow_d5877 (v0 : Option Nat) : ZM (Option Nat) :=
  z_b (z_gI 0 2 v0) fun x1 => z_b (z_vr 0 v0 (p_Jx4a65c_grow_92f84 v0 (x1 + 1))) fun x2 => z_rt x2
abbrev M_Jx4a65c_grow_d5877 (l : Launch) : ZMe := (l, "java/util/ArrayList", cJx4a65c_grow_d5877, 1, 4, 107, (some (.array (.object "java/lang/Object"))), "grow", [])
set_option maxRecDepth 20000 in
theorem sim_Jx4a65c_grow_d5877 (l : Launch) (v0 : Option Nat) : Sim (M_Jx4a65c_grow_d5877 l) (zFin zcR) 0 [(0, .inr (.inr v0))] [] (p_Jx4a65c_grow_d5877 v0) := by
  unfold p_Jx4a65c_grow_d5877
  refine s_aloadn (j := 0) dJx4a65c_grow_d5877_0 rfl ?_
  refine s_aloadn (j := 0) dJx4a65c_grow_d5877_1 rfl ?_
  refine s_getI (k := 2) cls_0 (by decide) rfl dJx4a65c_grow_d5877_2 w_58 rfl (fun x1 => ?_)
  refine s_iconst (v := 1) dJx4a65c_grow_d5877_5 (by decide) ?_
  refine s_iadd dJx4a65c_grow_d5877_6 ?_
  refine s_cVR (rest := []) (met_Jx4a65c_grow_92f84 l v0 (x1 + 1)) cls_0 mth_Jx4a65c_grow_92f84 rfl dJx4a65c_grow_d5877_7 w_862 w_864 wp_30 ⟨Nat.le_of_ble_eq_true rfl, Nat.le_of_ble_eq_true rfl⟩ (Nat.le_of_ble_eq_true rfl) rfl (fun x2 => ?_)
  exact s_aret dJx4a65c_grow_d5877_10 rfl (Or.inr ⟨_, rfl⟩)
theorem met_Jx4a65c_grow_d5877 (l : Launch) (v0 : Option Nat) : zMet l yJx4a65c_grow_d5877 cJx4a65c_grow_d5877 1 (some (.array (.object "java/lang/Object"))) 4 107 [.inr (.inr v0)] zcR (p_Jx4a65c_grow_d5877 v0) :=
  zMet.of (by decide +kernel) (Nat.le_of_ble_eq_true rfl) rfl (sim_Jx4a65c_grow_d5877 l v0)
def p_Jx4a65c_add_72be8_b11 (v0 : Option Nat) (v1 : Option Nat) (v2 : Option Nat) (v3 : Int32) : ZM Unit :=
  z_b (z_sR v2 v3 v1) fun _ => z_b (z_pI 0 2 v0 (v3 + 1)) fun _ => z_rt ()
def p_Jx4a65c_add_72be8 (v0 : Option Nat) (v1 : Option Nat) (v2 : Option Nat) (v3 : Int32) : ZM Unit :=
  z_b (z_aN v2) fun x1 => if ¬ v3 = x1 then (p_Jx4a65c_add_72be8_b11 v0 v1 v2 v3)
  else (z_b (z_vr 0 v0 (p_Jx4a65c_grow_d5877 v0)) fun x2 => p_Jx4a65c_add_72be8_b11 v0 v1 x2 v3)
abbrev M_Jx4a65c_add_72be8 (l : Launch) : ZMe := (l, "java/util/ArrayList", cJx4a65c_add_72be8, 4, 5, 127, none, "add", [])
set_option maxRecDepth 20000 in
theorem sim_Jx4a65c_add_72be8_b11 (l : Launch) (v0 : Option Nat) (v1 : Option Nat) (v2 : Option Nat) (v3 : Int32) : Sim (M_Jx4a65c_add_72be8 l) (zFin zcV) 11 [(0, .inr (.inr v0)), (1, .inr (.inr v1)), (2, .inr (.inr v2)), (3, .inl v3)] [] (p_Jx4a65c_add_72be8_b11 v0 v1 v2 v3) := by
  unfold p_Jx4a65c_add_72be8_b11
  refine s_aloadn (j := 2) dJx4a65c_add_72be8_11 rfl ?_
  refine s_iloadn (j := 3) dJx4a65c_add_72be8_12 rfl ?_
  refine s_aloadn (j := 1) dJx4a65c_add_72be8_13 rfl ?_
  refine s_aast dJx4a65c_add_72be8_14 ?_
  refine s_aloadn (j := 0) dJx4a65c_add_72be8_15 rfl ?_
  refine s_iloadn (j := 3) dJx4a65c_add_72be8_16 rfl ?_
  refine s_iconst (v := 1) dJx4a65c_add_72be8_17 (by decide) ?_
  refine s_iadd dJx4a65c_add_72be8_18 ?_
  refine s_putI (k := 2) cls_0 (by decide) rfl rfl rfl dJx4a65c_add_72be8_19 w_58 rfl ?_
  exact s_vret dJx4a65c_add_72be8_22 rfl
set_option maxRecDepth 20000 in
theorem sim_Jx4a65c_add_72be8 (l : Launch) (v0 : Option Nat) (v1 : Option Nat) (v2 : Option Nat) (v3 : Int32) : Sim (M_Jx4a65c_add_72be8 l) (zFin zcV) 0 [(0, .inr (.inr v0)), (1, .inr (.inr v1)), (2, .inr (.inr v2)), (3, .inl v3)] [] (p_Jx4a65c_add_72be8 v0 v1 v2 v3) := by
  unfold p_Jx4a65c_add_72be8
  refine s_iloadn (j := 3) dJx4a65c_add_72be8_0 rfl ?_
  refine s_aloadn (j := 2) dJx4a65c_add_72be8_1 rfl ?_
  refine s_alen dJx4a65c_add_72be8_2 (fun x1 => ?_)
  refine s_icmp_ne (tgt := 11) dJx4a65c_add_72be8_3 (by decide) ?_ ?_
  · exact Sim.sub [0, 1, 2, 3] rfl (sim_Jx4a65c_add_72be8_b11 l v0 v1 v2 v3)
  · refine s_aloadn (j := 0) dJx4a65c_add_72be8_6 rfl ?_
    refine s_cVR (rest := []) (met_Jx4a65c_grow_d5877 l v0) cls_0 mth_Jx4a65c_grow_d5877 rfl dJx4a65c_add_72be8_7 w_858 w_860 wp_29 ⟨Nat.le_of_ble_eq_true rfl, Nat.le_of_ble_eq_true rfl⟩ (Nat.le_of_ble_eq_true rfl) rfl (fun x2 => ?_)
    refine s_astoren (lv' := [(2, .inr (.inr x2)), (0, .inr (.inr v0)), (1, .inr (.inr v1)), (3, .inl v3)]) dJx4a65c_add_72be8_10 (Nat.le_of_ble_eq_true rfl) rfl ?_
    exact Sim.sub [1, 2, 0, 3] rfl (sim_Jx4a65c_add_72be8_b11 l v0 v1 x2 v3)
theorem met_Jx4a65c_add_72be8 (l : Launch) (v0 : Option Nat) (v1 : Option Nat) (v2 : Option Nat) (v3 : Int32) : zMet l yJx4a65c_add_72be8 cJx4a65c_add_72be8 4 none 5 127 [.inr (.inr v0), .inr (.inr v1), .inr (.inr v2), .inl v3] zcV (p_Jx4a65c_add_72be8 v0 v1 v2 v3) :=
  zMet.of (by decide +kernel) (Nat.le_of_ble_eq_true rfl) rfl (sim_Jx4a65c_add_72be8 l v0 v1 v2 v3)
def p_Jx4a65c_add_9ea2d (v0 : Option Nat) (v1 : Option Nat) : ZM Int32 :=
  z_b (z_gI 0 0 v0) fun x1 => z_b (z_pI 0 0 v0 (x1 + 1)) fun _ => z_b (z_gR 0 1 v0) fun x2 => z_b (z_gI 0 2 v0) fun x3 => z_b (z_vr 0 v0 (p_Jx4a65c_add_72be8 v0 v1 x2 x3)) fun _ => z_rz 1
abbrev M_Jx4a65c_add_9ea2d (l : Launch) : ZMe := (l, "java/util/ArrayList", cJx4a65c_add_9ea2d, 2, 6, 150, (some .boolean), "add", [])
set_option maxRecDepth 20000 in
theorem sim_Jx4a65c_add_9ea2d (l : Launch) (v0 : Option Nat) (v1 : Option Nat) : Sim (M_Jx4a65c_add_9ea2d l) (zFin zcI) 0 [(0, .inr (.inr v0)), (1, .inr (.inr v1))] [] (p_Jx4a65c_add_9ea2d v0 v1) := by
  unfold p_Jx4a65c_add_9ea2d
  refine s_aloadn (j := 0) dJx4a65c_add_9ea2d_0 rfl ?_
  refine s_dupR dJx4a65c_add_9ea2d_1 ?_
  refine s_getIU (k := 0) cls_0 (by decide) rfl dJx4a65c_add_9ea2d_2 w_60 w_61 (fun x1 => ?_)
  refine s_iconst (v := 1) dJx4a65c_add_9ea2d_5 (by decide) ?_
  refine s_iadd dJx4a65c_add_9ea2d_6 ?_
  refine s_putIU (k := 0) cls_0 (by decide) rfl rfl rfl dJx4a65c_add_9ea2d_7 w_60 w_61 ?_
  refine s_aloadn (j := 0) dJx4a65c_add_9ea2d_10 rfl ?_
  refine s_aloadn (j := 1) dJx4a65c_add_9ea2d_11 rfl ?_
  refine s_aloadn (j := 0) dJx4a65c_add_9ea2d_12 rfl ?_
  refine s_getR (k := 1) cls_0 (by decide) rfl dJx4a65c_add_9ea2d_13 w_57 rfl (fun x2 => ?_)
  refine s_aloadn (j := 0) dJx4a65c_add_9ea2d_16 rfl ?_
  refine s_getI (k := 2) cls_0 (by decide) rfl dJx4a65c_add_9ea2d_17 w_58 rfl (fun x3 => ?_)
  refine s_cVV (rest := []) (met_Jx4a65c_add_72be8 l v0 v1 x2 x3) cls_0 mth_Jx4a65c_add_72be8 rfl dJx4a65c_add_9ea2d_20 w_854 w_856 wp_28 ⟨Nat.le_of_ble_eq_true rfl, Nat.le_of_ble_eq_true rfl⟩ (Nat.le_of_ble_eq_true rfl) rfl ?_
  refine s_iconst (v := 1) dJx4a65c_add_9ea2d_23 (by decide) ?_
  exact s_zret dJx4a65c_add_9ea2d_24 rfl
theorem met_Jx4a65c_add_9ea2d (l : Launch) (v0 : Option Nat) (v1 : Option Nat) : zMet l yJx4a65c_add_9ea2d cJx4a65c_add_9ea2d 2 (some .boolean) 6 150 [.inr (.inr v0), .inr (.inr v1)] zcI (p_Jx4a65c_add_9ea2d v0 v1) :=
  zMet.of (by decide +kernel) (Nat.le_of_ble_eq_true rfl) rfl (sim_Jx4a65c_add_9ea2d l v0 v1)
def p_J3_checkIndex_8e157_b9 (v0 : Int32) (v1 : Int32) (v2 : Option Nat) : ZM Int32 :=
  z_fl
def p_J3_checkIndex_8e157 (v0 : Int32) (v1 : Int32) (v2 : Option Nat) : ZM Int32 :=
  if v0 < 0 then (p_J3_checkIndex_8e157_b9 v0 v1 v2)
  else (if v0 < v1 then (z_rt v0)
  else (p_J3_checkIndex_8e157_b9 v0 v1 v2))
abbrev M_J3_checkIndex_8e157 (l : Launch) : ZMe := (l, "jdk/internal/util/Preconditions", cJ3_checkIndex_8e157, 3, 0, 0, (some .int), "checkIndex", [])
set_option maxRecDepth 20000 in
theorem sim_J3_checkIndex_8e157_b9 (l : Launch) (v0 : Int32) (v1 : Int32) (v2 : Option Nat) : Sim (M_J3_checkIndex_8e157 l) (zFin zcI) 9 [(0, .inl v0), (1, .inl v1), (2, .inr (.inr v2))] [] (p_J3_checkIndex_8e157_b9 v0 v1 v2) := by
  unfold p_J3_checkIndex_8e157_b9
  refine s_aloadn (j := 2) dJ3_checkIndex_8e157_9 rfl ?_
  refine s_iloadn (j := 0) dJ3_checkIndex_8e157_10 rfl ?_
  refine s_iloadn (j := 1) dJ3_checkIndex_8e157_11 rfl ?_
  exact s_fl
set_option maxRecDepth 20000 in
theorem sim_J3_checkIndex_8e157 (l : Launch) (v0 : Int32) (v1 : Int32) (v2 : Option Nat) : Sim (M_J3_checkIndex_8e157 l) (zFin zcI) 0 [(0, .inl v0), (1, .inl v1), (2, .inr (.inr v2))] [] (p_J3_checkIndex_8e157 v0 v1 v2) := by
  unfold p_J3_checkIndex_8e157
  refine s_iloadn (j := 0) dJ3_checkIndex_8e157_0 rfl ?_
  refine s_if_lt (tgt := 9) dJ3_checkIndex_8e157_1 (by decide) ?_ ?_
  · exact Sim.sub [0, 1, 2] rfl (sim_J3_checkIndex_8e157_b9 l v0 v1 v2)
  · refine s_iloadn (j := 0) dJ3_checkIndex_8e157_4 rfl ?_
    refine s_iloadn (j := 1) dJ3_checkIndex_8e157_5 rfl ?_
    refine s_icmp_lt (tgt := 16) dJ3_checkIndex_8e157_6 (by decide) ?_ ?_
    · refine s_iloadn (j := 0) dJ3_checkIndex_8e157_16 rfl ?_
      exact s_iret dJ3_checkIndex_8e157_17 rfl
    · exact Sim.sub [0, 1, 2] rfl (sim_J3_checkIndex_8e157_b9 l v0 v1 v2)
theorem met_J3_checkIndex_8e157 (l : Launch) (v0 : Int32) (v1 : Int32) (v2 : Option Nat) : zMet l yJ3_checkIndex_8e157 cJ3_checkIndex_8e157 3 (some .int) 0 0 [.inl v0, .inl v1, .inr (.inr v2)] zcI (p_J3_checkIndex_8e157 v0 v1 v2) :=
  zMet.of (by decide +kernel) (Nat.le_of_ble_eq_true rfl) rfl (sim_J3_checkIndex_8e157 l v0 v1 v2)
def p_J15_checkIndex_7cf53 (v0 : Int32) (v1 : Int32) : ZM Int32 :=
  z_b (p_J3_checkIndex_8e157 v0 v1 none) fun x1 => z_rt x1
abbrev M_J15_checkIndex_7cf53 (l : Launch) : ZMe := (l, "java/util/Objects", cJ15_checkIndex_7cf53, 2, 1, 22, (some .int), "checkIndex", [])
set_option maxRecDepth 20000 in
theorem sim_J15_checkIndex_7cf53 (l : Launch) (v0 : Int32) (v1 : Int32) : Sim (M_J15_checkIndex_7cf53 l) (zFin zcI) 0 [(0, .inl v0), (1, .inl v1)] [] (p_J15_checkIndex_7cf53 v0 v1) := by
  unfold p_J15_checkIndex_7cf53
  refine s_iloadn (j := 0) dJ15_checkIndex_7cf53_0 rfl ?_
  refine s_iloadn (j := 1) dJ15_checkIndex_7cf53_1 rfl ?_
  refine s_null dJ15_checkIndex_7cf53_2 ?_
  refine s_cSI (rest := []) (met_J3_checkIndex_8e157 l v0 v1 none) mth_J3_checkIndex_8e157 rfl dJ15_checkIndex_7cf53_3 w_482 w_483 ⟨Nat.le_of_ble_eq_true rfl, Nat.le_of_ble_eq_true rfl⟩ (Nat.le_of_ble_eq_true rfl) rfl (fun x1 => ?_)
  exact s_iret dJ15_checkIndex_7cf53_6 rfl
theorem met_J15_checkIndex_7cf53 (l : Launch) (v0 : Int32) (v1 : Int32) : zMet l yJ15_checkIndex_7cf53 cJ15_checkIndex_7cf53 2 (some .int) 1 22 [.inl v0, .inl v1] zcI (p_J15_checkIndex_7cf53 v0 v1) :=
  zMet.of (by decide +kernel) (Nat.le_of_ble_eq_true rfl) rfl (sim_J15_checkIndex_7cf53 l v0 v1)
def p_Jx4a65c_elementData_915e3 (v0 : Option Nat) (v1 : Int32) : ZM (Option Nat) :=
  z_b (z_gR 0 1 v0) fun x1 => z_b (z_aR x1 v1) fun x2 => z_rt x2
abbrev M_Jx4a65c_elementData_915e3 (l : Launch) : ZMe := (l, "java/util/ArrayList", cJx4a65c_elementData_915e3, 2, 0, 0, (some (.object "java/lang/Object")), "elementData", [])
set_option maxRecDepth 20000 in
theorem sim_Jx4a65c_elementData_915e3 (l : Launch) (v0 : Option Nat) (v1 : Int32) : Sim (M_Jx4a65c_elementData_915e3 l) (zFin zcR) 0 [(0, .inr (.inr v0)), (1, .inl v1)] [] (p_Jx4a65c_elementData_915e3 v0 v1) := by
  unfold p_Jx4a65c_elementData_915e3
  refine s_aloadn (j := 0) dJx4a65c_elementData_915e3_0 rfl ?_
  refine s_getR (k := 1) cls_0 (by decide) rfl dJx4a65c_elementData_915e3_1 w_57 rfl (fun x1 => ?_)
  refine s_iloadn (j := 1) dJx4a65c_elementData_915e3_4 rfl ?_
  refine s_aald dJx4a65c_elementData_915e3_5 (fun x2 => ?_)
  exact s_aret dJx4a65c_elementData_915e3_6 rfl (Or.inl ⟨_, rfl⟩)
theorem met_Jx4a65c_elementData_915e3 (l : Launch) (v0 : Option Nat) (v1 : Int32) : zMet l yJx4a65c_elementData_915e3 cJx4a65c_elementData_915e3 2 (some (.object "java/lang/Object")) 0 0 [.inr (.inr v0), .inl v1] zcR (p_Jx4a65c_elementData_915e3 v0 v1) :=
  zMet.of (by decide +kernel) (Nat.le_of_ble_eq_true rfl) rfl (sim_Jx4a65c_elementData_915e3 l v0 v1)
def p_Jx4a65c_get_915e3 (v0 : Option Nat) (v1 : Int32) : ZM (Option Nat) :=
  z_b (z_gI 0 2 v0) fun x1 => z_b (p_J15_checkIndex_7cf53 v1 x1) fun x2 => z_b (z_vr 0 v0 (p_Jx4a65c_elementData_915e3 v0 v1)) fun x3 => z_rt x3
abbrev M_Jx4a65c_get_915e3 (l : Launch) : ZMe := (l, "java/util/ArrayList", cJx4a65c_get_915e3, 2, 2, 43, (some (.object "java/lang/Object")), "get", [])
set_option maxRecDepth 20000 in
theorem sim_Jx4a65c_get_915e3 (l : Launch) (v0 : Option Nat) (v1 : Int32) : Sim (M_Jx4a65c_get_915e3 l) (zFin zcR) 0 [(0, .inr (.inr v0)), (1, .inl v1)] [] (p_Jx4a65c_get_915e3 v0 v1) := by
  unfold p_Jx4a65c_get_915e3
  refine s_iloadn (j := 1) dJx4a65c_get_915e3_0 rfl ?_
  refine s_aloadn (j := 0) dJx4a65c_get_915e3_1 rfl ?_
  refine s_getI (k := 2) cls_0 (by decide) rfl dJx4a65c_get_915e3_2 w_58 rfl (fun x1 => ?_)
  refine s_cSI (rest := []) (met_J15_checkIndex_7cf53 l v1 x1) mth_J15_checkIndex_7cf53 rfl dJx4a65c_get_915e3_5 w_479 w_480 ⟨Nat.le_of_ble_eq_true rfl, Nat.le_of_ble_eq_true rfl⟩ (Nat.le_of_ble_eq_true rfl) rfl (fun x2 => ?_)
  refine s_popI dJx4a65c_get_915e3_8 ?_
  refine s_aloadn (j := 0) dJx4a65c_get_915e3_9 rfl ?_
  refine s_iloadn (j := 1) dJx4a65c_get_915e3_10 rfl ?_
  refine s_cVR (rest := []) (met_Jx4a65c_elementData_915e3 l v0 v1) cls_0 mth_Jx4a65c_elementData_915e3 rfl dJx4a65c_get_915e3_11 w_485 w_486 w_487 ⟨Nat.le_of_ble_eq_true rfl, Nat.le_of_ble_eq_true rfl⟩ (Nat.le_of_ble_eq_true rfl) rfl (fun x3 => ?_)
  exact s_aret dJx4a65c_get_915e3_14 rfl (Or.inl ⟨_, rfl⟩)
theorem met_Jx4a65c_get_915e3 (l : Launch) (v0 : Option Nat) (v1 : Int32) : zMet l yJx4a65c_get_915e3 cJx4a65c_get_915e3 2 (some (.object "java/lang/Object")) 2 43 [.inr (.inr v0), .inl v1] zcR (p_Jx4a65c_get_915e3 v0 v1) :=
  zMet.of (by decide +kernel) (Nat.le_of_ble_eq_true rfl) rfl (sim_Jx4a65c_get_915e3 l v0 v1)
