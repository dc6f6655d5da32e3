def p_X11_rule_b65  : ZM (Int32 ⊕ Nat) :=
  z_th 0
def p_X11_rule_b122  : ZM (Int32 ⊕ Nat) :=
  z_th 1
def p_X11_rule_b148 (v0 : Option Nat) (v1 : Int32) (v2 : Int32) (v3 : Int32) (v5 : Int32) (v6 : Int32) (s0 : Int32) : ZM (Int32 ⊕ Nat) :=
  z_b (z_gR 12 0 v0) fun x1 => z_b (z_nO 6 8) fun x2 => z_b (z_vr 12 v0 (p_X11_takeDraft v0)) fun x3 => z_b (z_ii x2 (p_X5_init x2 v1 v2 v3 s0 x3 v5 v6)) fun _ => z_b (z_vr 3 x1 (p_X2_addRule x1 x2)) fun x4 => z_b (z_gR 12 0 v0) fun x5 => z_b (z_vr 3 x5 (p_X2_remake x5)) fun _ => z_b (z_vr 12 v0 (p_X11_forgetAnswers v0)) fun _ => z_xrt x4
def p_X11_rule_b92 (v0 : Option Nat) (v1 : Int32) (v2 : Int32) (v3 : Int32) (v4 : Int32) (v5 : Int32) (v6 : Int32) (s0 : Int32) : ZM (Int32 ⊕ Nat) :=
  z_b (z_gI 12 10 v0) fun x6 => z_b (p_X11_sizeOf x6) fun x7 => if 4 < x7 then (p_X11_rule_b122)
  else (if ¬ s0 = 0 then (p_X11_rule_b122)
  else (z_b (z_gR 12 0 v0) fun x8 => z_b (z_vr 3 x8 (p_X2_ruleCount x8)) fun x9 => if x9 < 8 then (if ¬ v4 = 32 then (p_X11_rule_b148 v0 v1 v2 v3 v5 v6 (v4 - 97))
  else (p_X11_rule_b148 v0 v1 v2 v3 v5 v6 (-1)))
  else (p_X11_rule_b122)))
def p_X11_rule_b91 (v0 : Option Nat) (v1 : Int32) (v2 : Int32) (v3 : Int32) (v4 : Int32) (v5 : Int32) (v6 : Int32) : ZM (Int32 ⊕ Nat) :=
  p_X11_rule_b92 v0 v1 v2 v3 v4 v5 v6 0
def p_X11_rule_b38 (v0 : Option Nat) (v1 : Int32) (v2 : Int32) (v3 : Int32) (v4 : Int32) (v5 : Int32) (v6 : Int32) (s0 : Int32) : ZM (Int32 ⊕ Nat) :=
  if s0 = 0 then (p_X11_rule_b65)
  else (z_b (p_X11_isIn v5 (-1) 3) fun x10 => if x10 = 0 then (p_X11_rule_b65)
  else (z_b (p_X11_isIn v6 (-1) 1) fun x11 => if ¬ x11 = 0 then (z_b (z_gI 12 10 v0) fun x12 => if ¬ x12 = 1 then (p_X11_rule_b91 v0 v1 v2 v3 v4 v5 v6)
  else (if ¬ v3 = 0 then (p_X11_rule_b91 v0 v1 v2 v3 v4 v5 v6)
  else (p_X11_rule_b92 v0 v1 v2 v3 v4 v5 v6 1)))
  else (p_X11_rule_b65)))
def p_X11_rule_b37 (v0 : Option Nat) (v1 : Int32) (v2 : Int32) (v3 : Int32) (v4 : Int32) (v5 : Int32) (v6 : Int32) : ZM (Int32 ⊕ Nat) :=
  p_X11_rule_b38 v0 v1 v2 v3 v4 v5 v6 0
def p_X11_rule_b33 (v0 : Option Nat) (v1 : Int32) (v2 : Int32) (v3 : Int32) (v4 : Int32) (v5 : Int32) (v6 : Int32) : ZM (Int32 ⊕ Nat) :=
  p_X11_rule_b38 v0 v1 v2 v3 v4 v5 v6 1
def p_X11_rule (v0 : Option Nat) (v1 : Int32) (v2 : Int32) (v3 : Int32) (v4 : Int32) (v5 : Int32) (v6 : Int32) : ZM (Int32 ⊕ Nat) :=
  z_b (p_X11_isIn v1 0 5) fun x13 => if x13 = 0 then (p_X11_rule_b37 v0 v1 v2 v3 v4 v5 v6)
  else (z_b (p_X11_isIn v3 0 2) fun x14 => if x14 = 0 then (p_X11_rule_b37 v0 v1 v2 v3 v4 v5 v6)
  else (if v4 = 32 then (p_X11_rule_b33 v0 v1 v2 v3 v4 v5 v6)
  else (z_b (p_X11_isLetter v4) fun x15 => if x15 = 0 then (p_X11_rule_b37 v0 v1 v2 v3 v4 v5 v6)
  else (p_X11_rule_b33 v0 v1 v2 v3 v4 v5 v6))))
abbrev M_X11_rule (l : Launch) : ZMe := (l, "SpellScribe", cX11_rule, 11, 8, 192, (some .int), "rule", [])
set_option maxRecDepth 20000 in
theorem sim_X11_rule_b65 (l : Launch) (hfl : l.stackTraces = false)  : Sim (M_X11_rule l) (zFinX zcI) 65 [] [] (p_X11_rule_b65 ) := by
  unfold p_X11_rule_b65
  exact s_throw (n := 0) (text := "flag, strip, with, kind or form is out of range") zthw_0 hfl rfl (by decide +kernel) rfl dX11_rule_65 dX11_rule_68 dX11_rule_69 dX11_rule_71 dX11_rule_74 (Nat.le_of_ble_eq_true rfl) (Nat.le_of_ble_eq_true rfl)
set_option maxRecDepth 20000 in
theorem sim_X11_rule_b122 (l : Launch) (hfl : l.stackTraces = false)  : Sim (M_X11_rule l) (zFinX zcI) 122 [] [] (p_X11_rule_b122 ) := by
  unfold p_X11_rule_b122
  exact s_throw (n := 1) (text := "the draft is no addition, or there are 8 rules") zthw_1 hfl rfl (by decide +kernel) rfl dX11_rule_122 dX11_rule_125 dX11_rule_126 dX11_rule_128 dX11_rule_131 (Nat.le_of_ble_eq_true rfl) (Nat.le_of_ble_eq_true rfl)
set_option maxRecDepth 20000 in
theorem sim_X11_rule_b148 (l : Launch) (hfl : l.stackTraces = false) (v0 : Option Nat) (v1 : Int32) (v2 : Int32) (v3 : Int32) (v5 : Int32) (v6 : Int32) (s0 : Int32) : Sim (M_X11_rule l) (zFinX zcI) 148 [(0, .inr (.inr v0)), (1, .inl v1), (2, .inl v2), (3, .inl v3), (5, .inl v5), (6, .inl v6)] [.inl s0] (p_X11_rule_b148 v0 v1 v2 v3 v5 v6 s0) := by
  unfold p_X11_rule_b148
  refine s_istore (lv' := [(9, .inl s0), (0, .inr (.inr v0)), (1, .inl v1), (2, .inl v2), (3, .inl v3), (5, .inl v5), (6, .inl v6)]) dX11_rule_148 (Nat.le_of_ble_eq_true rfl) rfl ?_
  refine s_aloadn (j := 1) dX11_rule_150 rfl ?_
  refine s_getR (k := 0) cls_12 (by decide) rfl dX11_rule_151 w_279 rfl (fun x1 => ?_)
  refine s_new cls_6 zck_6 dX11_rule_154 w_991 w_992 w_27 (fun x2 => ?_)
  refine s_dupR dX11_rule_157 ?_
  refine s_iloadn (j := 2) dX11_rule_158 rfl ?_
  refine s_iloadn (j := 3) dX11_rule_159 rfl ?_
  refine s_iloadn (j := 4) dX11_rule_160 rfl ?_
  refine s_iload (j := 0) dX11_rule_161 rfl ?_
  refine s_aloadn (j := 1) dX11_rule_163 rfl ?_
  refine s_cVI (rest := [.inl s0, .inl v3, .inl v2, .inl v1, .inr (.inr x2), .inr (.inr x2), .inr (.inr x1)]) (met_X11_takeDraft l v0) cls_12 mth_X11_takeDraft rfl dX11_rule_164 w_323 w_325 wp_0 ⟨Nat.le_of_ble_eq_true rfl, Nat.le_of_ble_eq_true rfl⟩ (Nat.le_of_ble_eq_true rfl) rfl (fun x3 => ?_)
  refine s_iload (j := 5) dX11_rule_167 rfl ?_
  refine s_iload (j := 6) dX11_rule_169 rfl ?_
  refine s_callI (rest := [.inr (.inr x2), .inr (.inr x1)]) (met_X5_init l x2 v1 v2 v3 s0 x3 v5 v6) mth_X5_init rfl rfl dX11_rule_171 w_993 w_994 ⟨Nat.le_of_ble_eq_true rfl, Nat.le_of_ble_eq_true rfl⟩ (Nat.le_of_ble_eq_true rfl) rfl ?_
  refine s_cVI (rest := []) (met_X2_addRule l x1 x2) cls_3 mth_X2_addRule rfl dX11_rule_174 w_1024 w_1025 w_1026 ⟨Nat.le_of_ble_eq_true rfl, Nat.le_of_ble_eq_true rfl⟩ (Nat.le_of_ble_eq_true rfl) rfl (fun x4 => ?_)
  refine s_istore (lv' := [(10, .inl x4), (9, .inl s0), (0, .inr (.inr v0)), (1, .inl v1), (2, .inl v2), (3, .inl v3), (5, .inl v5), (6, .inl v6)]) dX11_rule_177 (Nat.le_of_ble_eq_true rfl) rfl ?_
  refine s_aloadn (j := 2) dX11_rule_179 rfl ?_
  refine s_getR (k := 0) cls_12 (by decide) rfl dX11_rule_180 w_279 rfl (fun x5 => ?_)
  refine s_cVV (rest := []) (met_X2_remake l x5) cls_3 mth_X2_remake rfl dX11_rule_183 w_908 w_909 w_910 ⟨Nat.le_of_ble_eq_true rfl, Nat.le_of_ble_eq_true rfl⟩ (Nat.le_of_ble_eq_true rfl) rfl ?_
  refine s_aloadn (j := 2) dX11_rule_186 rfl ?_
  refine s_cVV (rest := []) (met_X11_forgetAnswers l v0) cls_12 mth_X11_forgetAnswers rfl dX11_rule_187 w_658 w_660 wp_25 ⟨Nat.le_of_ble_eq_true rfl, Nat.le_of_ble_eq_true rfl⟩ (Nat.le_of_ble_eq_true rfl) rfl ?_
  refine s_iload (j := 0) dX11_rule_190 rfl ?_
  exact s_xiret dX11_rule_192 rfl
set_option maxRecDepth 20000 in
theorem sim_X11_rule_b92 (l : Launch) (hfl : l.stackTraces = false) (v0 : Option Nat) (v1 : Int32) (v2 : Int32) (v3 : Int32) (v4 : Int32) (v5 : Int32) (v6 : Int32) (s0 : Int32) : Sim (M_X11_rule l) (zFinX zcI) 92 [(0, .inr (.inr v0)), (1, .inl v1), (2, .inl v2), (3, .inl v3), (4, .inl v4), (5, .inl v5), (6, .inl v6)] [.inl s0] (p_X11_rule_b92 v0 v1 v2 v3 v4 v5 v6 s0) := by
  unfold p_X11_rule_b92
  refine s_istore (lv' := [(8, .inl s0), (0, .inr (.inr v0)), (1, .inl v1), (2, .inl v2), (3, .inl v3), (4, .inl v4), (5, .inl v5), (6, .inl v6)]) dX11_rule_92 (Nat.le_of_ble_eq_true rfl) rfl ?_
  refine s_aloadn (j := 1) dX11_rule_94 rfl ?_
  refine s_getI (k := 10) cls_12 (by decide) rfl dX11_rule_95 w_289 rfl (fun x6 => ?_)
  refine s_cSI (rest := []) (met_X11_sizeOf l x6) mth_X11_sizeOf rfl dX11_rule_98 w_327 w_328 ⟨Nat.le_of_ble_eq_true rfl, Nat.le_of_ble_eq_true rfl⟩ (Nat.le_of_ble_eq_true rfl) rfl (fun x7 => ?_)
  refine s_iconst (v := 4) dX11_rule_101 (by decide) ?_
  refine s_icmp_gt (tgt := 122) dX11_rule_102 (by decide) ?_ ?_
  · exact Sim.sub [] rfl (sim_X11_rule_b122 l hfl)
  · refine s_iload (j := 0) dX11_rule_105 rfl ?_
    refine s_if_ne (tgt := 122) dX11_rule_107 (by decide) ?_ ?_
    · exact Sim.sub [] rfl (sim_X11_rule_b122 l hfl)
    · refine s_aloadn (j := 1) dX11_rule_110 rfl ?_
      refine s_getR (k := 0) cls_12 (by decide) rfl dX11_rule_111 w_279 rfl (fun x8 => ?_)
      refine s_cVI (rest := []) (met_X2_ruleCount l x8) cls_3 mth_X2_ruleCount rfl dX11_rule_114 w_986 w_987 w_988 ⟨Nat.le_of_ble_eq_true rfl, Nat.le_of_ble_eq_true rfl⟩ (Nat.le_of_ble_eq_true rfl) rfl (fun x9 => ?_)
      refine s_bipush (v := 8) dX11_rule_117 (by decide) ?_
      refine s_icmp_lt (tgt := 132) dX11_rule_119 (by decide) ?_ ?_
      · refine s_iload (j := 5) dX11_rule_132 rfl ?_
        refine s_bipush (v := 32) dX11_rule_134 (by decide) ?_
        refine s_icmp_ne (tgt := 143) dX11_rule_136 (by decide) ?_ ?_
        · refine s_iload (j := 5) dX11_rule_143 rfl ?_
          refine s_bipush (v := 97) dX11_rule_145 (by decide) ?_
          refine s_isub dX11_rule_147 ?_
          exact Sim.sub [1, 2, 3, 4, 6, 7] rfl (sim_X11_rule_b148 l hfl v0 v1 v2 v3 v5 v6 (v4 - 97))
        · refine s_iconst (v := (-1)) dX11_rule_139 (by decide) ?_
          refine s_goto (tgt := 148) dX11_rule_140 (by decide) ?_
          exact Sim.sub [1, 2, 3, 4, 6, 7] rfl (sim_X11_rule_b148 l hfl v0 v1 v2 v3 v5 v6 (-1))
      · exact Sim.sub [] rfl (sim_X11_rule_b122 l hfl)
set_option maxRecDepth 20000 in
theorem sim_X11_rule_b91 (l : Launch) (hfl : l.stackTraces = false) (v0 : Option Nat) (v1 : Int32) (v2 : Int32) (v3 : Int32) (v4 : Int32) (v5 : Int32) (v6 : Int32) : Sim (M_X11_rule l) (zFinX zcI) 91 [(0, .inr (.inr v0)), (1, .inl v1), (2, .inl v2), (3, .inl v3), (4, .inl v4), (5, .inl v5), (6, .inl v6)] [] (p_X11_rule_b91 v0 v1 v2 v3 v4 v5 v6) := by
  unfold p_X11_rule_b91
  refine s_iconst (v := 0) dX11_rule_91 (by decide) ?_
  exact Sim.sub [0, 1, 2, 3, 4, 5, 6] rfl (sim_X11_rule_b92 l hfl v0 v1 v2 v3 v4 v5 v6 0)
set_option maxRecDepth 20000 in
theorem sim_X11_rule_b38 (l : Launch) (hfl : l.stackTraces = false) (v0 : Option Nat) (v1 : Int32) (v2 : Int32) (v3 : Int32) (v4 : Int32) (v5 : Int32) (v6 : Int32) (s0 : Int32) : Sim (M_X11_rule l) (zFinX zcI) 38 [(0, .inr (.inr v0)), (1, .inl v1), (2, .inl v2), (3, .inl v3), (4, .inl v4), (5, .inl v5), (6, .inl v6)] [.inl s0] (p_X11_rule_b38 v0 v1 v2 v3 v4 v5 v6 s0) := by
  unfold p_X11_rule_b38
  refine s_istore (lv' := [(7, .inl s0), (0, .inr (.inr v0)), (1, .inl v1), (2, .inl v2), (3, .inl v3), (4, .inl v4), (5, .inl v5), (6, .inl v6)]) dX11_rule_38 (Nat.le_of_ble_eq_true rfl) rfl ?_
  refine s_iload (j := 0) dX11_rule_40 rfl ?_
  refine s_if_eq (tgt := 65) dX11_rule_42 (by decide) ?_ ?_
  · exact Sim.sub [] rfl (sim_X11_rule_b65 l hfl)
  · refine s_iload (j := 6) dX11_rule_45 rfl ?_
    refine s_iconst (v := (-1)) dX11_rule_47 (by decide) ?_
    refine s_iconst (v := 3) dX11_rule_48 (by decide) ?_
    refine s_cSI (rest := []) (met_X11_isIn l v5 (-1) 3) mth_X11_isIn rfl dX11_rule_49 w_504 w_505 ⟨Nat.le_of_ble_eq_true rfl, Nat.le_of_ble_eq_true rfl⟩ (Nat.le_of_ble_eq_true rfl) rfl (fun x10 => ?_)
    refine s_if_eq (tgt := 65) dX11_rule_52 (by decide) ?_ ?_
    · exact Sim.sub [] rfl (sim_X11_rule_b65 l hfl)
    · refine s_iload (j := 7) dX11_rule_55 rfl ?_
      refine s_iconst (v := (-1)) dX11_rule_57 (by decide) ?_
      refine s_iconst (v := 1) dX11_rule_58 (by decide) ?_
      refine s_cSI (rest := []) (met_X11_isIn l v6 (-1) 1) mth_X11_isIn rfl dX11_rule_59 w_504 w_505 ⟨Nat.le_of_ble_eq_true rfl, Nat.le_of_ble_eq_true rfl⟩ (Nat.le_of_ble_eq_true rfl) rfl (fun x11 => ?_)
      refine s_if_ne (tgt := 75) dX11_rule_62 (by decide) ?_ ?_
      · refine s_aloadn (j := 1) dX11_rule_75 rfl ?_
        refine s_getI (k := 10) cls_12 (by decide) rfl dX11_rule_76 w_289 rfl (fun x12 => ?_)
        refine s_iconst (v := 1) dX11_rule_79 (by decide) ?_
        refine s_icmp_ne (tgt := 91) dX11_rule_80 (by decide) ?_ ?_
        · exact Sim.sub [1, 2, 3, 4, 5, 6, 7] rfl (sim_X11_rule_b91 l hfl v0 v1 v2 v3 v4 v5 v6)
        · refine s_iloadn (j := 4) dX11_rule_83 rfl ?_
          refine s_if_ne (tgt := 91) dX11_rule_84 (by decide) ?_ ?_
          · exact Sim.sub [1, 2, 3, 4, 5, 6, 7] rfl (sim_X11_rule_b91 l hfl v0 v1 v2 v3 v4 v5 v6)
          · refine s_iconst (v := 1) dX11_rule_87 (by decide) ?_
            refine s_goto (tgt := 92) dX11_rule_88 (by decide) ?_
            exact Sim.sub [1, 2, 3, 4, 5, 6, 7] rfl (sim_X11_rule_b92 l hfl v0 v1 v2 v3 v4 v5 v6 1)
      · exact Sim.sub [] rfl (sim_X11_rule_b65 l hfl)
set_option maxRecDepth 20000 in
theorem sim_X11_rule_b37 (l : Launch) (hfl : l.stackTraces = false) (v0 : Option Nat) (v1 : Int32) (v2 : Int32) (v3 : Int32) (v4 : Int32) (v5 : Int32) (v6 : Int32) : Sim (M_X11_rule l) (zFinX zcI) 37 [(0, .inr (.inr v0)), (1, .inl v1), (2, .inl v2), (3, .inl v3), (4, .inl v4), (5, .inl v5), (6, .inl v6)] [] (p_X11_rule_b37 v0 v1 v2 v3 v4 v5 v6) := by
  unfold p_X11_rule_b37
  refine s_iconst (v := 0) dX11_rule_37 (by decide) ?_
  exact Sim.sub [0, 1, 2, 3, 4, 5, 6] rfl (sim_X11_rule_b38 l hfl v0 v1 v2 v3 v4 v5 v6 0)
set_option maxRecDepth 20000 in
theorem sim_X11_rule_b33 (l : Launch) (hfl : l.stackTraces = false) (v0 : Option Nat) (v1 : Int32) (v2 : Int32) (v3 : Int32) (v4 : Int32) (v5 : Int32) (v6 : Int32) : Sim (M_X11_rule l) (zFinX zcI) 33 [(0, .inr (.inr v0)), (1, .inl v1), (2, .inl v2), (3, .inl v3), (4, .inl v4), (5, .inl v5), (6, .inl v6)] [] (p_X11_rule_b33 v0 v1 v2 v3 v4 v5 v6) := by
  unfold p_X11_rule_b33
  refine s_iconst (v := 1) dX11_rule_33 (by decide) ?_
  refine s_goto (tgt := 38) dX11_rule_34 (by decide) ?_
  exact Sim.sub [0, 1, 2, 3, 4, 5, 6] rfl (sim_X11_rule_b38 l hfl v0 v1 v2 v3 v4 v5 v6 1)
set_option maxRecDepth 20000 in
theorem sim_X11_rule (l : Launch) (hfl : l.stackTraces = false) (v0 : Option Nat) (v1 : Int32) (v2 : Int32) (v3 : Int32) (v4 : Int32) (v5 : Int32) (v6 : Int32) : Sim (M_X11_rule l) (zFinX zcI) 0 [(0, .inr (.inr v0)), (1, .inl v1), (2, .inl v2), (3, .inl v3), (4, .inl v4), (5, .inl v5), (6, .inl v6)] [] (p_X11_rule v0 v1 v2 v3 v4 v5 v6) := by
  unfold p_X11_rule
  refine s_iloadn (j := 1) dX11_rule_0 rfl ?_
  refine s_iconst (v := 0) dX11_rule_1 (by decide) ?_
  refine s_iconst (v := 5) dX11_rule_2 (by decide) ?_
  refine s_cSI (rest := []) (met_X11_isIn l v1 0 5) mth_X11_isIn rfl dX11_rule_3 w_504 w_505 ⟨Nat.le_of_ble_eq_true rfl, Nat.le_of_ble_eq_true rfl⟩ (Nat.le_of_ble_eq_true rfl) rfl (fun x13 => ?_)
  refine s_if_eq (tgt := 37) dX11_rule_6 (by decide) ?_ ?_
  · exact Sim.sub [0, 1, 2, 3, 4, 5, 6] rfl (sim_X11_rule_b37 l hfl v0 v1 v2 v3 v4 v5 v6)
  · refine s_iloadn (j := 3) dX11_rule_9 rfl ?_
    refine s_iconst (v := 0) dX11_rule_10 (by decide) ?_
    refine s_iconst (v := 2) dX11_rule_11 (by decide) ?_
    refine s_cSI (rest := []) (met_X11_isIn l v3 0 2) mth_X11_isIn rfl dX11_rule_12 w_504 w_505 ⟨Nat.le_of_ble_eq_true rfl, Nat.le_of_ble_eq_true rfl⟩ (Nat.le_of_ble_eq_true rfl) rfl (fun x14 => ?_)
    refine s_if_eq (tgt := 37) dX11_rule_15 (by decide) ?_ ?_
    · exact Sim.sub [0, 1, 2, 3, 4, 5, 6] rfl (sim_X11_rule_b37 l hfl v0 v1 v2 v3 v4 v5 v6)
    · refine s_iload (j := 4) dX11_rule_18 rfl ?_
      refine s_bipush (v := 32) dX11_rule_20 (by decide) ?_
      refine s_icmp_eq (tgt := 33) dX11_rule_22 (by decide) ?_ ?_
      · exact Sim.sub [0, 1, 2, 3, 4, 5, 6] rfl (sim_X11_rule_b33 l hfl v0 v1 v2 v3 v4 v5 v6)
      · refine s_iload (j := 4) dX11_rule_25 rfl ?_
        refine s_cSI (rest := []) (met_X11_isLetter l v4) mth_X11_isLetter rfl dX11_rule_27 w_711 w_644 ⟨Nat.le_of_ble_eq_true rfl, Nat.le_of_ble_eq_true rfl⟩ (Nat.le_of_ble_eq_true rfl) rfl (fun x15 => ?_)
        refine s_if_eq (tgt := 37) dX11_rule_30 (by decide) ?_ ?_
        · exact Sim.sub [0, 1, 2, 3, 4, 5, 6] rfl (sim_X11_rule_b37 l hfl v0 v1 v2 v3 v4 v5 v6)
        · exact Sim.sub [0, 1, 2, 3, 4, 5, 6] rfl (sim_X11_rule_b33 l hfl v0 v1 v2 v3 v4 v5 v6)
theorem met_X11_rule (l : Launch) (hfl : l.stackTraces = false) (v0 : Option Nat) (v1 : Int32) (v2 : Int32) (v3 : Int32) (v4 : Int32) (v5 : Int32) (v6 : Int32) : zMetX l yX11_rule cX11_rule 11 (some .int) 8 192 [.inr (.inr v0), .inl v1, .inl v2, .inl v3, .inl v4, .inl v5, .inl v6] zcI (p_X11_rule v0 v1 v2 v3 v4 v5 v6) :=
  zMetX.of (by decide +kernel) (Nat.le_of_ble_eq_true rfl) rfl (sim_X11_rule l hfl v0 v1 v2 v3 v4 v5 v6)
def p_X11_more (v0 : Option Nat) (v1 : Int32) (v2 : Int32) : ZM (Int32 ⊕ Nat) :=
  z_b (z_gR 12 0 v0) fun x1 => z_b (z_vr 3 x1 (p_X2_ruleAt x1 v1)) fun x2 => if ¬ x2 = none then (z_b (p_X11_isIn v2 0 63) fun x3 => if ¬ x3 = 0 then (z_b (z_gI 6 1 x2) fun x4 => if ¬ x4 = 0 then (z_b (z_gI 6 7 x2) fun x5 => z_b (z_pI 6 7 x2 v2) fun _ => z_b (z_gR 12 0 v0) fun x6 => z_b (z_vr 3 x6 (p_X2_remake x6)) fun _ => z_b (z_vr 12 v0 (p_X11_forgetAnswers v0)) fun _ => z_xrt x5)
  else (z_th 1))
  else (z_th 0))
  else (z_th 2)
abbrev M_X11_more (l : Launch) : ZMe := (l, "SpellScribe", cX11_more, 5, 8, 189, (some .int), "more", [])
set_option maxRecDepth 20000 in
theorem sim_X11_more (l : Launch) (hfl : l.stackTraces = false) (v0 : Option Nat) (v1 : Int32) (v2 : Int32) : Sim (M_X11_more l) (zFinX zcI) 0 [(0, .inr (.inr v0)), (1, .inl v1), (2, .inl v2)] [] (p_X11_more v0 v1 v2) := by
  unfold p_X11_more
  refine s_aloadn (j := 0) dX11_more_0 rfl ?_
  refine s_getR (k := 0) cls_12 (by decide) rfl dX11_more_1 w_279 rfl (fun x1 => ?_)
  refine s_iloadn (j := 1) dX11_more_4 rfl ?_
  refine s_cVR (rest := []) (met_X2_ruleAt l x1 v1) cls_3 mth_X2_ruleAt rfl dX11_more_5 w_1036 w_1037 w_1038 ⟨Nat.le_of_ble_eq_true rfl, Nat.le_of_ble_eq_true rfl⟩ (Nat.le_of_ble_eq_true rfl) rfl (fun x2 => ?_)
  refine s_astoren (lv' := [(3, .inr (.inr x2)), (0, .inr (.inr v0)), (1, .inl v1), (2, .inl v2)]) dX11_more_8 (Nat.le_of_ble_eq_true rfl) rfl ?_
  refine s_aloadn (j := 0) dX11_more_9 rfl ?_
  refine s_ifnonnull (tgt := 23) dX11_more_10 (by decide) ?_ ?_
  · refine s_iloadn (j := 3) dX11_more_23 rfl ?_
    refine s_iconst (v := 0) dX11_more_24 (by decide) ?_
    refine s_bipush (v := 63) dX11_more_25 (by decide) ?_
    refine s_cSI (rest := []) (met_X11_isIn l v2 0 63) mth_X11_isIn rfl dX11_more_27 w_504 w_505 ⟨Nat.le_of_ble_eq_true rfl, Nat.le_of_ble_eq_true rfl⟩ (Nat.le_of_ble_eq_true rfl) rfl (fun x3 => ?_)
    refine s_if_ne (tgt := 43) dX11_more_30 (by decide) ?_ ?_
    · refine s_aloadn (j := 0) dX11_more_43 rfl ?_
      refine s_getIN (k := 1) cls_6 (by decide) rfl dX11_more_44 w_999 rfl (fun x4 => ?_)
      refine s_if_ne (tgt := 60) dX11_more_47 (by decide) ?_ ?_
      · refine s_aloadn (j := 0) dX11_more_60 rfl ?_
        refine s_getIN (k := 7) cls_6 (by decide) rfl dX11_more_61 w_1005 rfl (fun x5 => ?_)
        refine s_istore (lv' := [(4, .inl x5), (3, .inr (.inr x2)), (0, .inr (.inr v0)), (1, .inl v1), (2, .inl v2)]) dX11_more_64 (Nat.le_of_ble_eq_true rfl) rfl ?_
        refine s_aloadn (j := 1) dX11_more_66 rfl ?_
        refine s_iloadn (j := 4) dX11_more_67 rfl ?_
        refine s_putIN (k := 7) cls_6 (by decide) rfl rfl rfl dX11_more_68 w_1005 rfl ?_
        refine s_aloadn (j := 2) dX11_more_71 rfl ?_
        refine s_getR (k := 0) cls_12 (by decide) rfl dX11_more_72 w_279 rfl (fun x6 => ?_)
        refine s_cVV (rest := []) (met_X2_remake l x6) cls_3 mth_X2_remake rfl dX11_more_75 w_908 w_909 w_910 ⟨Nat.le_of_ble_eq_true rfl, Nat.le_of_ble_eq_true rfl⟩ (Nat.le_of_ble_eq_true rfl) rfl ?_
        refine s_aloadn (j := 2) dX11_more_78 rfl ?_
        refine s_cVV (rest := []) (met_X11_forgetAnswers l v0) cls_12 mth_X11_forgetAnswers rfl dX11_more_79 w_658 w_660 wp_25 ⟨Nat.le_of_ble_eq_true rfl, Nat.le_of_ble_eq_true rfl⟩ (Nat.le_of_ble_eq_true rfl) rfl ?_
        refine s_iload (j := 0) dX11_more_82 rfl ?_
        exact s_xiret dX11_more_84 rfl
      · exact s_throw (n := 1) (text := "the rule is not for endings") zthw_1 hfl rfl (by decide +kernel) rfl dX11_more_50 dX11_more_53 dX11_more_54 dX11_more_56 dX11_more_59 (Nat.le_of_ble_eq_true rfl) (Nat.le_of_ble_eq_true rfl)
    · exact s_throw (n := 0) (text := "flags is out of range") zthw_0 hfl rfl (by decide +kernel) rfl dX11_more_33 dX11_more_36 dX11_more_37 dX11_more_39 dX11_more_42 (Nat.le_of_ble_eq_true rfl) (Nat.le_of_ble_eq_true rfl)
  · exact s_throw (n := 2) (text := "there is no such rule") zthw_2 hfl rfl (by decide +kernel) rfl dX11_more_13 dX11_more_16 dX11_more_17 dX11_more_19 dX11_more_22 (Nat.le_of_ble_eq_true rfl) (Nat.le_of_ble_eq_true rfl)
theorem met_X11_more (l : Launch) (hfl : l.stackTraces = false) (v0 : Option Nat) (v1 : Int32) (v2 : Int32) : zMetX l yX11_more cX11_more 5 (some .int) 8 189 [.inr (.inr v0), .inl v1, .inl v2] zcI (p_X11_more v0 v1 v2) :=
  zMetX.of (by decide +kernel) (Nat.le_of_ble_eq_true rfl) rfl (sim_X11_more l hfl v0 v1 v2)
def p_X11_sound_b19  : ZM (Int32 ⊕ Nat) :=
  z_th 0
def p_X11_sound (v0 : Option Nat) (v1 : Int32) (v2 : Int32) : ZM (Int32 ⊕ Nat) :=
  z_b (p_X11_isLetter v1) fun x1 => if x1 = 0 then (p_X11_sound_b19)
  else (z_b (p_X11_isLetter v2) fun x2 => if x2 = 0 then (p_X11_sound_b19)
  else (if ¬ v1 = v2 then (z_b (z_gR 12 1 v0) fun x3 => z_b (z_vr 9 x3 (p_X8_addSound x3 (v1 - 97) (v2 - 97))) fun x4 => z_b (z_vr 12 v0 (p_X11_forgetAnswers v0)) fun _ => z_xrz x4)
  else (p_X11_sound_b19)))
abbrev M_X11_sound (l : Launch) : ZMe := (l, "SpellScribe", cX11_sound, 4, 8, 120, (some .boolean), "sound", [])
set_option maxRecDepth 20000 in
theorem sim_X11_sound_b19 (l : Launch) (hfl : l.stackTraces = false)  : Sim (M_X11_sound l) (zFinX zcI) 19 [] [] (p_X11_sound_b19 ) := by
  unfold p_X11_sound_b19
  exact s_throw (n := 0) (text := "these are not two letters of a to h") zthw_0 hfl rfl (by decide +kernel) rfl dX11_sound_19 dX11_sound_22 dX11_sound_23 dX11_sound_25 dX11_sound_28 (Nat.le_of_ble_eq_true rfl) (Nat.le_of_ble_eq_true rfl)
set_option maxRecDepth 20000 in
theorem sim_X11_sound (l : Launch) (hfl : l.stackTraces = false) (v0 : Option Nat) (v1 : Int32) (v2 : Int32) : Sim (M_X11_sound l) (zFinX zcI) 0 [(0, .inr (.inr v0)), (1, .inl v1), (2, .inl v2)] [] (p_X11_sound v0 v1 v2) := by
  unfold p_X11_sound
  refine s_iloadn (j := 1) dX11_sound_0 rfl ?_
  refine s_cSI (rest := []) (met_X11_isLetter l v1) mth_X11_isLetter rfl dX11_sound_1 w_711 w_644 ⟨Nat.le_of_ble_eq_true rfl, Nat.le_of_ble_eq_true rfl⟩ (Nat.le_of_ble_eq_true rfl) rfl (fun x1 => ?_)
  refine s_if_eq (tgt := 19) dX11_sound_4 (by decide) ?_ ?_
  · exact Sim.sub [] rfl (sim_X11_sound_b19 l hfl)
  · refine s_iloadn (j := 2) dX11_sound_7 rfl ?_
    refine s_cSI (rest := []) (met_X11_isLetter l v2) mth_X11_isLetter rfl dX11_sound_8 w_711 w_644 ⟨Nat.le_of_ble_eq_true rfl, Nat.le_of_ble_eq_true rfl⟩ (Nat.le_of_ble_eq_true rfl) rfl (fun x2 => ?_)
    refine s_if_eq (tgt := 19) dX11_sound_11 (by decide) ?_ ?_
    · exact Sim.sub [] rfl (sim_X11_sound_b19 l hfl)
    · refine s_iloadn (j := 1) dX11_sound_14 rfl ?_
      refine s_iloadn (j := 2) dX11_sound_15 rfl ?_
      refine s_icmp_ne (tgt := 29) dX11_sound_16 (by decide) ?_ ?_
      · refine s_aloadn (j := 0) dX11_sound_29 rfl ?_
        refine s_getR (k := 1) cls_12 (by decide) rfl dX11_sound_30 w_280 rfl (fun x3 => ?_)
        refine s_iloadn (j := 1) dX11_sound_33 rfl ?_
        refine s_bipush (v := 97) dX11_sound_34 (by decide) ?_
        refine s_isub dX11_sound_36 ?_
        refine s_iloadn (j := 2) dX11_sound_37 rfl ?_
        refine s_bipush (v := 97) dX11_sound_38 (by decide) ?_
        refine s_isub dX11_sound_40 ?_
        refine s_cVI (rest := []) (met_X8_addSound l x3 (v1 - 97) (v2 - 97)) cls_9 mth_X8_addSound rfl dX11_sound_41 w_1067 w_1068 w_1069 ⟨Nat.le_of_ble_eq_true rfl, Nat.le_of_ble_eq_true rfl⟩ (Nat.le_of_ble_eq_true rfl) rfl (fun x4 => ?_)
        refine s_istoren (lv' := [(3, .inl x4), (0, .inr (.inr v0)), (1, .inl v1), (2, .inl v2)]) dX11_sound_44 (Nat.le_of_ble_eq_true rfl) rfl ?_
        refine s_aloadn (j := 1) dX11_sound_45 rfl ?_
        refine s_cVV (rest := []) (met_X11_forgetAnswers l v0) cls_12 mth_X11_forgetAnswers rfl dX11_sound_46 w_658 w_660 wp_25 ⟨Nat.le_of_ble_eq_true rfl, Nat.le_of_ble_eq_true rfl⟩ (Nat.le_of_ble_eq_true rfl) rfl ?_
        refine s_iloadn (j := 0) dX11_sound_49 rfl ?_
        exact s_xzret dX11_sound_50 rfl
      · exact Sim.sub [] rfl (sim_X11_sound_b19 l hfl)
theorem met_X11_sound (l : Launch) (hfl : l.stackTraces = false) (v0 : Option Nat) (v1 : Int32) (v2 : Int32) : zMetX l yX11_sound cX11_sound 4 (some .boolean) 8 120 [.inr (.inr v0), .inl v1, .inl v2] zcI (p_X11_sound v0 v1 v2) :=
  zMetX.of (by decide +kernel) (Nat.le_of_ble_eq_true rfl) rfl (sim_X11_sound l hfl v0 v1 v2)
def p_X11_own_b40  : ZM (Int32 ⊕ Nat) :=
  z_th 1
def p_X11_own (v0 : Option Nat) (v1 : Int32) (v2 : Int32) : ZM (Int32 ⊕ Nat) :=
  z_b (p_X11_isReading v1 v2) fun x1 => if ¬ x1 = 0 then (z_b (z_gI 12 10 v0) fun x2 => if x2 = 1 then (p_X11_own_b40)
  else (z_b (z_gR 12 0 v0) fun x3 => z_b (z_gI 12 10 v0) fun x4 => z_b (z_vr 3 x3 (p_X2_hasRoomForOwn x3 x4)) fun x5 => if ¬ x5 = 0 then (z_b (z_gR 12 0 v0) fun x6 => z_b (z_vr 12 v0 (p_X11_takeDraft v0)) fun x7 => z_b (p_X11_readingOf v1 v2) fun x8 => z_b (z_vr 3 x6 (p_X2_addOwn x6 x7 x8)) fun _ => z_b (z_vr 12 v0 (p_X11_forgetAnswers v0)) fun _ => z_b (z_gR 12 0 v0) fun x9 => z_b (z_vr 3 x9 (p_X2_ownCount x9)) fun x10 => z_xrt x10)
  else (p_X11_own_b40)))
  else (z_th 0)
abbrev M_X11_own (l : Launch) : ZMe := (l, "SpellScribe", cX11_own, 3, 8, 133, (some .int), "own", [])
set_option maxRecDepth 20000 in
theorem sim_X11_own_b40 (l : Launch) (hfl : l.stackTraces = false)  : Sim (M_X11_own l) (zFinX zcI) 40 [] [] (p_X11_own_b40 ) := by
  unfold p_X11_own_b40
  exact s_throw (n := 1) (text := "nothing is drafted, or there are 10 other own words") zthw_1 hfl rfl (by decide +kernel) rfl dX11_own_40 dX11_own_43 dX11_own_44 dX11_own_46 dX11_own_49 (Nat.le_of_ble_eq_true rfl) (Nat.le_of_ble_eq_true rfl)
set_option maxRecDepth 20000 in
theorem sim_X11_own (l : Launch) (hfl : l.stackTraces = false) (v0 : Option Nat) (v1 : Int32) (v2 : Int32) : Sim (M_X11_own l) (zFinX zcI) 0 [(0, .inr (.inr v0)), (1, .inl v1), (2, .inl v2)] [] (p_X11_own v0 v1 v2) := by
  unfold p_X11_own
  refine s_iloadn (j := 1) dX11_own_0 rfl ?_
  refine s_iloadn (j := 2) dX11_own_1 rfl ?_
  refine s_cSI (rest := []) (met_X11_isReading l v1 v2) mth_X11_isReading rfl dX11_own_2 w_804 w_805 ⟨Nat.le_of_ble_eq_true rfl, Nat.le_of_ble_eq_true rfl⟩ (Nat.le_of_ble_eq_true rfl) rfl (fun x1 => ?_)
  refine s_if_ne (tgt := 18) dX11_own_5 (by decide) ?_ ?_
  · refine s_aloadn (j := 0) dX11_own_18 rfl ?_
    refine s_getI (k := 10) cls_12 (by decide) rfl dX11_own_19 w_289 rfl (fun x2 => ?_)
    refine s_iconst (v := 1) dX11_own_22 (by decide) ?_
    refine s_icmp_eq (tgt := 40) dX11_own_23 (by decide) ?_ ?_
    · exact Sim.sub [] rfl (sim_X11_own_b40 l hfl)
    · refine s_aloadn (j := 0) dX11_own_26 rfl ?_
      refine s_getR (k := 0) cls_12 (by decide) rfl dX11_own_27 w_279 rfl (fun x3 => ?_)
      refine s_aloadn (j := 0) dX11_own_30 rfl ?_
      refine s_getI (k := 10) cls_12 (by decide) rfl dX11_own_31 w_289 rfl (fun x4 => ?_)
      refine s_cVI (rest := []) (met_X2_hasRoomForOwn l x3 x4) cls_3 mth_X2_hasRoomForOwn rfl dX11_own_34 w_1079 w_1080 w_1081 ⟨Nat.le_of_ble_eq_true rfl, Nat.le_of_ble_eq_true rfl⟩ (Nat.le_of_ble_eq_true rfl) rfl (fun x5 => ?_)
      refine s_if_ne (tgt := 50) dX11_own_37 (by decide) ?_ ?_
      · refine s_aloadn (j := 0) dX11_own_50 rfl ?_
        refine s_getR (k := 0) cls_12 (by decide) rfl dX11_own_51 w_279 rfl (fun x6 => ?_)
        refine s_aloadn (j := 0) dX11_own_54 rfl ?_
        refine s_cVI (rest := [.inr (.inr x6)]) (met_X11_takeDraft l v0) cls_12 mth_X11_takeDraft rfl dX11_own_55 w_323 w_325 wp_0 ⟨Nat.le_of_ble_eq_true rfl, Nat.le_of_ble_eq_true rfl⟩ (Nat.le_of_ble_eq_true rfl) rfl (fun x7 => ?_)
        refine s_iloadn (j := 1) dX11_own_58 rfl ?_
        refine s_iloadn (j := 2) dX11_own_59 rfl ?_
        refine s_cSI (rest := [.inl x7, .inr (.inr x6)]) (met_X11_readingOf l v1 v2) mth_X11_readingOf rfl dX11_own_60 w_1084 w_932 ⟨Nat.le_of_ble_eq_true rfl, Nat.le_of_ble_eq_true rfl⟩ (Nat.le_of_ble_eq_true rfl) rfl (fun x8 => ?_)
        refine s_cVV (rest := []) (met_X2_addOwn l x6 x7 x8) cls_3 mth_X2_addOwn rfl dX11_own_63 w_1085 w_1086 w_1087 ⟨Nat.le_of_ble_eq_true rfl, Nat.le_of_ble_eq_true rfl⟩ (Nat.le_of_ble_eq_true rfl) rfl ?_
        refine s_aloadn (j := 0) dX11_own_66 rfl ?_
        refine s_cVV (rest := []) (met_X11_forgetAnswers l v0) cls_12 mth_X11_forgetAnswers rfl dX11_own_67 w_658 w_660 wp_25 ⟨Nat.le_of_ble_eq_true rfl, Nat.le_of_ble_eq_true rfl⟩ (Nat.le_of_ble_eq_true rfl) rfl ?_
        refine s_aloadn (j := 0) dX11_own_70 rfl ?_
        refine s_getR (k := 0) cls_12 (by decide) rfl dX11_own_71 w_279 rfl (fun x9 => ?_)
        refine s_cVI (rest := []) (met_X2_ownCount l x9) cls_3 mth_X2_ownCount rfl dX11_own_74 w_1094 w_1095 w_1096 ⟨Nat.le_of_ble_eq_true rfl, Nat.le_of_ble_eq_true rfl⟩ (Nat.le_of_ble_eq_true rfl) rfl (fun x10 => ?_)
        exact s_xiret dX11_own_77 rfl
      · exact Sim.sub [] rfl (sim_X11_own_b40 l hfl)
  · exact s_throw (n := 0) (text := "kind or form is out of range") zthw_0 hfl rfl (by decide +kernel) rfl dX11_own_8 dX11_own_11 dX11_own_12 dX11_own_14 dX11_own_17 (Nat.le_of_ble_eq_true rfl) (Nat.le_of_ble_eq_true rfl)
theorem met_X11_own (l : Launch) (hfl : l.stackTraces = false) (v0 : Option Nat) (v1 : Int32) (v2 : Int32) : zMetX l yX11_own cX11_own 3 (some .int) 8 133 [.inr (.inr v0), .inl v1, .inl v2] zcI (p_X11_own v0 v1 v2) :=
  zMetX.of (by decide +kernel) (Nat.le_of_ble_eq_true rfl) rfl (sim_X11_own l hfl v0 v1 v2)
def p_X11_bar_b22  : ZM (Int32 ⊕ Nat) :=
  z_th 1
def p_X11_bar (v0 : Option Nat) : ZM (Int32 ⊕ Nat) :=
  z_b (z_gI 12 10 v0) fun x1 => if x1 = 1 then (p_X11_bar_b22)
  else (z_b (z_gR 12 0 v0) fun x2 => z_b (z_gI 12 10 v0) fun x3 => z_b (z_vr 3 x2 (p_X2_hasRoomForBarred x2 x3)) fun x4 => if ¬ x4 = 0 then (z_b (z_gR 12 0 v0) fun x5 => z_b (z_vr 12 v0 (p_X11_takeDraft v0)) fun x6 => z_b (z_vr 3 x5 (p_X2_addBarred x5 x6)) fun _ => z_b (z_vr 12 v0 (p_X11_forgetAnswers v0)) fun _ => z_b (z_gR 12 0 v0) fun x7 => z_b (z_vr 3 x7 (p_X2_barredCount x7)) fun x8 => z_xrt x8)
  else (p_X11_bar_b22))
abbrev M_X11_bar (l : Launch) : ZMe := (l, "SpellScribe", cX11_bar, 1, 8, 132, (some .int), "bar", [])
set_option maxRecDepth 20000 in
theorem sim_X11_bar_b22 (l : Launch) (hfl : l.stackTraces = false)  : Sim (M_X11_bar l) (zFinX zcI) 22 [] [] (p_X11_bar_b22 ) := by
  unfold p_X11_bar_b22
  exact s_throw (n := 1) (text := "nothing is drafted, or 10 other words are barred") zthw_1 hfl rfl (by decide +kernel) rfl dX11_bar_22 dX11_bar_25 dX11_bar_26 dX11_bar_28 dX11_bar_31 (Nat.le_of_ble_eq_true rfl) (Nat.le_of_ble_eq_true rfl)
set_option maxRecDepth 20000 in
theorem sim_X11_bar (l : Launch) (hfl : l.stackTraces = false) (v0 : Option Nat) : Sim (M_X11_bar l) (zFinX zcI) 0 [(0, .inr (.inr v0))] [] (p_X11_bar v0) := by
  unfold p_X11_bar
  refine s_aloadn (j := 0) dX11_bar_0 rfl ?_
  refine s_getI (k := 10) cls_12 (by decide) rfl dX11_bar_1 w_289 rfl (fun x1 => ?_)
  refine s_iconst (v := 1) dX11_bar_4 (by decide) ?_
  refine s_icmp_eq (tgt := 22) dX11_bar_5 (by decide) ?_ ?_
  · exact Sim.sub [] rfl (sim_X11_bar_b22 l hfl)
  · refine s_aloadn (j := 0) dX11_bar_8 rfl ?_
    refine s_getR (k := 0) cls_12 (by decide) rfl dX11_bar_9 w_279 rfl (fun x2 => ?_)
    refine s_aloadn (j := 0) dX11_bar_12 rfl ?_
    refine s_getI (k := 10) cls_12 (by decide) rfl dX11_bar_13 w_289 rfl (fun x3 => ?_)
    refine s_cVI (rest := []) (met_X2_hasRoomForBarred l x2 x3) cls_3 mth_X2_hasRoomForBarred rfl dX11_bar_16 w_1105 w_1106 w_1107 ⟨Nat.le_of_ble_eq_true rfl, Nat.le_of_ble_eq_true rfl⟩ (Nat.le_of_ble_eq_true rfl) rfl (fun x4 => ?_)
    refine s_if_ne (tgt := 32) dX11_bar_19 (by decide) ?_ ?_
    · refine s_aloadn (j := 0) dX11_bar_32 rfl ?_
      refine s_getR (k := 0) cls_12 (by decide) rfl dX11_bar_33 w_279 rfl (fun x5 => ?_)
      refine s_aloadn (j := 0) dX11_bar_36 rfl ?_
      refine s_cVI (rest := [.inr (.inr x5)]) (met_X11_takeDraft l v0) cls_12 mth_X11_takeDraft rfl dX11_bar_37 w_323 w_325 wp_0 ⟨Nat.le_of_ble_eq_true rfl, Nat.le_of_ble_eq_true rfl⟩ (Nat.le_of_ble_eq_true rfl) rfl (fun x6 => ?_)
      refine s_cVV (rest := []) (met_X2_addBarred l x5 x6) cls_3 mth_X2_addBarred rfl dX11_bar_40 w_1110 w_1111 w_1112 ⟨Nat.le_of_ble_eq_true rfl, Nat.le_of_ble_eq_true rfl⟩ (Nat.le_of_ble_eq_true rfl) rfl ?_
      refine s_aloadn (j := 0) dX11_bar_43 rfl ?_
      refine s_cVV (rest := []) (met_X11_forgetAnswers l v0) cls_12 mth_X11_forgetAnswers rfl dX11_bar_44 w_658 w_660 wp_25 ⟨Nat.le_of_ble_eq_true rfl, Nat.le_of_ble_eq_true rfl⟩ (Nat.le_of_ble_eq_true rfl) rfl ?_
      refine s_aloadn (j := 0) dX11_bar_47 rfl ?_
      refine s_getR (k := 0) cls_12 (by decide) rfl dX11_bar_48 w_279 rfl (fun x7 => ?_)
      refine s_cVI (rest := []) (met_X2_barredCount l x7) cls_3 mth_X2_barredCount rfl dX11_bar_51 w_1114 w_1115 w_1116 ⟨Nat.le_of_ble_eq_true rfl, Nat.le_of_ble_eq_true rfl⟩ (Nat.le_of_ble_eq_true rfl) rfl (fun x8 => ?_)
      exact s_xiret dX11_bar_54 rfl
    · exact Sim.sub [] rfl (sim_X11_bar_b22 l hfl)
theorem met_X11_bar (l : Launch) (hfl : l.stackTraces = false) (v0 : Option Nat) : zMetX l yX11_bar cX11_bar 1 (some .int) 8 132 [.inr (.inr v0)] zcI (p_X11_bar v0) :=
  zMetX.of (by decide +kernel) (Nat.le_of_ble_eq_true rfl) rfl (sim_X11_bar l hfl v0)
def p_X11_hasWord (v0 : Option Nat) (v1 : Int32) : ZM Int32 :=
  z_b (z_gR 12 5 v0) fun x1 => z_b (z_vr 10 x1 (p_X9_wordCount x1)) fun x2 => z_b (p_X11_isIn v1 0 (x2 - 1)) fun x3 => z_rz x3
abbrev M_X11_hasWord (l : Launch) : ZMe := (l, "SpellScribe", cX11_hasWord, 2, 1, 22, (some .boolean), "hasWord", [])
set_option maxRecDepth 20000 in
theorem sim_X11_hasWord (l : Launch) (v0 : Option Nat) (v1 : Int32) : Sim (M_X11_hasWord l) (zFin zcI) 0 [(0, .inr (.inr v0)), (1, .inl v1)] [] (p_X11_hasWord v0 v1) := by
  unfold p_X11_hasWord
  refine s_iloadn (j := 1) dX11_hasWord_0 rfl ?_
  refine s_iconst (v := 0) dX11_hasWord_1 (by decide) ?_
  refine s_aloadn (j := 0) dX11_hasWord_2 rfl ?_
  refine s_getR (k := 5) cls_12 (by decide) rfl dX11_hasWord_3 w_284 rfl (fun x1 => ?_)
  refine s_cVI (rest := [.inl 0, .inl v1]) (met_X9_wordCount l x1) cls_10 mth_X9_wordCount rfl dX11_hasWord_6 w_362 w_363 w_364 ⟨Nat.le_of_ble_eq_true rfl, Nat.le_of_ble_eq_true rfl⟩ (Nat.le_of_ble_eq_true rfl) rfl (fun x2 => ?_)
  refine s_iconst (v := 1) dX11_hasWord_9 (by decide) ?_
  refine s_isub dX11_hasWord_10 ?_
  refine s_cSI (rest := []) (met_X11_isIn l v1 0 (x2 - 1)) mth_X11_isIn rfl dX11_hasWord_11 w_504 w_505 ⟨Nat.le_of_ble_eq_true rfl, Nat.le_of_ble_eq_true rfl⟩ (Nat.le_of_ble_eq_true rfl) rfl (fun x3 => ?_)
  exact s_zret dX11_hasWord_14 rfl
theorem met_X11_hasWord (l : Launch) (v0 : Option Nat) (v1 : Int32) : zMet l yX11_hasWord cX11_hasWord 2 (some .boolean) 1 22 [.inr (.inr v0), .inl v1] zcI (p_X11_hasWord v0 v1) :=
  zMet.of (by decide +kernel) (Nat.le_of_ble_eq_true rfl) rfl (sim_X11_hasWord l v0 v1)
def p_X11_proofread_b50 (v0 : Option Nat) : ZM Unit :=
  z_b (z_gR 12 8 v0) fun x1 => z_b (z_gR 12 5 v0) fun x2 => z_b (z_gR 12 2 v0) fun x3 => z_b (z_gR 12 3 v0) fun x4 => z_b (z_vr 4 x1 (p_X3_read x1 x2 x3 x4)) fun _ => z_b (z_pZ 12 11 v0 1) fun _ => z_rt ()
def p_X11_proofread_c10 (r10 : Option Nat → Int32 → ZM Unit) (v0 : Option Nat) (v1 : Int32) : ZM Unit :=
  z_b (z_gR 12 5 v0) fun x5 => z_b (z_vr 10 x5 (p_X9_wordCount x5)) fun x6 => if x6 ≤ v1 then (p_X11_proofread_b50 v0)
  else (z_b (z_gR 12 8 v0) fun x7 => z_b (z_gR 12 0 v0) fun x8 => z_b (z_gR 12 5 v0) fun x9 => z_b (z_vr 10 x9 (p_X9_wordNumbered x9 v1)) fun x10 => z_b (z_vr 3 x8 (p_X2_readingsOf x8 x10)) fun x11 => z_b (z_vr 4 x7 (p_X3_setReadings x7 v1 x11)) fun _ => z_n (v1 + 1 : Int32) fun y12 => r10 v0 y12)
def p_X11_proofread_l10 : Nat → Option Nat → Int32 → ZM Unit
  | 0, _, _ => z_fl
  | n + 1, v0, v1 => p_X11_proofread_c10 (p_X11_proofread_l10 n) v0 v1
def p_X11_proofread (v0 : Option Nat) : ZM Unit :=
  z_b (z_gI 12 11 v0) fun x13 => if x13 = 0 then (p_X11_proofread_l10 zFuel v0 0)
  else (z_rt ())
abbrev M_X11_proofread (l : Launch) : ZMe := (l, "SpellScribe", cX11_proofread, 2, 6, 149, none, "proofread", [])
set_option maxRecDepth 20000 in
theorem sim_X11_proofread_b50 (l : Launch) (v0 : Option Nat) : Sim (M_X11_proofread l) (zFin zcV) 50 [(0, .inr (.inr v0))] [] (p_X11_proofread_b50 v0) := by
  unfold p_X11_proofread_b50
  refine s_aloadn (j := 0) dX11_proofread_50 rfl ?_
  refine s_getR (k := 8) cls_12 (by decide) rfl dX11_proofread_51 w_287 rfl (fun x1 => ?_)
  refine s_aloadn (j := 0) dX11_proofread_54 rfl ?_
  refine s_getR (k := 5) cls_12 (by decide) rfl dX11_proofread_55 w_284 rfl (fun x2 => ?_)
  refine s_aloadn (j := 0) dX11_proofread_58 rfl ?_
  refine s_getR (k := 2) cls_12 (by decide) rfl dX11_proofread_59 w_281 rfl (fun x3 => ?_)
  refine s_aloadn (j := 0) dX11_proofread_62 rfl ?_
  refine s_getR (k := 3) cls_12 (by decide) rfl dX11_proofread_63 w_282 rfl (fun x4 => ?_)
  refine s_cVV (rest := []) (met_X3_read l x1 x2 x3 x4) cls_4 mth_X3_read rfl dX11_proofread_66 w_411 w_412 w_413 ⟨Nat.le_of_ble_eq_true rfl, Nat.le_of_ble_eq_true rfl⟩ (Nat.le_of_ble_eq_true rfl) rfl ?_
  refine s_aloadn (j := 0) dX11_proofread_69 rfl ?_
  refine s_iconst (v := 1) dX11_proofread_70 (by decide) ?_
  refine s_putZ (k := 11) cls_12 (by decide) rfl rfl rfl dX11_proofread_71 w_290 rfl ?_
  exact s_vret dX11_proofread_74 rfl
set_option maxRecDepth 20000 in
theorem sim_X11_proofread_c10 (l : Launch) (r10 : Option Nat → Int32 → ZM Unit) (hr10 : ∀ (v0 : Option Nat) (v1 : Int32), Sim (M_X11_proofread l) (zFin zcV) 10 [(0, .inr (.inr v0)), (1, .inl v1)] [] (r10 v0 v1)) (v0 : Option Nat) (v1 : Int32) : Sim (M_X11_proofread l) (zFin zcV) 10 [(0, .inr (.inr v0)), (1, .inl v1)] [] (p_X11_proofread_c10 r10 v0 v1) := by
  unfold p_X11_proofread_c10
  refine s_iloadn (j := 1) dX11_proofread_10 rfl ?_
  refine s_aloadn (j := 0) dX11_proofread_11 rfl ?_
  refine s_getR (k := 5) cls_12 (by decide) rfl dX11_proofread_12 w_284 rfl (fun x5 => ?_)
  refine s_cVI (rest := [.inl v1]) (met_X9_wordCount l x5) cls_10 mth_X9_wordCount rfl dX11_proofread_15 w_362 w_363 w_364 ⟨Nat.le_of_ble_eq_true rfl, Nat.le_of_ble_eq_true rfl⟩ (Nat.le_of_ble_eq_true rfl) rfl (fun x6 => ?_)
  refine s_icmp_ge (tgt := 50) dX11_proofread_18 (by decide) ?_ ?_
  · exact Sim.sub [0] rfl (sim_X11_proofread_b50 l v0)
  · refine s_aloadn (j := 0) dX11_proofread_21 rfl ?_
    refine s_getR (k := 8) cls_12 (by decide) rfl dX11_proofread_22 w_287 rfl (fun x7 => ?_)
    refine s_iloadn (j := 1) dX11_proofread_25 rfl ?_
    refine s_aloadn (j := 0) dX11_proofread_26 rfl ?_
    refine s_getR (k := 0) cls_12 (by decide) rfl dX11_proofread_27 w_279 rfl (fun x8 => ?_)
    refine s_aloadn (j := 0) dX11_proofread_30 rfl ?_
    refine s_getR (k := 5) cls_12 (by decide) rfl dX11_proofread_31 w_284 rfl (fun x9 => ?_)
    refine s_iloadn (j := 1) dX11_proofread_34 rfl ?_
    refine s_cVI (rest := [.inr (.inr x8), .inl v1, .inr (.inr x7)]) (met_X9_wordNumbered l x9 v1) cls_10 mth_X9_wordNumbered rfl dX11_proofread_35 w_366 w_367 w_368 ⟨Nat.le_of_ble_eq_true rfl, Nat.le_of_ble_eq_true rfl⟩ (Nat.le_of_ble_eq_true rfl) rfl (fun x10 => ?_)
    refine s_cVI (rest := [.inl v1, .inr (.inr x7)]) (met_X2_readingsOf l x8 x10) cls_3 mth_X2_readingsOf rfl dX11_proofread_38 w_370 w_371 w_372 ⟨Nat.le_of_ble_eq_true rfl, Nat.le_of_ble_eq_true rfl⟩ (Nat.le_of_ble_eq_true rfl) rfl (fun x11 => ?_)
    refine s_cVV (rest := []) (met_X3_setReadings l x7 v1 x11) cls_4 mth_X3_setReadings rfl dX11_proofread_41 w_406 w_407 w_408 ⟨Nat.le_of_ble_eq_true rfl, Nat.le_of_ble_eq_true rfl⟩ (Nat.le_of_ble_eq_true rfl) rfl ?_
    refine s_n0 (fun y12 hy12 => ?_)
    refine s_iinc (j := 1) (v := y12) (d := 1) (lv' := [(1, .inl y12), (0, .inr (.inr v0))]) dX11_proofread_44 rfl (by decide) hy12 (Nat.le_of_ble_eq_true rfl) rfl ?_
    refine s_goto (tgt := 10) dX11_proofread_47 (by decide) ?_
    exact Sim.sub [1, 0] rfl (hr10 v0 y12)
theorem sim_X11_proofread_l10 (l : Launch) : ∀ (n : Nat) (v0 : Option Nat) (v1 : Int32), Sim (M_X11_proofread l) (zFin zcV) 10 [(0, .inr (.inr v0)), (1, .inl v1)] [] (p_X11_proofread_l10 n v0 v1)
  | 0, _, _ => s_fl
  | n + 1, v0, v1 => sim_X11_proofread_c10 l (p_X11_proofread_l10 n) (sim_X11_proofread_l10 l n) v0 v1
set_option maxRecDepth 20000 in
theorem sim_X11_proofread (l : Launch) (v0 : Option Nat) : Sim (M_X11_proofread l) (zFin zcV) 0 [(0, .inr (.inr v0))] [] (p_X11_proofread v0) := by
  unfold p_X11_proofread
  refine s_aloadn (j := 0) dX11_proofread_0 rfl ?_
  refine s_getI (k := 11) cls_12 (by decide) rfl dX11_proofread_1 w_290 rfl (fun x13 => ?_)
  refine s_if_eq (tgt := 8) dX11_proofread_4 (by decide) ?_ ?_
  · refine s_iconst (v := 0) dX11_proofread_8 (by decide) ?_
    refine s_istoren (lv' := [(1, .inl 0), (0, .inr (.inr v0))]) dX11_proofread_9 (Nat.le_of_ble_eq_true rfl) rfl ?_
    exact Sim.sub [1, 0] rfl (sim_X11_proofread_l10 l zFuel v0 0)
  · exact s_vret dX11_proofread_7 rfl
theorem met_X11_proofread (l : Launch) (v0 : Option Nat) : zMet l yX11_proofread cX11_proofread 2 none 6 149 [.inr (.inr v0)] zcV (p_X11_proofread v0) :=
  zMet.of (by decide +kernel) (Nat.le_of_ble_eq_true rfl) rfl (sim_X11_proofread l v0)
def p_X11_ignore_b57  : ZM (Int32 ⊕ Nat) :=
  z_th 1
def p_X11_ignore_b94 (v0 : Option Nat) (v2 : Int32) (v3 : Int32) : ZM (Int32 ⊕ Nat) :=
  z_b (z_gR 12 4 v0) fun x1 => z_b (z_vr 11 x1 (p_X10_store x1 v2 v3)) fun _ => z_xrt v3
def p_X11_ignore (v0 : Option Nat) (v1 : Int32) : ZM (Int32 ⊕ Nat) :=
  z_b (z_vr 12 v0 (p_X11_hasWord v0 v1)) fun x2 => if ¬ x2 = 0 then (z_b (z_vr 12 v0 (p_X11_proofread v0)) fun _ => z_b (z_gR 12 5 v0) fun x3 => z_b (z_vr 10 x3 (p_X9_wordNumbered x3 v1)) fun x4 => if x4 = 0 then (p_X11_ignore_b57)
  else (z_b (z_gR 12 8 v0) fun x5 => z_b (z_vr 4 x5 (p_X3_isSpelledRight x5 v1)) fun x6 => if ¬ x6 = 0 then (p_X11_ignore_b57)
  else (z_b (z_gR 12 0 v0) fun x7 => z_b (z_vr 3 x7 (p_X2_isBarred x7 x4)) fun x8 => if x8 = 0 then (z_b (z_gR 12 4 v0) fun x9 => z_b (z_vr 11 x9 (p_X10_valueOf x9 x4)) fun x10 => z_n ((x10 + 1) : Int32) fun y11 => if y11 < 3 then (p_X11_ignore_b94 v0 x4 y11)
  else (z_b (z_gR 12 0 v0) fun x12 => z_b (z_vr 3 x12 (p_X2_hasRoomForOwn x12 x4)) fun x13 => if ¬ x13 = 0 then (z_b (z_gR 12 4 v0) fun x14 => z_b (z_vr 11 x14 (p_X10_drop x14 x4)) fun _ => z_b (z_gR 12 0 v0) fun x15 => z_b (p_X11_readingOf 0 0) fun x16 => z_b (z_vr 3 x15 (p_X2_addOwn x15 x4 x16)) fun _ => z_b (z_vr 12 v0 (p_X11_forgetAnswers v0)) fun _ => z_xrt 0)
  else (p_X11_ignore_b94 v0 x4 y11)))
  else (p_X11_ignore_b57))))
  else (z_th 2)
abbrev M_X11_ignore (l : Launch) : ZMe := (l, "SpellScribe", cX11_ignore, 4, 8, 170, (some .int), "ignore", [])
set_option maxRecDepth 20000 in
theorem sim_X11_ignore_b57 (l : Launch) (hfl : l.stackTraces = false)  : Sim (M_X11_ignore l) (zFinX zcI) 57 [] [] (p_X11_ignore_b57 ) := by
  unfold p_X11_ignore_b57
  exact s_throw (n := 1) (text := "the word is right, has more than 10 letters, or is barred") zthw_1 hfl rfl (by decide +kernel) rfl dX11_ignore_57 dX11_ignore_60 dX11_ignore_61 dX11_ignore_63 dX11_ignore_66 (Nat.le_of_ble_eq_true rfl) (Nat.le_of_ble_eq_true rfl)
set_option maxRecDepth 20000 in
theorem sim_X11_ignore_b94 (l : Launch) (hfl : l.stackTraces = false) (v0 : Option Nat) (v2 : Int32) (v3 : Int32) : Sim (M_X11_ignore l) (zFinX zcI) 94 [(0, .inr (.inr v0)), (2, .inl v2), (3, .inl v3)] [] (p_X11_ignore_b94 v0 v2 v3) := by
  unfold p_X11_ignore_b94
  refine s_aloadn (j := 0) dX11_ignore_94 rfl ?_
  refine s_getR (k := 4) cls_12 (by decide) rfl dX11_ignore_95 w_283 rfl (fun x1 => ?_)
  refine s_iloadn (j := 1) dX11_ignore_98 rfl ?_
  refine s_iloadn (j := 2) dX11_ignore_99 rfl ?_
  refine s_cVV (rest := []) (met_X10_store l x1 v2 v3) cls_11 mth_X10_store rfl dX11_ignore_100 w_1133 w_936 w_937 ⟨Nat.le_of_ble_eq_true rfl, Nat.le_of_ble_eq_true rfl⟩ (Nat.le_of_ble_eq_true rfl) rfl ?_
  refine s_iloadn (j := 2) dX11_ignore_103 rfl ?_
  exact s_xiret dX11_ignore_104 rfl
set_option maxRecDepth 20000 in
theorem sim_X11_ignore (l : Launch) (hfl : l.stackTraces = false) (v0 : Option Nat) (v1 : Int32) : Sim (M_X11_ignore l) (zFinX zcI) 0 [(0, .inr (.inr v0)), (1, .inl v1)] [] (p_X11_ignore v0 v1) := by
  unfold p_X11_ignore
  refine s_aloadn (j := 0) dX11_ignore_0 rfl ?_
  refine s_iloadn (j := 1) dX11_ignore_1 rfl ?_
  refine s_cVI (rest := []) (met_X11_hasWord l v0 v1) cls_12 mth_X11_hasWord rfl dX11_ignore_2 w_1125 w_1127 wp_35 ⟨Nat.le_of_ble_eq_true rfl, Nat.le_of_ble_eq_true rfl⟩ (Nat.le_of_ble_eq_true rfl) rfl (fun x2 => ?_)
  refine s_if_ne (tgt := 18) dX11_ignore_5 (by decide) ?_ ?_
  · refine s_aloadn (j := 0) dX11_ignore_18 rfl ?_
    refine s_cVV (rest := []) (met_X11_proofread l v0) cls_12 mth_X11_proofread rfl dX11_ignore_19 w_358 w_360 wp_1 ⟨Nat.le_of_ble_eq_true rfl, Nat.le_of_ble_eq_true rfl⟩ (Nat.le_of_ble_eq_true rfl) rfl ?_
    refine s_aloadn (j := 0) dX11_ignore_22 rfl ?_
    refine s_getR (k := 5) cls_12 (by decide) rfl dX11_ignore_23 w_284 rfl (fun x3 => ?_)
    refine s_iloadn (j := 1) dX11_ignore_26 rfl ?_
    refine s_cVI (rest := []) (met_X9_wordNumbered l x3 v1) cls_10 mth_X9_wordNumbered rfl dX11_ignore_27 w_366 w_367 w_368 ⟨Nat.le_of_ble_eq_true rfl, Nat.le_of_ble_eq_true rfl⟩ (Nat.le_of_ble_eq_true rfl) rfl (fun x4 => ?_)
    refine s_istoren (lv' := [(2, .inl x4), (0, .inr (.inr v0)), (1, .inl v1)]) dX11_ignore_30 (Nat.le_of_ble_eq_true rfl) rfl ?_
    refine s_iloadn (j := 0) dX11_ignore_31 rfl ?_
    refine s_if_eq (tgt := 57) dX11_ignore_32 (by decide) ?_ ?_
    · exact Sim.sub [] rfl (sim_X11_ignore_b57 l hfl)
    · refine s_aloadn (j := 1) dX11_ignore_35 rfl ?_
      refine s_getR (k := 8) cls_12 (by decide) rfl dX11_ignore_36 w_287 rfl (fun x5 => ?_)
      refine s_iloadn (j := 2) dX11_ignore_39 rfl ?_
      refine s_cVI (rest := []) (met_X3_isSpelledRight l x5 v1) cls_4 mth_X3_isSpelledRight rfl dX11_ignore_40 w_526 w_515 w_516 ⟨Nat.le_of_ble_eq_true rfl, Nat.le_of_ble_eq_true rfl⟩ (Nat.le_of_ble_eq_true rfl) rfl (fun x6 => ?_)
      refine s_if_ne (tgt := 57) dX11_ignore_43 (by decide) ?_ ?_
      · exact Sim.sub [] rfl (sim_X11_ignore_b57 l hfl)
      · refine s_aloadn (j := 1) dX11_ignore_46 rfl ?_
        refine s_getR (k := 0) cls_12 (by decide) rfl dX11_ignore_47 w_279 rfl (fun x7 => ?_)
        refine s_iloadn (j := 0) dX11_ignore_50 rfl ?_
        refine s_cVI (rest := []) (met_X2_isBarred l x7 x4) cls_3 mth_X2_isBarred rfl dX11_ignore_51 w_1130 w_375 w_376 ⟨Nat.le_of_ble_eq_true rfl, Nat.le_of_ble_eq_true rfl⟩ (Nat.le_of_ble_eq_true rfl) rfl (fun x8 => ?_)
        refine s_if_eq (tgt := 67) dX11_ignore_54 (by decide) ?_ ?_
        · refine s_aloadn (j := 1) dX11_ignore_67 rfl ?_
          refine s_getR (k := 4) cls_12 (by decide) rfl dX11_ignore_68 w_283 rfl (fun x9 => ?_)
          refine s_iloadn (j := 0) dX11_ignore_71 rfl ?_
          refine s_cVI (rest := []) (met_X10_valueOf l x9 x4) cls_11 mth_X10_valueOf rfl dX11_ignore_72 w_1132 w_379 w_380 ⟨Nat.le_of_ble_eq_true rfl, Nat.le_of_ble_eq_true rfl⟩ (Nat.le_of_ble_eq_true rfl) rfl (fun x10 => ?_)
          refine s_iconst (v := 1) dX11_ignore_75 (by decide) ?_
          refine s_iadd dX11_ignore_76 ?_
          refine s_nI (fun y11 => ?_)
          refine s_istoren (lv' := [(3, .inl y11), (2, .inl x4), (0, .inr (.inr v0)), (1, .inl v1)]) dX11_ignore_77 (Nat.le_of_ble_eq_true rfl) rfl ?_
          refine s_iloadn (j := 0) dX11_ignore_78 rfl ?_
          refine s_iconst (v := 3) dX11_ignore_79 (by decide) ?_
          refine s_icmp_lt (tgt := 94) dX11_ignore_80 (by decide) ?_ ?_
          · exact Sim.sub [2, 1, 0] rfl (sim_X11_ignore_b94 l hfl v0 x4 y11)
          · refine s_aloadn (j := 2) dX11_ignore_83 rfl ?_
            refine s_getR (k := 0) cls_12 (by decide) rfl dX11_ignore_84 w_279 rfl (fun x12 => ?_)
            refine s_iloadn (j := 1) dX11_ignore_87 rfl ?_
            refine s_cVI (rest := []) (met_X2_hasRoomForOwn l x12 x4) cls_3 mth_X2_hasRoomForOwn rfl dX11_ignore_88 w_1079 w_1080 w_1081 ⟨Nat.le_of_ble_eq_true rfl, Nat.le_of_ble_eq_true rfl⟩ (Nat.le_of_ble_eq_true rfl) rfl (fun x13 => ?_)
            refine s_if_ne (tgt := 105) dX11_ignore_91 (by decide) ?_ ?_
            · refine s_aloadn (j := 2) dX11_ignore_105 rfl ?_
              refine s_getR (k := 4) cls_12 (by decide) rfl dX11_ignore_106 w_283 rfl (fun x14 => ?_)
              refine s_iloadn (j := 1) dX11_ignore_109 rfl ?_
              refine s_cVV (rest := []) (met_X10_drop l x14 x4) cls_11 mth_X10_drop rfl dX11_ignore_110 w_1134 w_1090 w_1091 ⟨Nat.le_of_ble_eq_true rfl, Nat.le_of_ble_eq_true rfl⟩ (Nat.le_of_ble_eq_true rfl) rfl ?_
              refine s_aloadn (j := 2) dX11_ignore_113 rfl ?_
              refine s_getR (k := 0) cls_12 (by decide) rfl dX11_ignore_114 w_279 rfl (fun x15 => ?_)
              refine s_iloadn (j := 1) dX11_ignore_117 rfl ?_
              refine s_iconst (v := 0) dX11_ignore_118 (by decide) ?_
              refine s_iconst (v := 0) dX11_ignore_119 (by decide) ?_
              refine s_cSI (rest := [.inl x4, .inr (.inr x15)]) (met_X11_readingOf l 0 0) mth_X11_readingOf rfl dX11_ignore_120 w_1084 w_932 ⟨Nat.le_of_ble_eq_true rfl, Nat.le_of_ble_eq_true rfl⟩ (Nat.le_of_ble_eq_true rfl) rfl (fun x16 => ?_)
              refine s_cVV (rest := []) (met_X2_addOwn l x15 x4 x16) cls_3 mth_X2_addOwn rfl dX11_ignore_123 w_1085 w_1086 w_1087 ⟨Nat.le_of_ble_eq_true rfl, Nat.le_of_ble_eq_true rfl⟩ (Nat.le_of_ble_eq_true rfl) rfl ?_
              refine s_aloadn (j := 2) dX11_ignore_126 rfl ?_
              refine s_cVV (rest := []) (met_X11_forgetAnswers l v0) cls_12 mth_X11_forgetAnswers rfl dX11_ignore_127 w_658 w_660 wp_25 ⟨Nat.le_of_ble_eq_true rfl, Nat.le_of_ble_eq_true rfl⟩ (Nat.le_of_ble_eq_true rfl) rfl ?_
              refine s_iconst (v := 0) dX11_ignore_130 (by decide) ?_
              exact s_xiret dX11_ignore_131 rfl
            · exact Sim.sub [2, 1, 0] rfl (sim_X11_ignore_b94 l hfl v0 x4 y11)
        · exact Sim.sub [] rfl (sim_X11_ignore_b57 l hfl)
  · exact s_throw (n := 2) (text := "there is no such word") zthw_2 hfl rfl (by decide +kernel) rfl dX11_ignore_8 dX11_ignore_11 dX11_ignore_12 dX11_ignore_14 dX11_ignore_17 (Nat.le_of_ble_eq_true rfl) (Nat.le_of_ble_eq_true rfl)
theorem met_X11_ignore (l : Launch) (hfl : l.stackTraces = false) (v0 : Option Nat) (v1 : Int32) : zMetX l yX11_ignore cX11_ignore 4 (some .int) 8 170 [.inr (.inr v0), .inl v1] zcI (p_X11_ignore v0 v1) :=
  zMetX.of (by decide +kernel) (Nat.le_of_ble_eq_true rfl) rfl (sim_X11_ignore l hfl v0 v1)
def p_X11_tell_b27  : ZM (Int32 ⊕ Nat) :=
  z_th 0
def p_X11_tell (v0 : Option Nat) (v1 : Int32) (v2 : Int32) (v3 : Int32) : ZM (Int32 ⊕ Nat) :=
  z_b (p_X11_isIn v1 0 3) fun x1 => if x1 = 0 then (p_X11_tell_b27)
  else (z_b (p_X11_isIn v2 0 3) fun x2 => if x2 = 0 then (p_X11_tell_b27)
  else (z_b (p_X11_isIn v3 0 2) fun x3 => if ¬ x3 = 0 then (z_b (z_vr 12 v0 (p_X11_forgetAnswers v0)) fun _ => z_b (z_gR 12 2 v0) fun x4 => z_b (z_vr 1 x4 (p_X0_changeTold x4 v1 v2 v3)) fun x5 => z_xrt x5)
  else (p_X11_tell_b27)))
abbrev M_X11_tell (l : Launch) : ZMe := (l, "SpellScribe", cX11_tell, 4, 8, 120, (some .int), "tell", [])
set_option maxRecDepth 20000 in
theorem sim_X11_tell_b27 (l : Launch) (hfl : l.stackTraces = false)  : Sim (M_X11_tell l) (zFinX zcI) 27 [] [] (p_X11_tell_b27 ) := by
  unfold p_X11_tell_b27
  exact s_throw (n := 0) (text := "first, second or what is out of range") zthw_0 hfl rfl (by decide +kernel) rfl dX11_tell_27 dX11_tell_30 dX11_tell_31 dX11_tell_33 dX11_tell_36 (Nat.le_of_ble_eq_true rfl) (Nat.le_of_ble_eq_true rfl)
set_option maxRecDepth 20000 in
theorem sim_X11_tell (l : Launch) (hfl : l.stackTraces = false) (v0 : Option Nat) (v1 : Int32) (v2 : Int32) (v3 : Int32) : Sim (M_X11_tell l) (zFinX zcI) 0 [(0, .inr (.inr v0)), (1, .inl v1), (2, .inl v2), (3, .inl v3)] [] (p_X11_tell v0 v1 v2 v3) := by
  unfold p_X11_tell
  refine s_iloadn (j := 1) dX11_tell_0 rfl ?_
  refine s_iconst (v := 0) dX11_tell_1 (by decide) ?_
  refine s_iconst (v := 3) dX11_tell_2 (by decide) ?_
  refine s_cSI (rest := []) (met_X11_isIn l v1 0 3) mth_X11_isIn rfl dX11_tell_3 w_504 w_505 ⟨Nat.le_of_ble_eq_true rfl, Nat.le_of_ble_eq_true rfl⟩ (Nat.le_of_ble_eq_true rfl) rfl (fun x1 => ?_)
  refine s_if_eq (tgt := 27) dX11_tell_6 (by decide) ?_ ?_
  · exact Sim.sub [] rfl (sim_X11_tell_b27 l hfl)
  · refine s_iloadn (j := 2) dX11_tell_9 rfl ?_
    refine s_iconst (v := 0) dX11_tell_10 (by decide) ?_
    refine s_iconst (v := 3) dX11_tell_11 (by decide) ?_
    refine s_cSI (rest := []) (met_X11_isIn l v2 0 3) mth_X11_isIn rfl dX11_tell_12 w_504 w_505 ⟨Nat.le_of_ble_eq_true rfl, Nat.le_of_ble_eq_true rfl⟩ (Nat.le_of_ble_eq_true rfl) rfl (fun x2 => ?_)
    refine s_if_eq (tgt := 27) dX11_tell_15 (by decide) ?_ ?_
    · exact Sim.sub [] rfl (sim_X11_tell_b27 l hfl)
    · refine s_iloadn (j := 3) dX11_tell_18 rfl ?_
      refine s_iconst (v := 0) dX11_tell_19 (by decide) ?_
      refine s_iconst (v := 2) dX11_tell_20 (by decide) ?_
      refine s_cSI (rest := []) (met_X11_isIn l v3 0 2) mth_X11_isIn rfl dX11_tell_21 w_504 w_505 ⟨Nat.le_of_ble_eq_true rfl, Nat.le_of_ble_eq_true rfl⟩ (Nat.le_of_ble_eq_true rfl) rfl (fun x3 => ?_)
      refine s_if_ne (tgt := 37) dX11_tell_24 (by decide) ?_ ?_
      · refine s_aloadn (j := 0) dX11_tell_37 rfl ?_
        refine s_cVV (rest := []) (met_X11_forgetAnswers l v0) cls_12 mth_X11_forgetAnswers rfl dX11_tell_38 w_658 w_660 wp_25 ⟨Nat.le_of_ble_eq_true rfl, Nat.le_of_ble_eq_true rfl⟩ (Nat.le_of_ble_eq_true rfl) rfl ?_
        refine s_aloadn (j := 0) dX11_tell_41 rfl ?_
        refine s_getR (k := 2) cls_12 (by decide) rfl dX11_tell_42 w_281 rfl (fun x4 => ?_)
        refine s_iloadn (j := 1) dX11_tell_45 rfl ?_
        refine s_iloadn (j := 2) dX11_tell_46 rfl ?_
        refine s_iloadn (j := 3) dX11_tell_47 rfl ?_
        refine s_cVI (rest := []) (met_X0_changeTold l x4 v1 v2 v3) cls_1 mth_X0_changeTold rfl dX11_tell_48 w_1143 w_1144 w_1145 ⟨Nat.le_of_ble_eq_true rfl, Nat.le_of_ble_eq_true rfl⟩ (Nat.le_of_ble_eq_true rfl) rfl (fun x5 => ?_)
        exact s_xiret dX11_tell_51 rfl
      · exact Sim.sub [] rfl (sim_X11_tell_b27 l hfl)
theorem met_X11_tell (l : Launch) (hfl : l.stackTraces = false) (v0 : Option Nat) (v1 : Int32) (v2 : Int32) (v3 : Int32) : zMetX l yX11_tell cX11_tell 4 (some .int) 8 120 [.inr (.inr v0), .inl v1, .inl v2, .inl v3] zcI (p_X11_tell v0 v1 v2 v3) :=
  zMetX.of (by decide +kernel) (Nat.le_of_ble_eq_true rfl) rfl (sim_X11_tell l hfl v0 v1 v2 v3)
def p_X11_item_b43  : ZM (Int32 ⊕ Nat) :=
  z_th 1
def p_X11_item_b70 (v0 : Option Nat) (s0 : Option Nat) (s1 : Int32) : ZM (Int32 ⊕ Nat) :=
  z_b (z_vr 8 s0 (p_X7_addItem s0 s1)) fun _ => z_b (z_gR 12 9 v0) fun x1 => z_b (z_gI 8 1 x1) fun x2 => z_xrt x2
def p_X11_item_b53 (v0 : Option Nat) (v1 : Int32) : ZM (Int32 ⊕ Nat) :=
  z_b (z_gR 12 9 v0) fun x3 => if ¬ v1 = (-1) then (p_X11_item_b70 v0 x3 v1)
  else (z_b (z_vr 12 v0 (p_X11_takeDraft v0)) fun x4 => p_X11_item_b70 v0 x3 x4)
def p_X11_item (v0 : Option Nat) (v1 : Int32) : ZM (Int32 ⊕ Nat) :=
  z_b (p_X11_isIn v1 (-1) 3) fun x5 => if ¬ x5 = 0 then (z_b (z_gR 12 9 v0) fun x6 => z_b (z_gI 8 1 x6) fun x7 => if 3 ≤ x7 then (p_X11_item_b43)
  else (if ¬ v1 = (-1) then (p_X11_item_b53 v0 v1)
  else (z_b (z_gI 12 10 v0) fun x8 => if ¬ x8 = 1 then (p_X11_item_b53 v0 v1)
  else (p_X11_item_b43))))
  else (z_th 0)
abbrev M_X11_item (l : Launch) : ZMe := (l, "SpellScribe", cX11_item, 2, 8, 120, (some .int), "item", [])
set_option maxRecDepth 20000 in
theorem sim_X11_item_b43 (l : Launch) (hfl : l.stackTraces = false)  : Sim (M_X11_item l) (zFinX zcI) 43 [] [] (p_X11_item_b43 ) := by
  unfold p_X11_item_b43
  exact s_throw (n := 1) (text := "the style has 3 items, or nothing is drafted") zthw_1 hfl rfl (by decide +kernel) rfl dX11_item_43 dX11_item_46 dX11_item_47 dX11_item_49 dX11_item_52 (Nat.le_of_ble_eq_true rfl) (Nat.le_of_ble_eq_true rfl)
set_option maxRecDepth 20000 in
theorem sim_X11_item_b70 (l : Launch) (hfl : l.stackTraces = false) (v0 : Option Nat) (s0 : Option Nat) (s1 : Int32) : Sim (M_X11_item l) (zFinX zcI) 70 [(0, .inr (.inr v0))] [.inl s1, .inr (.inr s0)] (p_X11_item_b70 v0 s0 s1) := by
  unfold p_X11_item_b70
  refine s_cVV (rest := []) (met_X7_addItem l s0 s1) cls_8 mth_X7_addItem rfl dX11_item_70 w_1156 w_1157 w_1158 ⟨Nat.le_of_ble_eq_true rfl, Nat.le_of_ble_eq_true rfl⟩ (Nat.le_of_ble_eq_true rfl) rfl ?_
  refine s_aloadn (j := 0) dX11_item_73 rfl ?_
  refine s_getR (k := 9) cls_12 (by decide) rfl dX11_item_74 w_288 rfl (fun x1 => ?_)
  refine s_getIN (k := 1) cls_8 (by decide) rfl dX11_item_77 w_264 rfl (fun x2 => ?_)
  exact s_xiret dX11_item_80 rfl
set_option maxRecDepth 20000 in
theorem sim_X11_item_b53 (l : Launch) (hfl : l.stackTraces = false) (v0 : Option Nat) (v1 : Int32) : Sim (M_X11_item l) (zFinX zcI) 53 [(0, .inr (.inr v0)), (1, .inl v1)] [] (p_X11_item_b53 v0 v1) := by
  unfold p_X11_item_b53
  refine s_aloadn (j := 0) dX11_item_53 rfl ?_
  refine s_getR (k := 9) cls_12 (by decide) rfl dX11_item_54 w_288 rfl (fun x3 => ?_)
  refine s_iloadn (j := 1) dX11_item_57 rfl ?_
  refine s_iconst (v := (-1)) dX11_item_58 (by decide) ?_
  refine s_icmp_ne (tgt := 69) dX11_item_59 (by decide) ?_ ?_
  · refine s_iloadn (j := 1) dX11_item_69 rfl ?_
    exact Sim.sub [0] rfl (sim_X11_item_b70 l hfl v0 x3 v1)
  · refine s_aloadn (j := 0) dX11_item_62 rfl ?_
    refine s_cVI (rest := [.inr (.inr x3)]) (met_X11_takeDraft l v0) cls_12 mth_X11_takeDraft rfl dX11_item_63 w_323 w_325 wp_0 ⟨Nat.le_of_ble_eq_true rfl, Nat.le_of_ble_eq_true rfl⟩ (Nat.le_of_ble_eq_true rfl) rfl (fun x4 => ?_)
    refine s_goto (tgt := 70) dX11_item_66 (by decide) ?_
    exact Sim.sub [0] rfl (sim_X11_item_b70 l hfl v0 x3 x4)
set_option maxRecDepth 20000 in
theorem sim_X11_item (l : Launch) (hfl : l.stackTraces = false) (v0 : Option Nat) (v1 : Int32) : Sim (M_X11_item l) (zFinX zcI) 0 [(0, .inr (.inr v0)), (1, .inl v1)] [] (p_X11_item v0 v1) := by
  unfold p_X11_item
  refine s_iloadn (j := 1) dX11_item_0 rfl ?_
  refine s_iconst (v := (-1)) dX11_item_1 (by decide) ?_
  refine s_iconst (v := 3) dX11_item_2 (by decide) ?_
  refine s_cSI (rest := []) (met_X11_isIn l v1 (-1) 3) mth_X11_isIn rfl dX11_item_3 w_504 w_505 ⟨Nat.le_of_ble_eq_true rfl, Nat.le_of_ble_eq_true rfl⟩ (Nat.le_of_ble_eq_true rfl) rfl (fun x5 => ?_)
  refine s_if_ne (tgt := 19) dX11_item_6 (by decide) ?_ ?_
  · refine s_aloadn (j := 0) dX11_item_19 rfl ?_
    refine s_getR (k := 9) cls_12 (by decide) rfl dX11_item_20 w_288 rfl (fun x6 => ?_)
    refine s_getIN (k := 1) cls_8 (by decide) rfl dX11_item_23 w_264 rfl (fun x7 => ?_)
    refine s_iconst (v := 3) dX11_item_26 (by decide) ?_
    refine s_icmp_ge (tgt := 43) dX11_item_27 (by decide) ?_ ?_
    · exact Sim.sub [] rfl (sim_X11_item_b43 l hfl)
    · refine s_iloadn (j := 1) dX11_item_30 rfl ?_
      refine s_iconst (v := (-1)) dX11_item_31 (by decide) ?_
      refine s_icmp_ne (tgt := 53) dX11_item_32 (by decide) ?_ ?_
      · exact Sim.sub [0, 1] rfl (sim_X11_item_b53 l hfl v0 v1)
      · refine s_aloadn (j := 0) dX11_item_35 rfl ?_
        refine s_getI (k := 10) cls_12 (by decide) rfl dX11_item_36 w_289 rfl (fun x8 => ?_)
        refine s_iconst (v := 1) dX11_item_39 (by decide) ?_
        refine s_icmp_ne (tgt := 53) dX11_item_40 (by decide) ?_ ?_
        · exact Sim.sub [0, 1] rfl (sim_X11_item_b53 l hfl v0 v1)
        · exact Sim.sub [] rfl (sim_X11_item_b43 l hfl)
  · exact s_throw (n := 0) (text := "kind is out of range") zthw_0 hfl rfl (by decide +kernel) rfl dX11_item_9 dX11_item_12 dX11_item_13 dX11_item_15 dX11_item_18 (Nat.le_of_ble_eq_true rfl) (Nat.le_of_ble_eq_true rfl)
theorem met_X11_item (l : Launch) (hfl : l.stackTraces = false) (v0 : Option Nat) (v1 : Int32) : zMetX l yX11_item cX11_item 2 (some .int) 8 120 [.inr (.inr v0), .inl v1] zcI (p_X11_item v0 v1) :=
  zMetX.of (by decide +kernel) (Nat.le_of_ble_eq_true rfl) rfl (sim_X11_item l hfl v0 v1)
def p_X11_style_b32  : ZM (Int32 ⊕ Nat) :=
  z_th 1
def p_X11_style (v0 : Option Nat) (v1 : Int32) : ZM (Int32 ⊕ Nat) :=
  z_b (z_gR 12 9 v0) fun x1 => z_b (z_gI 8 1 x1) fun x2 => if x2 = 0 then (p_X11_style_b32)
  else (z_b (z_gI 12 10 v0) fun x3 => if x3 = 1 then (p_X11_style_b32)
  else (z_b (z_gR 12 3 v0) fun x4 => z_b (z_vr 0 x4 (p_Jx4a65c_size_8abf5 x4)) fun x5 => if x5 < 8 then (z_b (z_gR 12 9 v0) fun x6 => z_b (z_gI 8 1 x6) fun x7 => z_b (p_X11_isIn v1 0 (x7 - 1)) fun x8 => if ¬ x8 = 0 then (z_b (z_gR 12 9 v0) fun x9 => z_b (z_vr 12 v0 (p_X11_takeDraft v0)) fun x10 => z_b (z_vr 8 x9 (p_X7_setChange x9 v1 x10)) fun _ => z_b (z_gR 12 3 v0) fun x11 => z_b (z_gR 12 9 v0) fun x12 => z_b (z_vr 0 x11 (p_Jx4a65c_add_9ea2d x11 x12)) fun x13 => z_b (z_nO 8 4) fun x14 => z_b (z_ii x14 (p_X7_init x14)) fun _ => z_b (z_pR 12 9 v0 x14) fun _ => z_b (z_vr 12 v0 (p_X11_forgetAnswers v0)) fun _ => z_b (z_gR 12 3 v0) fun x15 => z_b (z_vr 0 x15 (p_Jx4a65c_size_8abf5 x15)) fun x16 => z_xrt (x16 - 1))
  else (z_th 2))
  else (p_X11_style_b32)))
abbrev M_X11_style (l : Launch) : ZMe := (l, "SpellScribe", cX11_style, 2, 8, 171, (some .int), "style", [])
set_option maxRecDepth 20000 in
theorem sim_X11_style_b32 (l : Launch) (hfl : l.stackTraces = false)  : Sim (M_X11_style l) (zFinX zcI) 32 [] [] (p_X11_style_b32 ) := by
  unfold p_X11_style_b32
  exact s_throwW (n := 1) (text := "the style has no items, nothing is drafted, or there are 8 styles") zthw_1 hfl rfl (by decide +kernel) rfl dX11_style_32 dX11_style_35 dX11_style_36 dX11_style_39 dX11_style_42 (Nat.le_of_ble_eq_true rfl) (Nat.le_of_ble_eq_true rfl)
set_option maxRecDepth 20000 in
theorem sim_X11_style (l : Launch) (hfl : l.stackTraces = false) (v0 : Option Nat) (v1 : Int32) : Sim (M_X11_style l) (zFinX zcI) 0 [(0, .inr (.inr v0)), (1, .inl v1)] [] (p_X11_style v0 v1) := by
  unfold p_X11_style
  refine s_aloadn (j := 0) dX11_style_0 rfl ?_
  refine s_getR (k := 9) cls_12 (by decide) rfl dX11_style_1 w_288 rfl (fun x1 => ?_)
  refine s_getIN (k := 1) cls_8 (by decide) rfl dX11_style_4 w_264 rfl (fun x2 => ?_)
  refine s_if_eq (tgt := 32) dX11_style_7 (by decide) ?_ ?_
  · exact Sim.sub [] rfl (sim_X11_style_b32 l hfl)
  · refine s_aloadn (j := 0) dX11_style_10 rfl ?_
    refine s_getI (k := 10) cls_12 (by decide) rfl dX11_style_11 w_289 rfl (fun x3 => ?_)
    refine s_iconst (v := 1) dX11_style_14 (by decide) ?_
    refine s_icmp_eq (tgt := 32) dX11_style_15 (by decide) ?_ ?_
    · exact Sim.sub [] rfl (sim_X11_style_b32 l hfl)
    · refine s_aloadn (j := 0) dX11_style_18 rfl ?_
      refine s_getR (k := 3) cls_12 (by decide) rfl dX11_style_19 w_282 rfl (fun x4 => ?_)
      refine s_cFI (rest := []) (met_Jx4a65c_size_8abf5 l x4) cls_0 mth_Jx4a65c_size_8abf5 face_size rfl dX11_style_22 w_503 ⟨Nat.le_of_ble_eq_true rfl, Nat.le_of_ble_eq_true rfl⟩ (Nat.le_of_ble_eq_true rfl) rfl (fun x5 => ?_)
      refine s_bipush (v := 8) dX11_style_27 (by decide) ?_
      refine s_icmp_lt (tgt := 43) dX11_style_29 (by decide) ?_ ?_
      · refine s_iloadn (j := 1) dX11_style_43 rfl ?_
        refine s_iconst (v := 0) dX11_style_44 (by decide) ?_
        refine s_aloadn (j := 0) dX11_style_45 rfl ?_
        refine s_getR (k := 9) cls_12 (by decide) rfl dX11_style_46 w_288 rfl (fun x6 => ?_)
        refine s_getIN (k := 1) cls_8 (by decide) rfl dX11_style_49 w_264 rfl (fun x7 => ?_)
        refine s_iconst (v := 1) dX11_style_52 (by decide) ?_
        refine s_isub dX11_style_53 ?_
        refine s_cSI (rest := []) (met_X11_isIn l v1 0 (x7 - 1)) mth_X11_isIn rfl dX11_style_54 w_504 w_505 ⟨Nat.le_of_ble_eq_true rfl, Nat.le_of_ble_eq_true rfl⟩ (Nat.le_of_ble_eq_true rfl) rfl (fun x8 => ?_)
        refine s_if_ne (tgt := 71) dX11_style_57 (by decide) ?_ ?_
        · refine s_aloadn (j := 0) dX11_style_71 rfl ?_
          refine s_getR (k := 9) cls_12 (by decide) rfl dX11_style_72 w_288 rfl (fun x9 => ?_)
          refine s_iloadn (j := 1) dX11_style_75 rfl ?_
          refine s_aloadn (j := 0) dX11_style_76 rfl ?_
          refine s_cVI (rest := [.inl v1, .inr (.inr x9)]) (met_X11_takeDraft l v0) cls_12 mth_X11_takeDraft rfl dX11_style_77 w_323 w_325 wp_0 ⟨Nat.le_of_ble_eq_true rfl, Nat.le_of_ble_eq_true rfl⟩ (Nat.le_of_ble_eq_true rfl) rfl (fun x10 => ?_)
          refine s_cVV (rest := []) (met_X7_setChange l x9 v1 x10) cls_8 mth_X7_setChange rfl dX11_style_80 w_1170 w_1171 w_1172 ⟨Nat.le_of_ble_eq_true rfl, Nat.le_of_ble_eq_true rfl⟩ (Nat.le_of_ble_eq_true rfl) rfl ?_
          refine s_aloadn (j := 0) dX11_style_83 rfl ?_
          refine s_getR (k := 3) cls_12 (by decide) rfl dX11_style_84 w_282 rfl (fun x11 => ?_)
          refine s_aloadn (j := 0) dX11_style_87 rfl ?_
          refine s_getR (k := 9) cls_12 (by decide) rfl dX11_style_88 w_288 rfl (fun x12 => ?_)
          refine s_cFI (rest := []) (met_Jx4a65c_add_9ea2d l x11 x12) cls_0 mth_Jx4a65c_add_9ea2d face_add rfl dX11_style_91 w_1175 ⟨Nat.le_of_ble_eq_true rfl, Nat.le_of_ble_eq_true rfl⟩ (Nat.le_of_ble_eq_true rfl) rfl (fun x13 => ?_)
          refine s_popI dX11_style_96 ?_
          refine s_aloadn (j := 0) dX11_style_97 rfl ?_
          refine s_new cls_8 zck_8 dX11_style_98 w_254 w_255 w_13 (fun x14 => ?_)
          refine s_dupR dX11_style_101 ?_
          refine s_callIN (rest := [.inr (.inr x14), .inr (.inr v0)]) (met_X7_init l x14) mth_X7_init rfl rfl dX11_style_102 w_256 w_257 ⟨Nat.le_of_ble_eq_true rfl, Nat.le_of_ble_eq_true rfl⟩ (Nat.le_of_ble_eq_true rfl) rfl ?_
          refine s_putR (k := 9) cls_12 (by decide) rfl rfl rfl dX11_style_105 w_288 rfl ?_
          refine s_aloadn (j := 0) dX11_style_108 rfl ?_
          refine s_cVV (rest := []) (met_X11_forgetAnswers l v0) cls_12 mth_X11_forgetAnswers rfl dX11_style_109 w_658 w_660 wp_25 ⟨Nat.le_of_ble_eq_true rfl, Nat.le_of_ble_eq_true rfl⟩ (Nat.le_of_ble_eq_true rfl) rfl ?_
          refine s_aloadn (j := 0) dX11_style_112 rfl ?_
          refine s_getR (k := 3) cls_12 (by decide) rfl dX11_style_113 w_282 rfl (fun x15 => ?_)
          refine s_cFI (rest := []) (met_Jx4a65c_size_8abf5 l x15) cls_0 mth_Jx4a65c_size_8abf5 face_size rfl dX11_style_116 w_503 ⟨Nat.le_of_ble_eq_true rfl, Nat.le_of_ble_eq_true rfl⟩ (Nat.le_of_ble_eq_true rfl) rfl (fun x16 => ?_)
          refine s_iconst (v := 1) dX11_style_121 (by decide) ?_
          refine s_isub dX11_style_122 ?_
          exact s_xiret dX11_style_123 rfl
        · exact s_throwW (n := 2) (text := "there is no such item") zthw_2 hfl rfl (by decide +kernel) rfl dX11_style_60 dX11_style_63 dX11_style_64 dX11_style_67 dX11_style_70 (Nat.le_of_ble_eq_true rfl) (Nat.le_of_ble_eq_true rfl)
      · exact Sim.sub [] rfl (sim_X11_style_b32 l hfl)
theorem met_X11_style (l : Launch) (hfl : l.stackTraces = false) (v0 : Option Nat) (v1 : Int32) : zMetX l yX11_style cX11_style 2 (some .int) 8 171 [.inr (.inr v0), .inl v1] zcI (p_X11_style v0 v1) :=
  zMetX.of (by decide +kernel) (Nat.le_of_ble_eq_true rfl) rfl (sim_X11_style l hfl v0 v1)
def p_X11_isSign (v0 : Int32) : ZM Int32 :=
  z_b (p_X11_isLetter v0) fun x1 => if ¬ x1 = 0 then (z_rz 1)
  else (if v0 = 32 then (z_rz 1)
  else (if v0 = 46 then (z_rz 1)
  else (if v0 = 60 then (z_rz 1)
  else (if ¬ v0 = 62 then (z_rz 0)
  else (z_rz 1)))))
abbrev M_X11_isSign (l : Launch) : ZMe := (l, "SpellScribe", cX11_isSign, 1, 2, 42, (some .boolean), "isSign", [])
set_option maxRecDepth 20000 in
theorem sim_X11_isSign (l : Launch) (v0 : Int32) : Sim (M_X11_isSign l) (zFin zcI) 0 [(0, .inl v0)] [] (p_X11_isSign v0) := by
  unfold p_X11_isSign
  refine s_iloadn (j := 0) dX11_isSign_0 rfl ?_
  refine s_cSI (rest := []) (met_X11_isLetter l v0) mth_X11_isLetter rfl dX11_isSign_1 w_711 w_644 ⟨Nat.le_of_ble_eq_true rfl, Nat.le_of_ble_eq_true rfl⟩ (Nat.le_of_ble_eq_true rfl) rfl (fun x1 => ?_)
  refine s_if_ne (tgt := 31) dX11_isSign_4 (by decide) ?_ ?_
  · refine s_iconst (v := 1) dX11_isSign_31 (by decide) ?_
    refine s_goto (tgt := 36) dX11_isSign_32 (by decide) ?_
    exact s_zret dX11_isSign_36 rfl
  · refine s_iloadn (j := 0) dX11_isSign_7 rfl ?_
    refine s_bipush (v := 32) dX11_isSign_8 (by decide) ?_
    refine s_icmp_eq (tgt := 31) dX11_isSign_10 (by decide) ?_ ?_
    · refine s_iconst (v := 1) dX11_isSign_31 (by decide) ?_
      refine s_goto (tgt := 36) dX11_isSign_32 (by decide) ?_
      exact s_zret dX11_isSign_36 rfl
    · refine s_iloadn (j := 0) dX11_isSign_13 rfl ?_
      refine s_bipush (v := 46) dX11_isSign_14 (by decide) ?_
      refine s_icmp_eq (tgt := 31) dX11_isSign_16 (by decide) ?_ ?_
      · refine s_iconst (v := 1) dX11_isSign_31 (by decide) ?_
        refine s_goto (tgt := 36) dX11_isSign_32 (by decide) ?_
        exact s_zret dX11_isSign_36 rfl
      · refine s_iloadn (j := 0) dX11_isSign_19 rfl ?_
        refine s_bipush (v := 60) dX11_isSign_20 (by decide) ?_
        refine s_icmp_eq (tgt := 31) dX11_isSign_22 (by decide) ?_ ?_
        · refine s_iconst (v := 1) dX11_isSign_31 (by decide) ?_
          refine s_goto (tgt := 36) dX11_isSign_32 (by decide) ?_
          exact s_zret dX11_isSign_36 rfl
        · refine s_iloadn (j := 0) dX11_isSign_25 rfl ?_
          refine s_bipush (v := 62) dX11_isSign_26 (by decide) ?_
          refine s_icmp_ne (tgt := 35) dX11_isSign_28 (by decide) ?_ ?_
          · refine s_iconst (v := 0) dX11_isSign_35 (by decide) ?_
            exact s_zret dX11_isSign_36 rfl
          · refine s_iconst (v := 1) dX11_isSign_31 (by decide) ?_
            refine s_goto (tgt := 36) dX11_isSign_32 (by decide) ?_
            exact s_zret dX11_isSign_36 rfl
theorem met_X11_isSign (l : Launch) (v0 : Int32) : zMet l yX11_isSign cX11_isSign 1 (some .boolean) 2 42 [.inl v0] zcI (p_X11_isSign v0) :=
  zMet.of (by decide +kernel) (Nat.le_of_ble_eq_true rfl) rfl (sim_X11_isSign l v0)
def p_X11_checkEdit (v0 : Option Nat) : ZM Int32 :=
  z_b (z_gR 12 5 v0) fun x1 => z_b (z_vr 10 x1 (p_X9_findWords x1)) fun _ => z_b (z_vr 12 v0 (p_X11_forgetAnswers v0)) fun _ => z_b (z_gR 12 5 v0) fun x2 => z_b (z_gR 12 6 v0) fun x3 => z_b (z_vr 10 x2 (p_X9_wordsCheckedSince x2 x3)) fun x4 => z_rt x4
abbrev M_X11_checkEdit (l : Launch) : ZMe := (l, "SpellScribe", cX11_checkEdit, 1, 4, 97, (some .int), "checkEdit", [])
set_option maxRecDepth 20000 in
theorem sim_X11_checkEdit (l : Launch) (v0 : Option Nat) : Sim (M_X11_checkEdit l) (zFin zcI) 0 [(0, .inr (.inr v0))] [] (p_X11_checkEdit v0) := by
  unfold p_X11_checkEdit
  refine s_aloadn (j := 0) dX11_checkEdit_0 rfl ?_
  refine s_getR (k := 5) cls_12 (by decide) rfl dX11_checkEdit_1 w_284 rfl (fun x1 => ?_)
  refine s_cVV (rest := []) (met_X9_findWords l x1) cls_10 mth_X9_findWords rfl dX11_checkEdit_4 w_639 w_640 w_641 ⟨Nat.le_of_ble_eq_true rfl, Nat.le_of_ble_eq_true rfl⟩ (Nat.le_of_ble_eq_true rfl) rfl ?_
  refine s_aloadn (j := 0) dX11_checkEdit_7 rfl ?_
  refine s_cVV (rest := []) (met_X11_forgetAnswers l v0) cls_12 mth_X11_forgetAnswers rfl dX11_checkEdit_8 w_658 w_660 wp_25 ⟨Nat.le_of_ble_eq_true rfl, Nat.le_of_ble_eq_true rfl⟩ (Nat.le_of_ble_eq_true rfl) rfl ?_
  refine s_aloadn (j := 0) dX11_checkEdit_11 rfl ?_
  refine s_getR (k := 5) cls_12 (by decide) rfl dX11_checkEdit_12 w_284 rfl (fun x2 => ?_)
  refine s_aloadn (j := 0) dX11_checkEdit_15 rfl ?_
  refine s_getR (k := 6) cls_12 (by decide) rfl dX11_checkEdit_16 w_285 rfl (fun x3 => ?_)
  refine s_cVI (rest := []) (met_X9_wordsCheckedSince l x2 x3) cls_10 mth_X9_wordsCheckedSince rfl dX11_checkEdit_19 w_1199 w_1200 w_1201 ⟨Nat.le_of_ble_eq_true rfl, Nat.le_of_ble_eq_true rfl⟩ (Nat.le_of_ble_eq_true rfl) rfl (fun x4 => ?_)
  exact s_iret dX11_checkEdit_22 rfl
theorem met_X11_checkEdit (l : Launch) (v0 : Option Nat) : zMet l yX11_checkEdit cX11_checkEdit 1 (some .int) 4 97 [.inr (.inr v0)] zcI (p_X11_checkEdit v0) :=
  zMet.of (by decide +kernel) (Nat.le_of_ble_eq_true rfl) rfl (sim_X11_checkEdit l v0)
def p_X11_put (v0 : Option Nat) (v1 : Int32) (v2 : Int32) : ZM (Int32 ⊕ Nat) :=
  z_b (z_gR 12 5 v0) fun x1 => z_b (z_vr 10 x1 (p_X9_size x1)) fun x2 => z_b (p_X11_isIn v1 0 x2) fun x3 => if ¬ x3 = 0 then (z_b (p_X11_isSign v2) fun x4 => if ¬ x4 = 0 then (z_b (z_gR 12 5 v0) fun x5 => z_b (z_vr 10 x5 (p_X9_size x5)) fun x6 => if x6 < 100 then (z_b (z_gR 12 6 v0) fun x7 => z_b (z_gR 12 5 v0) fun x8 => z_b (z_vr 10 x7 (p_X9_becomeLike x7 x8)) fun _ => z_b (z_gR 12 5 v0) fun x9 => z_b (z_vr 10 x9 (p_X9_insertSign x9 v1 v2)) fun _ => z_b (z_vr 12 v0 (p_X11_checkEdit v0)) fun x10 => z_xrt x10)
  else (z_th 1))
  else (z_th 0))
  else (z_th 2)
abbrev M_X11_put (l : Launch) : ZMe := (l, "SpellScribe", cX11_put, 3, 8, 120, (some .int), "put", [])
set_option maxRecDepth 20000 in
theorem sim_X11_put (l : Launch) (hfl : l.stackTraces = false) (v0 : Option Nat) (v1 : Int32) (v2 : Int32) : Sim (M_X11_put l) (zFinX zcI) 0 [(0, .inr (.inr v0)), (1, .inl v1), (2, .inl v2)] [] (p_X11_put v0 v1 v2) := by
  unfold p_X11_put
  refine s_iloadn (j := 1) dX11_put_0 rfl ?_
  refine s_iconst (v := 0) dX11_put_1 (by decide) ?_
  refine s_aloadn (j := 0) dX11_put_2 rfl ?_
  refine s_getR (k := 5) cls_12 (by decide) rfl dX11_put_3 w_284 rfl (fun x1 => ?_)
  refine s_cVI (rest := [.inl 0, .inl v1]) (met_X9_size l x1) cls_10 mth_X9_size rfl dX11_put_6 w_613 w_343 w_344 ⟨Nat.le_of_ble_eq_true rfl, Nat.le_of_ble_eq_true rfl⟩ (Nat.le_of_ble_eq_true rfl) rfl (fun x2 => ?_)
  refine s_cSI (rest := []) (met_X11_isIn l v1 0 x2) mth_X11_isIn rfl dX11_put_9 w_504 w_505 ⟨Nat.le_of_ble_eq_true rfl, Nat.le_of_ble_eq_true rfl⟩ (Nat.le_of_ble_eq_true rfl) rfl (fun x3 => ?_)
  refine s_if_ne (tgt := 26) dX11_put_12 (by decide) ?_ ?_
  · refine s_iloadn (j := 2) dX11_put_26 rfl ?_
    refine s_cSI (rest := []) (met_X11_isSign l v2) mth_X11_isSign rfl dX11_put_27 w_1184 w_1185 ⟨Nat.le_of_ble_eq_true rfl, Nat.le_of_ble_eq_true rfl⟩ (Nat.le_of_ble_eq_true rfl) rfl (fun x4 => ?_)
    refine s_if_ne (tgt := 44) dX11_put_30 (by decide) ?_ ?_
    · refine s_aloadn (j := 0) dX11_put_44 rfl ?_
      refine s_getR (k := 5) cls_12 (by decide) rfl dX11_put_45 w_284 rfl (fun x5 => ?_)
      refine s_cVI (rest := []) (met_X9_size l x5) cls_10 mth_X9_size rfl dX11_put_48 w_613 w_343 w_344 ⟨Nat.le_of_ble_eq_true rfl, Nat.le_of_ble_eq_true rfl⟩ (Nat.le_of_ble_eq_true rfl) rfl (fun x6 => ?_)
      refine s_bipush (v := 100) dX11_put_51 (by decide) ?_
      refine s_icmp_lt (tgt := 67) dX11_put_53 (by decide) ?_ ?_
      · refine s_aloadn (j := 0) dX11_put_67 rfl ?_
        refine s_getR (k := 6) cls_12 (by decide) rfl dX11_put_68 w_285 rfl (fun x7 => ?_)
        refine s_aloadn (j := 0) dX11_put_71 rfl ?_
        refine s_getR (k := 5) cls_12 (by decide) rfl dX11_put_72 w_284 rfl (fun x8 => ?_)
        refine s_cVV (rest := []) (met_X9_becomeLike l x7 x8) cls_10 mth_X9_becomeLike rfl dX11_put_75 w_1189 w_1190 w_1191 ⟨Nat.le_of_ble_eq_true rfl, Nat.le_of_ble_eq_true rfl⟩ (Nat.le_of_ble_eq_true rfl) rfl ?_
        refine s_aloadn (j := 0) dX11_put_78 rfl ?_
        refine s_getR (k := 5) cls_12 (by decide) rfl dX11_put_79 w_284 rfl (fun x9 => ?_)
        refine s_iloadn (j := 1) dX11_put_82 rfl ?_
        refine s_iloadn (j := 2) dX11_put_83 rfl ?_
        refine s_cVV (rest := []) (met_X9_insertSign l x9 v1 v2) cls_10 mth_X9_insertSign rfl dX11_put_84 w_1194 w_635 w_636 ⟨Nat.le_of_ble_eq_true rfl, Nat.le_of_ble_eq_true rfl⟩ (Nat.le_of_ble_eq_true rfl) rfl ?_
        refine s_aloadn (j := 0) dX11_put_87 rfl ?_
        refine s_cVI (rest := []) (met_X11_checkEdit l v0) cls_12 mth_X11_checkEdit rfl dX11_put_88 w_1195 w_1197 wp_36 ⟨Nat.le_of_ble_eq_true rfl, Nat.le_of_ble_eq_true rfl⟩ (Nat.le_of_ble_eq_true rfl) rfl (fun x10 => ?_)
        exact s_xiret dX11_put_91 rfl
      · exact s_throwW (n := 1) (text := "the text has 100 signs") zthw_1 hfl rfl (by decide +kernel) rfl dX11_put_56 dX11_put_59 dX11_put_60 dX11_put_63 dX11_put_66 (Nat.le_of_ble_eq_true rfl) (Nat.le_of_ble_eq_true rfl)
    · exact s_throwW (n := 0) (text := "this is no sign of a text") zthw_0 hfl rfl (by decide +kernel) rfl dX11_put_33 dX11_put_36 dX11_put_37 dX11_put_40 dX11_put_43 (Nat.le_of_ble_eq_true rfl) (Nat.le_of_ble_eq_true rfl)
  · exact s_throwW (n := 2) (text := "there is no such place") zthw_2 hfl rfl (by decide +kernel) rfl dX11_put_15 dX11_put_18 dX11_put_19 dX11_put_22 dX11_put_25 (Nat.le_of_ble_eq_true rfl) (Nat.le_of_ble_eq_true rfl)
theorem met_X11_put (l : Launch) (hfl : l.stackTraces = false) (v0 : Option Nat) (v1 : Int32) (v2 : Int32) : zMetX l yX11_put cX11_put 3 (some .int) 8 120 [.inr (.inr v0), .inl v1, .inl v2] zcI (p_X11_put v0 v1 v2) :=
  zMetX.of (by decide +kernel) (Nat.le_of_ble_eq_true rfl) rfl (sim_X11_put l hfl v0 v1 v2)
def p_X11_take (v0 : Option Nat) (v1 : Int32) : ZM (Int32 ⊕ Nat) :=
  z_b (z_gR 12 5 v0) fun x1 => z_b (z_vr 10 x1 (p_X9_size x1)) fun x2 => z_b (p_X11_isIn v1 0 (x2 - 1)) fun x3 => if ¬ x3 = 0 then (z_b (z_gR 12 6 v0) fun x4 => z_b (z_gR 12 5 v0) fun x5 => z_b (z_vr 10 x4 (p_X9_becomeLike x4 x5)) fun _ => z_b (z_gR 12 5 v0) fun x6 => z_b (z_vr 10 x6 (p_X9_removeSign x6 v1)) fun _ => z_b (z_vr 12 v0 (p_X11_checkEdit v0)) fun x7 => z_xrt x7)
  else (z_th 2)
abbrev M_X11_take (l : Launch) : ZMe := (l, "SpellScribe", cX11_take, 2, 8, 120, (some .int), "take", [])
set_option maxRecDepth 20000 in
theorem sim_X11_take (l : Launch) (hfl : l.stackTraces = false) (v0 : Option Nat) (v1 : Int32) : Sim (M_X11_take l) (zFinX zcI) 0 [(0, .inr (.inr v0)), (1, .inl v1)] [] (p_X11_take v0 v1) := by
  unfold p_X11_take
  refine s_iloadn (j := 1) dX11_take_0 rfl ?_
  refine s_iconst (v := 0) dX11_take_1 (by decide) ?_
  refine s_aloadn (j := 0) dX11_take_2 rfl ?_
  refine s_getR (k := 5) cls_12 (by decide) rfl dX11_take_3 w_284 rfl (fun x1 => ?_)
  refine s_cVI (rest := [.inl 0, .inl v1]) (met_X9_size l x1) cls_10 mth_X9_size rfl dX11_take_6 w_613 w_343 w_344 ⟨Nat.le_of_ble_eq_true rfl, Nat.le_of_ble_eq_true rfl⟩ (Nat.le_of_ble_eq_true rfl) rfl (fun x2 => ?_)
  refine s_iconst (v := 1) dX11_take_9 (by decide) ?_
  refine s_isub dX11_take_10 ?_
  refine s_cSI (rest := []) (met_X11_isIn l v1 0 (x2 - 1)) mth_X11_isIn rfl dX11_take_11 w_504 w_505 ⟨Nat.le_of_ble_eq_true rfl, Nat.le_of_ble_eq_true rfl⟩ (Nat.le_of_ble_eq_true rfl) rfl (fun x3 => ?_)
  refine s_if_ne (tgt := 28) dX11_take_14 (by decide) ?_ ?_
  · refine s_aloadn (j := 0) dX11_take_28 rfl ?_
    refine s_getR (k := 6) cls_12 (by decide) rfl dX11_take_29 w_285 rfl (fun x4 => ?_)
    refine s_aloadn (j := 0) dX11_take_32 rfl ?_
    refine s_getR (k := 5) cls_12 (by decide) rfl dX11_take_33 w_284 rfl (fun x5 => ?_)
    refine s_cVV (rest := []) (met_X9_becomeLike l x4 x5) cls_10 mth_X9_becomeLike rfl dX11_take_36 w_1189 w_1190 w_1191 ⟨Nat.le_of_ble_eq_true rfl, Nat.le_of_ble_eq_true rfl⟩ (Nat.le_of_ble_eq_true rfl) rfl ?_
    refine s_aloadn (j := 0) dX11_take_39 rfl ?_
    refine s_getR (k := 5) cls_12 (by decide) rfl dX11_take_40 w_284 rfl (fun x6 => ?_)
    refine s_iloadn (j := 1) dX11_take_43 rfl ?_
    refine s_cVV (rest := []) (met_X9_removeSign l x6 v1) cls_10 mth_X9_removeSign rfl dX11_take_44 w_1218 w_625 w_626 ⟨Nat.le_of_ble_eq_true rfl, Nat.le_of_ble_eq_true rfl⟩ (Nat.le_of_ble_eq_true rfl) rfl ?_
    refine s_aloadn (j := 0) dX11_take_47 rfl ?_
    refine s_cVI (rest := []) (met_X11_checkEdit l v0) cls_12 mth_X11_checkEdit rfl dX11_take_48 w_1195 w_1197 wp_36 ⟨Nat.le_of_ble_eq_true rfl, Nat.le_of_ble_eq_true rfl⟩ (Nat.le_of_ble_eq_true rfl) rfl (fun x7 => ?_)
    exact s_xiret dX11_take_51 rfl
  · exact s_throwW (n := 2) (text := "there is no such place") zthw_2 hfl rfl (by decide +kernel) rfl dX11_take_17 dX11_take_20 dX11_take_21 dX11_take_24 dX11_take_27 (Nat.le_of_ble_eq_true rfl) (Nat.le_of_ble_eq_true rfl)
theorem met_X11_take (l : Launch) (hfl : l.stackTraces = false) (v0 : Option Nat) (v1 : Int32) : zMetX l yX11_take cX11_take 2 (some .int) 8 120 [.inr (.inr v0), .inl v1] zcI (p_X11_take v0 v1) :=
  zMetX.of (by decide +kernel) (Nat.le_of_ble_eq_true rfl) rfl (sim_X11_take l hfl v0 v1)
def p_X11_listSuggestions (v0 : Option Nat) (v1 : Int32) : ZM Unit :=
  z_b (z_gI 12 12 v0) fun x1 => if x1 = v1 then (z_rt ())
  else (z_b (z_gR 12 1 v0) fun x2 => z_b (z_gR 12 5 v0) fun x3 => z_b (z_gR 12 0 v0) fun x4 => z_b (z_vr 3 x4 (p_X2_suggestable x4)) fun x5 => z_b (z_vr 9 x2 (p_X8_list x2 x3 v1 x5 2)) fun _ => z_b (z_pI 12 12 v0 v1) fun _ => z_rt ())
abbrev M_X11_listSuggestions (l : Launch) : ZMe := (l, "SpellScribe", cX11_listSuggestions, 2, 5, 142, none, "listSuggestions", [])
set_option maxRecDepth 20000 in
theorem sim_X11_listSuggestions (l : Launch) (v0 : Option Nat) (v1 : Int32) : Sim (M_X11_listSuggestions l) (zFin zcV) 0 [(0, .inr (.inr v0)), (1, .inl v1)] [] (p_X11_listSuggestions v0 v1) := by
  unfold p_X11_listSuggestions
  refine s_aloadn (j := 0) dX11_listSuggestions_0 rfl ?_
  refine s_getI (k := 12) cls_12 (by decide) rfl dX11_listSuggestions_1 w_291 rfl (fun x1 => ?_)
  refine s_iloadn (j := 1) dX11_listSuggestions_4 rfl ?_
  refine s_icmp_eq (tgt := 33) dX11_listSuggestions_5 (by decide) ?_ ?_
  · exact s_vret dX11_listSuggestions_33 rfl
  · refine s_aloadn (j := 0) dX11_listSuggestions_8 rfl ?_
    refine s_getR (k := 1) cls_12 (by decide) rfl dX11_listSuggestions_9 w_280 rfl (fun x2 => ?_)
    refine s_aloadn (j := 0) dX11_listSuggestions_12 rfl ?_
    refine s_getR (k := 5) cls_12 (by decide) rfl dX11_listSuggestions_13 w_284 rfl (fun x3 => ?_)
    refine s_iloadn (j := 1) dX11_listSuggestions_16 rfl ?_
    refine s_aloadn (j := 0) dX11_listSuggestions_17 rfl ?_
    refine s_getR (k := 0) cls_12 (by decide) rfl dX11_listSuggestions_18 w_279 rfl (fun x4 => ?_)
    refine s_cVR (rest := [.inl v1, .inr (.inr x3), .inr (.inr x2)]) (met_X2_suggestable l x4) cls_3 mth_X2_suggestable rfl dX11_listSuggestions_21 w_531 w_532 w_533 ⟨Nat.le_of_ble_eq_true rfl, Nat.le_of_ble_eq_true rfl⟩ (Nat.le_of_ble_eq_true rfl) rfl (fun x5 => ?_)
    refine s_iconst (v := 2) dX11_listSuggestions_24 (by decide) ?_
    refine s_cVV (rest := []) (met_X8_list l x2 x3 v1 x5 2) cls_9 mth_X8_list rfl dX11_listSuggestions_25 w_535 w_536 w_537 ⟨Nat.le_of_ble_eq_true rfl, Nat.le_of_ble_eq_true rfl⟩ (Nat.le_of_ble_eq_true rfl) rfl ?_
    refine s_aloadn (j := 0) dX11_listSuggestions_28 rfl ?_
    refine s_iloadn (j := 1) dX11_listSuggestions_29 rfl ?_
    refine s_putI (k := 12) cls_12 (by decide) rfl rfl rfl dX11_listSuggestions_30 w_291 rfl ?_
    exact s_vret dX11_listSuggestions_33 rfl
theorem met_X11_listSuggestions (l : Launch) (v0 : Option Nat) (v1 : Int32) : zMet l yX11_listSuggestions cX11_listSuggestions 2 none 5 142 [.inr (.inr v0), .inl v1] zcV (p_X11_listSuggestions v0 v1) :=
  zMet.of (by decide +kernel) (Nat.le_of_ble_eq_true rfl) rfl (sim_X11_listSuggestions l v0 v1)
def p_X11_changeWord (v0 : Option Nat) (v1 : Int32) (v2 : Int32) : ZM Int32 :=
  z_b (z_gR 12 5 v0) fun x1 => z_b (z_vr 10 x1 (p_X9_size x1)) fun x2 => z_b (z_gR 12 5 v0) fun x3 => z_b (z_vr 10 x3 (p_X9_wordSize x3 v1)) fun x4 => z_b (p_X11_sizeOf v2) fun x5 => if ((x2 - x4) + x5) ≤ 100 then (z_b (z_gR 12 5 v0) fun x6 => z_b (z_vr 10 x6 (p_X9_replaceWord x6 v1 v2)) fun _ => z_b (z_gR 12 5 v0) fun x7 => z_b (z_vr 10 x7 (p_X9_findWords x7)) fun _ => z_b (z_vr 12 v0 (p_X11_forgetAnswers v0)) fun _ => z_rz 1)
  else (z_rz 0)
abbrev M_X11_changeWord (l : Launch) : ZMe := (l, "SpellScribe", cX11_changeWord, 3, 4, 109, (some .boolean), "changeWord", [])
set_option maxRecDepth 20000 in
theorem sim_X11_changeWord (l : Launch) (v0 : Option Nat) (v1 : Int32) (v2 : Int32) : Sim (M_X11_changeWord l) (zFin zcI) 0 [(0, .inr (.inr v0)), (1, .inl v1), (2, .inl v2)] [] (p_X11_changeWord v0 v1 v2) := by
  unfold p_X11_changeWord
  refine s_aloadn (j := 0) dX11_changeWord_0 rfl ?_
  refine s_getR (k := 5) cls_12 (by decide) rfl dX11_changeWord_1 w_284 rfl (fun x1 => ?_)
  refine s_cVI (rest := []) (met_X9_size l x1) cls_10 mth_X9_size rfl dX11_changeWord_4 w_613 w_343 w_344 ⟨Nat.le_of_ble_eq_true rfl, Nat.le_of_ble_eq_true rfl⟩ (Nat.le_of_ble_eq_true rfl) rfl (fun x2 => ?_)
  refine s_aloadn (j := 0) dX11_changeWord_7 rfl ?_
  refine s_getR (k := 5) cls_12 (by decide) rfl dX11_changeWord_8 w_284 rfl (fun x3 => ?_)
  refine s_iloadn (j := 1) dX11_changeWord_11 rfl ?_
  refine s_cVI (rest := [.inl x2]) (met_X9_wordSize l x3 v1) cls_10 mth_X9_wordSize rfl dX11_changeWord_12 w_614 w_540 w_541 ⟨Nat.le_of_ble_eq_true rfl, Nat.le_of_ble_eq_true rfl⟩ (Nat.le_of_ble_eq_true rfl) rfl (fun x4 => ?_)
  refine s_isub dX11_changeWord_15 ?_
  refine s_iloadn (j := 2) dX11_changeWord_16 rfl ?_
  refine s_cSI (rest := [.inl (x2 - x4)]) (met_X11_sizeOf l v2) mth_X11_sizeOf rfl dX11_changeWord_17 w_327 w_328 ⟨Nat.le_of_ble_eq_true rfl, Nat.le_of_ble_eq_true rfl⟩ (Nat.le_of_ble_eq_true rfl) rfl (fun x5 => ?_)
  refine s_iadd dX11_changeWord_20 ?_
  refine s_bipush (v := 100) dX11_changeWord_21 (by decide) ?_
  refine s_icmp_le (tgt := 28) dX11_changeWord_23 (by decide) ?_ ?_
  · refine s_aloadn (j := 0) dX11_changeWord_28 rfl ?_
    refine s_getR (k := 5) cls_12 (by decide) rfl dX11_changeWord_29 w_284 rfl (fun x6 => ?_)
    refine s_iloadn (j := 1) dX11_changeWord_32 rfl ?_
    refine s_iloadn (j := 2) dX11_changeWord_33 rfl ?_
    refine s_cVV (rest := []) (met_X9_replaceWord l x6 v1 v2) cls_10 mth_X9_replaceWord rfl dX11_changeWord_34 w_615 w_616 w_617 ⟨Nat.le_of_ble_eq_true rfl, Nat.le_of_ble_eq_true rfl⟩ (Nat.le_of_ble_eq_true rfl) rfl ?_
    refine s_aloadn (j := 0) dX11_changeWord_37 rfl ?_
    refine s_getR (k := 5) cls_12 (by decide) rfl dX11_changeWord_38 w_284 rfl (fun x7 => ?_)
    refine s_cVV (rest := []) (met_X9_findWords l x7) cls_10 mth_X9_findWords rfl dX11_changeWord_41 w_639 w_640 w_641 ⟨Nat.le_of_ble_eq_true rfl, Nat.le_of_ble_eq_true rfl⟩ (Nat.le_of_ble_eq_true rfl) rfl ?_
    refine s_aloadn (j := 0) dX11_changeWord_44 rfl ?_
    refine s_cVV (rest := []) (met_X11_forgetAnswers l v0) cls_12 mth_X11_forgetAnswers rfl dX11_changeWord_45 w_658 w_660 wp_25 ⟨Nat.le_of_ble_eq_true rfl, Nat.le_of_ble_eq_true rfl⟩ (Nat.le_of_ble_eq_true rfl) rfl ?_
    refine s_iconst (v := 1) dX11_changeWord_48 (by decide) ?_
    exact s_zret dX11_changeWord_49 rfl
  · refine s_iconst (v := 0) dX11_changeWord_26 (by decide) ?_
    exact s_zret dX11_changeWord_27 rfl
theorem met_X11_changeWord (l : Launch) (v0 : Option Nat) (v1 : Int32) (v2 : Int32) : zMet l yX11_changeWord cX11_changeWord 3 (some .boolean) 4 109 [.inr (.inr v0), .inl v1, .inl v2] zcI (p_X11_changeWord v0 v1 v2) :=
  zMet.of (by decide +kernel) (Nat.le_of_ble_eq_true rfl) rfl (sim_X11_changeWord l v0 v1 v2)
def p_X11_changeOnce_b92 (v0 : Option Nat) (v1 : Int32) (v2 : Option Nat) : ZM Int32 :=
  z_b (z_gI 8 2 v2) fun x1 => z_b (z_gI 8 3 v2) fun x2 => z_b (z_vr 12 v0 (p_X11_changeWord v0 (v1 + x1) x2)) fun x3 => z_rz x3
def p_X11_changeOnce_c61 (r61 : Option Nat → Int32 → ZM Int32) (v0 : Option Nat) (v1 : Int32) : ZM Int32 :=
  z_b (z_gR 12 5 v0) fun x4 => z_b (z_vr 10 x4 (p_X9_wordCount x4)) fun x5 => if x5 ≤ v1 then (z_rz 0)
  else (z_b (z_gR 12 3 v0) fun x6 => z_b (z_gR 12 8 v0) fun x7 => z_b (z_vr 4 x7 (p_X3_takenStyle x7 v1)) fun x8 => z_b (p_X11_styleNumbered x6 x8) fun x9 => if x9 = none then (z_n (v1 + 1 : Int32) fun y10 => r61 v0 y10)
  else (p_X11_changeOnce_b92 v0 v1 x9))
def p_X11_changeOnce_l61 : Nat → Option Nat → Int32 → ZM Int32
  | 0, _, _ => z_fl
  | n + 1, v0, v1 => p_X11_changeOnce_c61 (p_X11_changeOnce_l61 n) v0 v1
def p_X11_changeOnce_b59 (v0 : Option Nat) : ZM Int32 :=
  p_X11_changeOnce_l61 zFuel v0 0
def p_X11_changeOnce_b53 (r2 : Option Nat → Int32 → ZM Int32) (v0 : Option Nat) (v1 : Int32) : ZM Int32 :=
  z_n (v1 + 1 : Int32) fun y11 => r2 v0 y11
def p_X11_changeOnce_b39 (v0 : Option Nat) (v1 : Int32) : ZM Int32 :=
  z_b (z_gR 12 1 v0) fun x12 => z_b (z_vr 9 x12 (p_X8_listedWord x12 0)) fun x13 => z_b (z_vr 12 v0 (p_X11_changeWord v0 v1 x13)) fun x14 => z_rz x14
def p_X11_changeOnce_c2 (r2 : Option Nat → Int32 → ZM Int32) (v0 : Option Nat) (v1 : Int32) : ZM Int32 :=
  z_b (z_gR 12 5 v0) fun x15 => z_b (z_vr 10 x15 (p_X9_wordCount x15)) fun x16 => if x16 ≤ v1 then (p_X11_changeOnce_b59 v0)
  else (z_b (z_gR 12 8 v0) fun x17 => z_b (z_vr 4 x17 (p_X3_isSpelledRight x17 v1)) fun x18 => if ¬ x18 = 0 then (p_X11_changeOnce_b53 r2 v0 v1)
  else (z_b (z_vr 12 v0 (p_X11_listSuggestions v0 v1)) fun _ => z_b (z_gR 12 1 v0) fun x19 => z_b (z_vr 9 x19 (p_X8_count x19)) fun x20 => if x20 ≤ 0 then (p_X11_changeOnce_b53 r2 v0 v1)
  else (p_X11_changeOnce_b39 v0 v1)))
def p_X11_changeOnce_l2 : Nat → Option Nat → Int32 → ZM Int32
  | 0, _, _ => z_fl
  | n + 1, v0, v1 => p_X11_changeOnce_c2 (p_X11_changeOnce_l2 n) v0 v1
def p_X11_changeOnce (v0 : Option Nat) : ZM Int32 :=
  p_X11_changeOnce_l2 zFuel v0 0
abbrev M_X11_changeOnce (l : Launch) : ZMe := (l, "SpellScribe", cX11_changeOnce, 3, 6, 163, (some .boolean), "changeOnce", [])
set_option maxRecDepth 20000 in
theorem sim_X11_changeOnce_b92 (l : Launch) (v0 : Option Nat) (v1 : Int32) (v2 : Option Nat) : Sim (M_X11_changeOnce l) (zFin zcI) 92 [(0, .inr (.inr v0)), (1, .inl v1), (2, .inr (.inr v2))] [] (p_X11_changeOnce_b92 v0 v1 v2) := by
  unfold p_X11_changeOnce_b92
  refine s_aloadn (j := 0) dX11_changeOnce_92 rfl ?_
  refine s_iloadn (j := 1) dX11_changeOnce_93 rfl ?_
  refine s_aloadn (j := 2) dX11_changeOnce_94 rfl ?_
  refine s_getIN (k := 2) cls_8 (by decide) rfl dX11_changeOnce_95 w_267 rfl (fun x1 => ?_)
  refine s_iadd dX11_changeOnce_98 ?_
  refine s_aloadn (j := 2) dX11_changeOnce_99 rfl ?_
  refine s_getIN (k := 3) cls_8 (by decide) rfl dX11_changeOnce_100 w_269 rfl (fun x2 => ?_)
  refine s_cVI (rest := []) (met_X11_changeWord l v0 (v1 + x1) x2) cls_12 mth_X11_changeWord rfl dX11_changeOnce_103 w_609 w_611 wp_22 ⟨Nat.le_of_ble_eq_true rfl, Nat.le_of_ble_eq_true rfl⟩ (Nat.le_of_ble_eq_true rfl) rfl (fun x3 => ?_)
  exact s_zret dX11_changeOnce_106 rfl
set_option maxRecDepth 20000 in
theorem sim_X11_changeOnce_c61 (l : Launch) (r61 : Option Nat → Int32 → ZM Int32) (hr61 : ∀ (v0 : Option Nat) (v1 : Int32), Sim (M_X11_changeOnce l) (zFin zcI) 61 [(0, .inr (.inr v0)), (1, .inl v1)] [] (r61 v0 v1)) (v0 : Option Nat) (v1 : Int32) : Sim (M_X11_changeOnce l) (zFin zcI) 61 [(0, .inr (.inr v0)), (1, .inl v1)] [] (p_X11_changeOnce_c61 r61 v0 v1) := by
  unfold p_X11_changeOnce_c61
  refine s_iloadn (j := 1) dX11_changeOnce_61 rfl ?_
  refine s_aloadn (j := 0) dX11_changeOnce_62 rfl ?_
  refine s_getR (k := 5) cls_12 (by decide) rfl dX11_changeOnce_63 w_284 rfl (fun x4 => ?_)
  refine s_cVI (rest := [.inl v1]) (met_X9_wordCount l x4) cls_10 mth_X9_wordCount rfl dX11_changeOnce_66 w_362 w_363 w_364 ⟨Nat.le_of_ble_eq_true rfl, Nat.le_of_ble_eq_true rfl⟩ (Nat.le_of_ble_eq_true rfl) rfl (fun x5 => ?_)
  refine s_icmp_ge (tgt := 113) dX11_changeOnce_69 (by decide) ?_ ?_
  · refine s_iconst (v := 0) dX11_changeOnce_113 (by decide) ?_
    exact s_zret dX11_changeOnce_114 rfl
  · refine s_aloadn (j := 0) dX11_changeOnce_72 rfl ?_
    refine s_getR (k := 3) cls_12 (by decide) rfl dX11_changeOnce_73 w_282 rfl (fun x6 => ?_)
    refine s_aloadn (j := 0) dX11_changeOnce_76 rfl ?_
    refine s_getR (k := 8) cls_12 (by decide) rfl dX11_changeOnce_77 w_287 rfl (fun x7 => ?_)
    refine s_iloadn (j := 1) dX11_changeOnce_80 rfl ?_
    refine s_cVI (rest := [.inr (.inr x6)]) (met_X3_takenStyle l x7 v1) cls_4 mth_X3_takenStyle rfl dX11_changeOnce_81 w_662 w_663 w_664 ⟨Nat.le_of_ble_eq_true rfl, Nat.le_of_ble_eq_true rfl⟩ (Nat.le_of_ble_eq_true rfl) rfl (fun x8 => ?_)
    refine s_cSR (rest := []) (met_X11_styleNumbered l x6 x8) mth_X11_styleNumbered rfl dX11_changeOnce_84 w_666 w_500 ⟨Nat.le_of_ble_eq_true rfl, Nat.le_of_ble_eq_true rfl⟩ (Nat.le_of_ble_eq_true rfl) rfl (fun x9 => ?_)
    refine s_astoren (lv' := [(2, .inr (.inr x9)), (0, .inr (.inr v0)), (1, .inl v1)]) dX11_changeOnce_87 (Nat.le_of_ble_eq_true rfl) rfl ?_
    refine s_aloadn (j := 0) dX11_changeOnce_88 rfl ?_
    refine s_ifnull (tgt := 107) dX11_changeOnce_89 (by decide) ?_ ?_
    · refine s_n0 (fun y10 hy10 => ?_)
      refine s_iinc (j := 2) (v := y10) (d := 1) (lv' := [(1, .inl y10), (2, .inr (.inr x9)), (0, .inr (.inr v0))]) dX11_changeOnce_107 rfl (by decide) hy10 (Nat.le_of_ble_eq_true rfl) rfl ?_
      refine s_goto (tgt := 61) dX11_changeOnce_110 (by decide) ?_
      exact Sim.sub [2, 0] rfl (hr61 v0 y10)
    · exact Sim.sub [1, 2, 0] rfl (sim_X11_changeOnce_b92 l v0 v1 x9)
theorem sim_X11_changeOnce_l61 (l : Launch) : ∀ (n : Nat) (v0 : Option Nat) (v1 : Int32), Sim (M_X11_changeOnce l) (zFin zcI) 61 [(0, .inr (.inr v0)), (1, .inl v1)] [] (p_X11_changeOnce_l61 n v0 v1)
  | 0, _, _ => s_fl
  | n + 1, v0, v1 => sim_X11_changeOnce_c61 l (p_X11_changeOnce_l61 n) (sim_X11_changeOnce_l61 l n) v0 v1
set_option maxRecDepth 20000 in
theorem sim_X11_changeOnce_b59 (l : Launch) (v0 : Option Nat) : Sim (M_X11_changeOnce l) (zFin zcI) 59 [(0, .inr (.inr v0))] [] (p_X11_changeOnce_b59 v0) := by
  unfold p_X11_changeOnce_b59
  refine s_iconst (v := 0) dX11_changeOnce_59 (by decide) ?_
  refine s_istoren (lv' := [(1, .inl 0), (0, .inr (.inr v0))]) dX11_changeOnce_60 (Nat.le_of_ble_eq_true rfl) rfl ?_
  exact Sim.sub [1, 0] rfl (sim_X11_changeOnce_l61 l zFuel v0 0)
set_option maxRecDepth 20000 in
theorem sim_X11_changeOnce_b53 (l : Launch) (r2 : Option Nat → Int32 → ZM Int32) (hr2 : ∀ (v0 : Option Nat) (v1 : Int32), Sim (M_X11_changeOnce l) (zFin zcI) 2 [(0, .inr (.inr v0)), (1, .inl v1)] [] (r2 v0 v1)) (v0 : Option Nat) (v1 : Int32) : Sim (M_X11_changeOnce l) (zFin zcI) 53 [(0, .inr (.inr v0)), (1, .inl v1)] [] (p_X11_changeOnce_b53 r2 v0 v1) := by
  unfold p_X11_changeOnce_b53
  refine s_n0 (fun y11 hy11 => ?_)
  refine s_iinc (j := 1) (v := y11) (d := 1) (lv' := [(1, .inl y11), (0, .inr (.inr v0))]) dX11_changeOnce_53 rfl (by decide) hy11 (Nat.le_of_ble_eq_true rfl) rfl ?_
  refine s_goto (tgt := 2) dX11_changeOnce_56 (by decide) ?_
  exact Sim.sub [1, 0] rfl (hr2 v0 y11)
set_option maxRecDepth 20000 in
theorem sim_X11_changeOnce_b39 (l : Launch) (v0 : Option Nat) (v1 : Int32) : Sim (M_X11_changeOnce l) (zFin zcI) 39 [(0, .inr (.inr v0)), (1, .inl v1)] [] (p_X11_changeOnce_b39 v0 v1) := by
  unfold p_X11_changeOnce_b39
  refine s_aloadn (j := 0) dX11_changeOnce_39 rfl ?_
  refine s_iloadn (j := 1) dX11_changeOnce_40 rfl ?_
  refine s_aloadn (j := 0) dX11_changeOnce_41 rfl ?_
  refine s_getR (k := 1) cls_12 (by decide) rfl dX11_changeOnce_42 w_280 rfl (fun x12 => ?_)
  refine s_iconst (v := 0) dX11_changeOnce_45 (by decide) ?_
  refine s_cVI (rest := [.inl v1, .inr (.inr v0)]) (met_X8_listedWord l x12 0) cls_9 mth_X8_listedWord rfl dX11_changeOnce_46 w_605 w_606 w_607 ⟨Nat.le_of_ble_eq_true rfl, Nat.le_of_ble_eq_true rfl⟩ (Nat.le_of_ble_eq_true rfl) rfl (fun x13 => ?_)
  refine s_cVI (rest := []) (met_X11_changeWord l v0 v1 x13) cls_12 mth_X11_changeWord rfl dX11_changeOnce_49 w_609 w_611 wp_22 ⟨Nat.le_of_ble_eq_true rfl, Nat.le_of_ble_eq_true rfl⟩ (Nat.le_of_ble_eq_true rfl) rfl (fun x14 => ?_)
  exact s_zret dX11_changeOnce_52 rfl
set_option maxRecDepth 20000 in
theorem sim_X11_changeOnce_c2 (l : Launch) (r2 : Option Nat → Int32 → ZM Int32) (hr2 : ∀ (v0 : Option Nat) (v1 : Int32), Sim (M_X11_changeOnce l) (zFin zcI) 2 [(0, .inr (.inr v0)), (1, .inl v1)] [] (r2 v0 v1)) (v0 : Option Nat) (v1 : Int32) : Sim (M_X11_changeOnce l) (zFin zcI) 2 [(0, .inr (.inr v0)), (1, .inl v1)] [] (p_X11_changeOnce_c2 r2 v0 v1) := by
  unfold p_X11_changeOnce_c2
  refine s_iloadn (j := 1) dX11_changeOnce_2 rfl ?_
  refine s_aloadn (j := 0) dX11_changeOnce_3 rfl ?_
  refine s_getR (k := 5) cls_12 (by decide) rfl dX11_changeOnce_4 w_284 rfl (fun x15 => ?_)
  refine s_cVI (rest := [.inl v1]) (met_X9_wordCount l x15) cls_10 mth_X9_wordCount rfl dX11_changeOnce_7 w_362 w_363 w_364 ⟨Nat.le_of_ble_eq_true rfl, Nat.le_of_ble_eq_true rfl⟩ (Nat.le_of_ble_eq_true rfl) rfl (fun x16 => ?_)
  refine s_icmp_ge (tgt := 59) dX11_changeOnce_10 (by decide) ?_ ?_
  · exact Sim.sub [0] rfl (sim_X11_changeOnce_b59 l v0)
  · refine s_aloadn (j := 0) dX11_changeOnce_13 rfl ?_
    refine s_getR (k := 8) cls_12 (by decide) rfl dX11_changeOnce_14 w_287 rfl (fun x17 => ?_)
    refine s_iloadn (j := 1) dX11_changeOnce_17 rfl ?_
    refine s_cVI (rest := []) (met_X3_isSpelledRight l x17 v1) cls_4 mth_X3_isSpelledRight rfl dX11_changeOnce_18 w_526 w_515 w_516 ⟨Nat.le_of_ble_eq_true rfl, Nat.le_of_ble_eq_true rfl⟩ (Nat.le_of_ble_eq_true rfl) rfl (fun x18 => ?_)
    refine s_if_ne (tgt := 53) dX11_changeOnce_21 (by decide) ?_ ?_
    · exact Sim.sub [0, 1] rfl (sim_X11_changeOnce_b53 l r2 hr2 v0 v1)
    · refine s_aloadn (j := 0) dX11_changeOnce_24 rfl ?_
      refine s_iloadn (j := 1) dX11_changeOnce_25 rfl ?_
      refine s_cVV (rest := []) (met_X11_listSuggestions l v0 v1) cls_12 mth_X11_listSuggestions rfl dX11_changeOnce_26 w_527 w_529 wp_15 ⟨Nat.le_of_ble_eq_true rfl, Nat.le_of_ble_eq_true rfl⟩ (Nat.le_of_ble_eq_true rfl) rfl ?_
      refine s_aloadn (j := 0) dX11_changeOnce_29 rfl ?_
      refine s_getR (k := 1) cls_12 (by decide) rfl dX11_changeOnce_30 w_280 rfl (fun x19 => ?_)
      refine s_cVI (rest := []) (met_X8_count l x19) cls_9 mth_X8_count rfl dX11_changeOnce_33 w_601 w_602 w_603 ⟨Nat.le_of_ble_eq_true rfl, Nat.le_of_ble_eq_true rfl⟩ (Nat.le_of_ble_eq_true rfl) rfl (fun x20 => ?_)
      refine s_if_le (tgt := 53) dX11_changeOnce_36 (by decide) ?_ ?_
      · exact Sim.sub [0, 1] rfl (sim_X11_changeOnce_b53 l r2 hr2 v0 v1)
      · exact Sim.sub [0, 1] rfl (sim_X11_changeOnce_b39 l v0 v1)
theorem sim_X11_changeOnce_l2 (l : Launch) : ∀ (n : Nat) (v0 : Option Nat) (v1 : Int32), Sim (M_X11_changeOnce l) (zFin zcI) 2 [(0, .inr (.inr v0)), (1, .inl v1)] [] (p_X11_changeOnce_l2 n v0 v1)
  | 0, _, _ => s_fl
  | n + 1, v0, v1 => sim_X11_changeOnce_c2 l (p_X11_changeOnce_l2 n) (sim_X11_changeOnce_l2 l n) v0 v1
set_option maxRecDepth 20000 in
theorem sim_X11_changeOnce (l : Launch) (v0 : Option Nat) : Sim (M_X11_changeOnce l) (zFin zcI) 0 [(0, .inr (.inr v0))] [] (p_X11_changeOnce v0) := by
  unfold p_X11_changeOnce
  refine s_iconst (v := 0) dX11_changeOnce_0 (by decide) ?_
  refine s_istoren (lv' := [(1, .inl 0), (0, .inr (.inr v0))]) dX11_changeOnce_1 (Nat.le_of_ble_eq_true rfl) rfl ?_
  exact Sim.sub [1, 0] rfl (sim_X11_changeOnce_l2 l zFuel v0 0)
theorem met_X11_changeOnce (l : Launch) (v0 : Option Nat) : zMet l yX11_changeOnce cX11_changeOnce 3 (some .boolean) 6 163 [.inr (.inr v0)] zcI (p_X11_changeOnce v0) :=
  zMet.of (by decide +kernel) (Nat.le_of_ble_eq_true rfl) rfl (sim_X11_changeOnce l v0)
def p_X11_correct_c13 (r13 : Option Nat → Int32 → ZM Int32) (v0 : Option Nat) (v1 : Int32) : ZM Int32 :=
  if 20 ≤ v1 then (z_rt 20)
  else (z_b (z_vr 12 v0 (p_X11_proofread v0)) fun _ => z_b (z_vr 12 v0 (p_X11_changeOnce v0)) fun x1 => if ¬ x1 = 0 then (z_b (z_gR 12 7 v0) fun x2 => z_b (z_gR 12 5 v0) fun x3 => z_b (z_vr 2 x2 (p_X1_holds x2 x3)) fun x4 => if x4 = 0 then (z_b (z_gR 12 7 v0) fun x5 => z_b (z_gR 12 5 v0) fun x6 => z_b (z_vr 2 x5 (p_X1_keep x5 x6)) fun _ => z_n (v1 + 1 : Int32) fun y7 => r13 v0 y7)
  else (z_rt (-1)))
  else (z_rt v1))
def p_X11_correct_l13 : Nat → Option Nat → Int32 → ZM Int32
  | 0, _, _ => z_fl
  | n + 1, v0, v1 => p_X11_correct_c13 (p_X11_correct_l13 n) v0 v1
def p_X11_correct (v0 : Option Nat) : ZM Int32 :=
  z_b (z_gR 12 7 v0) fun x8 => z_b (z_gR 12 5 v0) fun x9 => z_b (z_vr 2 x8 (p_X1_begin x8 x9)) fun _ => p_X11_correct_l13 zFuel v0 0
abbrev M_X11_correct (l : Launch) : ZMe := (l, "SpellScribe", cX11_correct, 2, 7, 185, (some .int), "correct", [])
set_option maxRecDepth 20000 in
theorem sim_X11_correct_c13 (l : Launch) (r13 : Option Nat → Int32 → ZM Int32) (hr13 : ∀ (v0 : Option Nat) (v1 : Int32), Sim (M_X11_correct l) (zFin zcI) 13 [(0, .inr (.inr v0)), (1, .inl v1)] [] (r13 v0 v1)) (v0 : Option Nat) (v1 : Int32) : Sim (M_X11_correct l) (zFin zcI) 13 [(0, .inr (.inr v0)), (1, .inl v1)] [] (p_X11_correct_c13 r13 v0 v1) := by
  unfold p_X11_correct_c13
  refine s_iloadn (j := 1) dX11_correct_13 rfl ?_
  refine s_bipush (v := 20) dX11_correct_14 (by decide) ?_
  refine s_icmp_ge (tgt := 65) dX11_correct_16 (by decide) ?_ ?_
  · refine s_bipush (v := 20) dX11_correct_65 (by decide) ?_
    exact s_iret dX11_correct_67 rfl
  · refine s_aloadn (j := 0) dX11_correct_19 rfl ?_
    refine s_cVV (rest := []) (met_X11_proofread l v0) cls_12 mth_X11_proofread rfl dX11_correct_20 w_358 w_360 wp_1 ⟨Nat.le_of_ble_eq_true rfl, Nat.le_of_ble_eq_true rfl⟩ (Nat.le_of_ble_eq_true rfl) rfl ?_
    refine s_aloadn (j := 0) dX11_correct_23 rfl ?_
    refine s_cVI (rest := []) (met_X11_changeOnce l v0) cls_12 mth_X11_changeOnce rfl dX11_correct_24 w_522 w_524 wp_14 ⟨Nat.le_of_ble_eq_true rfl, Nat.le_of_ble_eq_true rfl⟩ (Nat.le_of_ble_eq_true rfl) rfl (fun x1 => ?_)
    refine s_if_ne (tgt := 32) dX11_correct_27 (by decide) ?_ ?_
    · refine s_aloadn (j := 0) dX11_correct_32 rfl ?_
      refine s_getR (k := 7) cls_12 (by decide) rfl dX11_correct_33 w_286 rfl (fun x2 => ?_)
      refine s_aloadn (j := 0) dX11_correct_36 rfl ?_
      refine s_getR (k := 5) cls_12 (by decide) rfl dX11_correct_37 w_284 rfl (fun x3 => ?_)
      refine s_cVI (rest := []) (met_X1_holds l x2 x3) cls_2 mth_X1_holds rfl dX11_correct_40 w_667 w_668 w_669 ⟨Nat.le_of_ble_eq_true rfl, Nat.le_of_ble_eq_true rfl⟩ (Nat.le_of_ble_eq_true rfl) rfl (fun x4 => ?_)
      refine s_if_eq (tgt := 48) dX11_correct_43 (by decide) ?_ ?_
      · refine s_aloadn (j := 0) dX11_correct_48 rfl ?_
        refine s_getR (k := 7) cls_12 (by decide) rfl dX11_correct_49 w_286 rfl (fun x5 => ?_)
        refine s_aloadn (j := 0) dX11_correct_52 rfl ?_
        refine s_getR (k := 5) cls_12 (by decide) rfl dX11_correct_53 w_284 rfl (fun x6 => ?_)
        refine s_cVV (rest := []) (met_X1_keep l x5 x6) cls_2 mth_X1_keep rfl dX11_correct_56 w_676 w_339 w_340 ⟨Nat.le_of_ble_eq_true rfl, Nat.le_of_ble_eq_true rfl⟩ (Nat.le_of_ble_eq_true rfl) rfl ?_
        refine s_n0 (fun y7 hy7 => ?_)
        refine s_iinc (j := 1) (v := y7) (d := 1) (lv' := [(1, .inl y7), (0, .inr (.inr v0))]) dX11_correct_59 rfl (by decide) hy7 (Nat.le_of_ble_eq_true rfl) rfl ?_
        refine s_goto (tgt := 13) dX11_correct_62 (by decide) ?_
        exact Sim.sub [1, 0] rfl (hr13 v0 y7)
      · refine s_iconst (v := (-1)) dX11_correct_46 (by decide) ?_
        exact s_iret dX11_correct_47 rfl
    · refine s_iloadn (j := 1) dX11_correct_30 rfl ?_
      exact s_iret dX11_correct_31 rfl
theorem sim_X11_correct_l13 (l : Launch) : ∀ (n : Nat) (v0 : Option Nat) (v1 : Int32), Sim (M_X11_correct l) (zFin zcI) 13 [(0, .inr (.inr v0)), (1, .inl v1)] [] (p_X11_correct_l13 n v0 v1)
  | 0, _, _ => s_fl
  | n + 1, v0, v1 => sim_X11_correct_c13 l (p_X11_correct_l13 n) (sim_X11_correct_l13 l n) v0 v1
set_option maxRecDepth 20000 in
theorem sim_X11_correct (l : Launch) (v0 : Option Nat) : Sim (M_X11_correct l) (zFin zcI) 0 [(0, .inr (.inr v0))] [] (p_X11_correct v0) := by
  unfold p_X11_correct
  refine s_aloadn (j := 0) dX11_correct_0 rfl ?_
  refine s_getR (k := 7) cls_12 (by decide) rfl dX11_correct_1 w_286 rfl (fun x8 => ?_)
  refine s_aloadn (j := 0) dX11_correct_4 rfl ?_
  refine s_getR (k := 5) cls_12 (by decide) rfl dX11_correct_5 w_284 rfl (fun x9 => ?_)
  refine s_cVV (rest := []) (met_X1_begin l x8 x9) cls_2 mth_X1_begin rfl dX11_correct_8 w_334 w_335 w_336 ⟨Nat.le_of_ble_eq_true rfl, Nat.le_of_ble_eq_true rfl⟩ (Nat.le_of_ble_eq_true rfl) rfl ?_
  refine s_iconst (v := 0) dX11_correct_11 (by decide) ?_
  refine s_istoren (lv' := [(1, .inl 0), (0, .inr (.inr v0))]) dX11_correct_12 (Nat.le_of_ble_eq_true rfl) rfl ?_
  exact Sim.sub [1, 0] rfl (sim_X11_correct_l13 l zFuel v0 0)
theorem met_X11_correct (l : Launch) (v0 : Option Nat) : zMet l yX11_correct cX11_correct 2 (some .int) 7 185 [.inr (.inr v0)] zcI (p_X11_correct v0) :=
  zMet.of (by decide +kernel) (Nat.le_of_ble_eq_true rfl) rfl (sim_X11_correct l v0)
def p_X11_length (v0 : Option Nat) : ZM Int32 :=
  z_b (z_gR 12 5 v0) fun x1 => z_b (z_vr 10 x1 (p_X9_size x1)) fun x2 => z_rt x2
abbrev M_X11_length (l : Launch) : ZMe := (l, "SpellScribe", cX11_length, 1, 1, 20, (some .int), "length", [])
set_option maxRecDepth 20000 in
theorem sim_X11_length (l : Launch) (v0 : Option Nat) : Sim (M_X11_length l) (zFin zcI) 0 [(0, .inr (.inr v0))] [] (p_X11_length v0) := by
  unfold p_X11_length
  refine s_aloadn (j := 0) dX11_length_0 rfl ?_
  refine s_getR (k := 5) cls_12 (by decide) rfl dX11_length_1 w_284 rfl (fun x1 => ?_)
  refine s_cVI (rest := []) (met_X9_size l x1) cls_10 mth_X9_size rfl dX11_length_4 w_613 w_343 w_344 ⟨Nat.le_of_ble_eq_true rfl, Nat.le_of_ble_eq_true rfl⟩ (Nat.le_of_ble_eq_true rfl) rfl (fun x2 => ?_)
  exact s_iret dX11_length_7 rfl
theorem met_X11_length (l : Launch) (v0 : Option Nat) : zMet l yX11_length cX11_length 1 (some .int) 1 20 [.inr (.inr v0)] zcI (p_X11_length v0) :=
  zMet.of (by decide +kernel) (Nat.le_of_ble_eq_true rfl) rfl (sim_X11_length l v0)
def p_X11_signAt (v0 : Option Nat) (v1 : Int32) : ZM (Int32 ⊕ Nat) :=
  z_b (z_gR 12 5 v0) fun x1 => z_b (z_vr 10 x1 (p_X9_size x1)) fun x2 => z_b (p_X11_isIn v1 0 (x2 - 1)) fun x3 => if ¬ x3 = 0 then (z_b (z_gR 12 5 v0) fun x4 => z_b (z_vr 10 x4 (p_X9_signOn x4 v1)) fun x5 => z_xrc x5)
  else (z_th 2)
abbrev M_X11_signAt (l : Launch) : ZMe := (l, "SpellScribe", cX11_signAt, 2, 8, 120, (some .char), "signAt", [])
set_option maxRecDepth 20000 in
theorem sim_X11_signAt (l : Launch) (hfl : l.stackTraces = false) (v0 : Option Nat) (v1 : Int32) : Sim (M_X11_signAt l) (zFinX zcI) 0 [(0, .inr (.inr v0)), (1, .inl v1)] [] (p_X11_signAt v0 v1) := by
  unfold p_X11_signAt
  refine s_iloadn (j := 1) dX11_signAt_0 rfl ?_
  refine s_iconst (v := 0) dX11_signAt_1 (by decide) ?_
  refine s_aloadn (j := 0) dX11_signAt_2 rfl ?_
  refine s_getR (k := 5) cls_12 (by decide) rfl dX11_signAt_3 w_284 rfl (fun x1 => ?_)
  refine s_cVI (rest := [.inl 0, .inl v1]) (met_X9_size l x1) cls_10 mth_X9_size rfl dX11_signAt_6 w_613 w_343 w_344 ⟨Nat.le_of_ble_eq_true rfl, Nat.le_of_ble_eq_true rfl⟩ (Nat.le_of_ble_eq_true rfl) rfl (fun x2 => ?_)
  refine s_iconst (v := 1) dX11_signAt_9 (by decide) ?_
  refine s_isub dX11_signAt_10 ?_
  refine s_cSI (rest := []) (met_X11_isIn l v1 0 (x2 - 1)) mth_X11_isIn rfl dX11_signAt_11 w_504 w_505 ⟨Nat.le_of_ble_eq_true rfl, Nat.le_of_ble_eq_true rfl⟩ (Nat.le_of_ble_eq_true rfl) rfl (fun x3 => ?_)
  refine s_if_ne (tgt := 28) dX11_signAt_14 (by decide) ?_ ?_
  · refine s_aloadn (j := 0) dX11_signAt_28 rfl ?_
    refine s_getR (k := 5) cls_12 (by decide) rfl dX11_signAt_29 w_284 rfl (fun x4 => ?_)
    refine s_iloadn (j := 1) dX11_signAt_32 rfl ?_
    refine s_cVI (rest := []) (met_X9_signOn l x4 v1) cls_10 mth_X9_signOn rfl dX11_signAt_33 w_1226 w_351 w_352 ⟨Nat.le_of_ble_eq_true rfl, Nat.le_of_ble_eq_true rfl⟩ (Nat.le_of_ble_eq_true rfl) rfl (fun x5 => ?_)
    exact s_xcret dX11_signAt_36 rfl
  · exact s_throwW (n := 2) (text := "there is no such place") zthw_2 hfl rfl (by decide +kernel) rfl dX11_signAt_17 dX11_signAt_20 dX11_signAt_21 dX11_signAt_24 dX11_signAt_27 (Nat.le_of_ble_eq_true rfl) (Nat.le_of_ble_eq_true rfl)
theorem met_X11_signAt (l : Launch) (hfl : l.stackTraces = false) (v0 : Option Nat) (v1 : Int32) : zMetX l yX11_signAt cX11_signAt 2 (some .char) 8 120 [.inr (.inr v0), .inl v1] zcI (p_X11_signAt v0 v1) :=
  zMetX.of (by decide +kernel) (Nat.le_of_ble_eq_true rfl) rfl (sim_X11_signAt l hfl v0 v1)
def p_X11_words (v0 : Option Nat) : ZM Int32 :=
  z_b (z_gR 12 5 v0) fun x1 => z_b (z_vr 10 x1 (p_X9_wordCount x1)) fun x2 => z_rt x2
abbrev M_X11_words (l : Launch) : ZMe := (l, "SpellScribe", cX11_words, 1, 1, 20, (some .int), "words", [])
set_option maxRecDepth 20000 in
theorem sim_X11_words (l : Launch) (v0 : Option Nat) : Sim (M_X11_words l) (zFin zcI) 0 [(0, .inr (.inr v0))] [] (p_X11_words v0) := by
  unfold p_X11_words
  refine s_aloadn (j := 0) dX11_words_0 rfl ?_
  refine s_getR (k := 5) cls_12 (by decide) rfl dX11_words_1 w_284 rfl (fun x1 => ?_)
  refine s_cVI (rest := []) (met_X9_wordCount l x1) cls_10 mth_X9_wordCount rfl dX11_words_4 w_362 w_363 w_364 ⟨Nat.le_of_ble_eq_true rfl, Nat.le_of_ble_eq_true rfl⟩ (Nat.le_of_ble_eq_true rfl) rfl (fun x2 => ?_)
  exact s_iret dX11_words_7 rfl
theorem met_X11_words (l : Launch) (v0 : Option Nat) : zMet l yX11_words cX11_words 1 (some .int) 1 20 [.inr (.inr v0)] zcI (p_X11_words v0) :=
  zMet.of (by decide +kernel) (Nat.le_of_ble_eq_true rfl) rfl (sim_X11_words l v0)
def p_X11_wordAt (v0 : Option Nat) (v1 : Int32) : ZM (Int32 ⊕ Nat) :=
  z_b (z_vr 12 v0 (p_X11_hasWord v0 v1)) fun x1 => if ¬ x1 = 0 then (z_b (z_gR 12 5 v0) fun x2 => z_b (z_vr 10 x2 (p_X9_wordStart x2 v1)) fun x3 => z_xrt x3)
  else (z_th 2)
abbrev M_X11_wordAt (l : Launch) : ZMe := (l, "SpellScribe", cX11_wordAt, 2, 8, 120, (some .int), "wordAt", [])
set_option maxRecDepth 20000 in
theorem sim_X11_wordAt (l : Launch) (hfl : l.stackTraces = false) (v0 : Option Nat) (v1 : Int32) : Sim (M_X11_wordAt l) (zFinX zcI) 0 [(0, .inr (.inr v0)), (1, .inl v1)] [] (p_X11_wordAt v0 v1) := by
  unfold p_X11_wordAt
  refine s_aloadn (j := 0) dX11_wordAt_0 rfl ?_
  refine s_iloadn (j := 1) dX11_wordAt_1 rfl ?_
  refine s_cVI (rest := []) (met_X11_hasWord l v0 v1) cls_12 mth_X11_hasWord rfl dX11_wordAt_2 w_1125 w_1127 wp_35 ⟨Nat.le_of_ble_eq_true rfl, Nat.le_of_ble_eq_true rfl⟩ (Nat.le_of_ble_eq_true rfl) rfl (fun x1 => ?_)
  refine s_if_ne (tgt := 18) dX11_wordAt_5 (by decide) ?_ ?_
  · refine s_aloadn (j := 0) dX11_wordAt_18 rfl ?_
    refine s_getR (k := 5) cls_12 (by decide) rfl dX11_wordAt_19 w_284 rfl (fun x2 => ?_)
    refine s_iloadn (j := 1) dX11_wordAt_22 rfl ?_
    refine s_cVI (rest := []) (met_X9_wordStart l x2 v1) cls_10 mth_X9_wordStart rfl dX11_wordAt_23 w_1234 w_620 w_621 ⟨Nat.le_of_ble_eq_true rfl, Nat.le_of_ble_eq_true rfl⟩ (Nat.le_of_ble_eq_true rfl) rfl (fun x3 => ?_)
    exact s_xiret dX11_wordAt_26 rfl
  · exact s_throw (n := 2) (text := "there is no such word") zthw_2 hfl rfl (by decide +kernel) rfl dX11_wordAt_8 dX11_wordAt_11 dX11_wordAt_12 dX11_wordAt_14 dX11_wordAt_17 (Nat.le_of_ble_eq_true rfl) (Nat.le_of_ble_eq_true rfl)
theorem met_X11_wordAt (l : Launch) (hfl : l.stackTraces = false) (v0 : Option Nat) (v1 : Int32) : zMetX l yX11_wordAt cX11_wordAt 2 (some .int) 8 120 [.inr (.inr v0), .inl v1] zcI (p_X11_wordAt v0 v1) :=
  zMetX.of (by decide +kernel) (Nat.le_of_ble_eq_true rfl) rfl (sim_X11_wordAt l hfl v0 v1)
def p_X11_isRight (v0 : Option Nat) (v1 : Int32) : ZM (Int32 ⊕ Nat) :=
  z_b (z_vr 12 v0 (p_X11_hasWord v0 v1)) fun x1 => if ¬ x1 = 0 then (z_b (z_vr 12 v0 (p_X11_proofread v0)) fun _ => z_b (z_gR 12 8 v0) fun x2 => z_b (z_vr 4 x2 (p_X3_isSpelledRight x2 v1)) fun x3 => z_xrz x3)
  else (z_th 2)
abbrev M_X11_isRight (l : Launch) : ZMe := (l, "SpellScribe", cX11_isRight, 2, 8, 170, (some .boolean), "isRight", [])
set_option maxRecDepth 20000 in
theorem sim_X11_isRight (l : Launch) (hfl : l.stackTraces = false) (v0 : Option Nat) (v1 : Int32) : Sim (M_X11_isRight l) (zFinX zcI) 0 [(0, .inr (.inr v0)), (1, .inl v1)] [] (p_X11_isRight v0 v1) := by
  unfold p_X11_isRight
  refine s_aloadn (j := 0) dX11_isRight_0 rfl ?_
  refine s_iloadn (j := 1) dX11_isRight_1 rfl ?_
  refine s_cVI (rest := []) (met_X11_hasWord l v0 v1) cls_12 mth_X11_hasWord rfl dX11_isRight_2 w_1125 w_1127 wp_35 ⟨Nat.le_of_ble_eq_true rfl, Nat.le_of_ble_eq_true rfl⟩ (Nat.le_of_ble_eq_true rfl) rfl (fun x1 => ?_)
  refine s_if_ne (tgt := 18) dX11_isRight_5 (by decide) ?_ ?_
  · refine s_aloadn (j := 0) dX11_isRight_18 rfl ?_
    refine s_cVV (rest := []) (met_X11_proofread l v0) cls_12 mth_X11_proofread rfl dX11_isRight_19 w_358 w_360 wp_1 ⟨Nat.le_of_ble_eq_true rfl, Nat.le_of_ble_eq_true rfl⟩ (Nat.le_of_ble_eq_true rfl) rfl ?_
    refine s_aloadn (j := 0) dX11_isRight_22 rfl ?_
    refine s_getR (k := 8) cls_12 (by decide) rfl dX11_isRight_23 w_287 rfl (fun x2 => ?_)
    refine s_iloadn (j := 1) dX11_isRight_26 rfl ?_
    refine s_cVI (rest := []) (met_X3_isSpelledRight l x2 v1) cls_4 mth_X3_isSpelledRight rfl dX11_isRight_27 w_526 w_515 w_516 ⟨Nat.le_of_ble_eq_true rfl, Nat.le_of_ble_eq_true rfl⟩ (Nat.le_of_ble_eq_true rfl) rfl (fun x3 => ?_)
    exact s_xzret dX11_isRight_30 rfl
  · exact s_throw (n := 2) (text := "there is no such word") zthw_2 hfl rfl (by decide +kernel) rfl dX11_isRight_8 dX11_isRight_11 dX11_isRight_12 dX11_isRight_14 dX11_isRight_17 (Nat.le_of_ble_eq_true rfl) (Nat.le_of_ble_eq_true rfl)
theorem met_X11_isRight (l : Launch) (hfl : l.stackTraces = false) (v0 : Option Nat) (v1 : Int32) : zMetX l yX11_isRight cX11_isRight 2 (some .boolean) 8 170 [.inr (.inr v0), .inl v1] zcI (p_X11_isRight v0 v1) :=
  zMetX.of (by decide +kernel) (Nat.le_of_ble_eq_true rfl) rfl (sim_X11_isRight l hfl v0 v1)
def p_X11_readings (v0 : Option Nat) (v1 : Int32) : ZM (Int32 ⊕ Nat) :=
  z_b (z_vr 12 v0 (p_X11_hasWord v0 v1)) fun x1 => if ¬ x1 = 0 then (z_b (z_vr 12 v0 (p_X11_proofread v0)) fun _ => z_b (z_gR 12 8 v0) fun x2 => z_b (z_vr 4 x2 (p_X3_readingSet x2 v1)) fun x3 => z_xrt x3)
  else (z_th 2)
abbrev M_X11_readings (l : Launch) : ZMe := (l, "SpellScribe", cX11_readings, 2, 8, 170, (some .int), "readings", [])
set_option maxRecDepth 20000 in
theorem sim_X11_readings (l : Launch) (hfl : l.stackTraces = false) (v0 : Option Nat) (v1 : Int32) : Sim (M_X11_readings l) (zFinX zcI) 0 [(0, .inr (.inr v0)), (1, .inl v1)] [] (p_X11_readings v0 v1) := by
  unfold p_X11_readings
  refine s_aloadn (j := 0) dX11_readings_0 rfl ?_
  refine s_iloadn (j := 1) dX11_readings_1 rfl ?_
  refine s_cVI (rest := []) (met_X11_hasWord l v0 v1) cls_12 mth_X11_hasWord rfl dX11_readings_2 w_1125 w_1127 wp_35 ⟨Nat.le_of_ble_eq_true rfl, Nat.le_of_ble_eq_true rfl⟩ (Nat.le_of_ble_eq_true rfl) rfl (fun x1 => ?_)
  refine s_if_ne (tgt := 18) dX11_readings_5 (by decide) ?_ ?_
  · refine s_aloadn (j := 0) dX11_readings_18 rfl ?_
    refine s_cVV (rest := []) (met_X11_proofread l v0) cls_12 mth_X11_proofread rfl dX11_readings_19 w_358 w_360 wp_1 ⟨Nat.le_of_ble_eq_true rfl, Nat.le_of_ble_eq_true rfl⟩ (Nat.le_of_ble_eq_true rfl) rfl ?_
    refine s_aloadn (j := 0) dX11_readings_22 rfl ?_
    refine s_getR (k := 8) cls_12 (by decide) rfl dX11_readings_23 w_287 rfl (fun x2 => ?_)
    refine s_iloadn (j := 1) dX11_readings_26 rfl ?_
    refine s_cVI (rest := []) (met_X3_readingSet l x2 v1) cls_4 mth_X3_readingSet rfl dX11_readings_27 w_1249 w_1250 w_1251 ⟨Nat.le_of_ble_eq_true rfl, Nat.le_of_ble_eq_true rfl⟩ (Nat.le_of_ble_eq_true rfl) rfl (fun x3 => ?_)
    exact s_xiret dX11_readings_30 rfl
  · exact s_throw (n := 2) (text := "there is no such word") zthw_2 hfl rfl (by decide +kernel) rfl dX11_readings_8 dX11_readings_11 dX11_readings_12 dX11_readings_14 dX11_readings_17 (Nat.le_of_ble_eq_true rfl) (Nat.le_of_ble_eq_true rfl)
theorem met_X11_readings (l : Launch) (hfl : l.stackTraces = false) (v0 : Option Nat) (v1 : Int32) : zMetX l yX11_readings cX11_readings 2 (some .int) 8 170 [.inr (.inr v0), .inl v1] zcI (p_X11_readings v0 v1) :=
  zMetX.of (by decide +kernel) (Nat.le_of_ble_eq_true rfl) rfl (sim_X11_readings l hfl v0 v1)
def p_X11_reading (v0 : Option Nat) (v1 : Int32) : ZM (Int32 ⊕ Nat) :=
  z_b (z_vr 12 v0 (p_X11_hasWord v0 v1)) fun x1 => if ¬ x1 = 0 then (z_b (z_vr 12 v0 (p_X11_proofread v0)) fun _ => z_b (z_gR 12 8 v0) fun x2 => z_b (z_vr 4 x2 (p_X3_chosenReading x2 v1)) fun x3 => z_xrt x3)
  else (z_th 2)
abbrev M_X11_reading (l : Launch) : ZMe := (l, "SpellScribe", cX11_reading, 2, 8, 170, (some .int), "reading", [])
set_option maxRecDepth 20000 in
theorem sim_X11_reading (l : Launch) (hfl : l.stackTraces = false) (v0 : Option Nat) (v1 : Int32) : Sim (M_X11_reading l) (zFinX zcI) 0 [(0, .inr (.inr v0)), (1, .inl v1)] [] (p_X11_reading v0 v1) := by
  unfold p_X11_reading
  refine s_aloadn (j := 0) dX11_reading_0 rfl ?_
  refine s_iloadn (j := 1) dX11_reading_1 rfl ?_
  refine s_cVI (rest := []) (met_X11_hasWord l v0 v1) cls_12 mth_X11_hasWord rfl dX11_reading_2 w_1125 w_1127 wp_35 ⟨Nat.le_of_ble_eq_true rfl, Nat.le_of_ble_eq_true rfl⟩ (Nat.le_of_ble_eq_true rfl) rfl (fun x1 => ?_)
  refine s_if_ne (tgt := 18) dX11_reading_5 (by decide) ?_ ?_
  · refine s_aloadn (j := 0) dX11_reading_18 rfl ?_
    refine s_cVV (rest := []) (met_X11_proofread l v0) cls_12 mth_X11_proofread rfl dX11_reading_19 w_358 w_360 wp_1 ⟨Nat.le_of_ble_eq_true rfl, Nat.le_of_ble_eq_true rfl⟩ (Nat.le_of_ble_eq_true rfl) rfl ?_
    refine s_aloadn (j := 0) dX11_reading_22 rfl ?_
    refine s_getR (k := 8) cls_12 (by decide) rfl dX11_reading_23 w_287 rfl (fun x2 => ?_)
    refine s_iloadn (j := 1) dX11_reading_26 rfl ?_
    refine s_cVI (rest := []) (met_X3_chosenReading l x2 v1) cls_4 mth_X3_chosenReading rfl dX11_reading_27 w_1260 w_1261 w_1262 ⟨Nat.le_of_ble_eq_true rfl, Nat.le_of_ble_eq_true rfl⟩ (Nat.le_of_ble_eq_true rfl) rfl (fun x3 => ?_)
    exact s_xiret dX11_reading_30 rfl
  · exact s_throw (n := 2) (text := "there is no such word") zthw_2 hfl rfl (by decide +kernel) rfl dX11_reading_8 dX11_reading_11 dX11_reading_12 dX11_reading_14 dX11_reading_17 (Nat.le_of_ble_eq_true rfl) (Nat.le_of_ble_eq_true rfl)
theorem met_X11_reading (l : Launch) (hfl : l.stackTraces = false) (v0 : Option Nat) (v1 : Int32) : zMetX l yX11_reading cX11_reading 2 (some .int) 8 170 [.inr (.inr v0), .inl v1] zcI (p_X11_reading v0 v1) :=
  zMetX.of (by decide +kernel) (Nat.le_of_ble_eq_true rfl) rfl (sim_X11_reading l hfl v0 v1)
def p_X11_isRightPart (v0 : Option Nat) (v1 : Int32) (v2 : Int32) (v3 : Int32) : ZM Int32 :=
  z_b (z_gR 12 0 v0) fun x1 => z_b (z_gR 12 5 v0) fun x2 => z_b (z_vr 10 x2 (p_X9_partOfWord x2 v1 v2 v3)) fun x3 => z_b (z_vr 3 x1 (p_X2_readingsOf x1 x3)) fun x4 => if x4 = 0 then (z_rz 0)
  else (z_rz 1)
abbrev M_X11_isRightPart (l : Launch) : ZMe := (l, "SpellScribe", cX11_isRightPart, 4, 6, 137, (some .boolean), "isRightPart", [])
set_option maxRecDepth 20000 in
theorem sim_X11_isRightPart (l : Launch) (v0 : Option Nat) (v1 : Int32) (v2 : Int32) (v3 : Int32) : Sim (M_X11_isRightPart l) (zFin zcI) 0 [(0, .inr (.inr v0)), (1, .inl v1), (2, .inl v2), (3, .inl v3)] [] (p_X11_isRightPart v0 v1 v2 v3) := by
  unfold p_X11_isRightPart
  refine s_aloadn (j := 0) dX11_isRightPart_0 rfl ?_
  refine s_getR (k := 0) cls_12 (by decide) rfl dX11_isRightPart_1 w_279 rfl (fun x1 => ?_)
  refine s_aloadn (j := 0) dX11_isRightPart_4 rfl ?_
  refine s_getR (k := 5) cls_12 (by decide) rfl dX11_isRightPart_5 w_284 rfl (fun x2 => ?_)
  refine s_iloadn (j := 1) dX11_isRightPart_8 rfl ?_
  refine s_iloadn (j := 2) dX11_isRightPart_9 rfl ?_
  refine s_iloadn (j := 3) dX11_isRightPart_10 rfl ?_
  refine s_cVI (rest := [.inr (.inr x1)]) (met_X9_partOfWord l x2 v1 v2 v3) cls_10 mth_X9_partOfWord rfl dX11_isRightPart_11 w_1275 w_1276 w_1277 ⟨Nat.le_of_ble_eq_true rfl, Nat.le_of_ble_eq_true rfl⟩ (Nat.le_of_ble_eq_true rfl) rfl (fun x3 => ?_)
  refine s_cVI (rest := []) (met_X2_readingsOf l x1 x3) cls_3 mth_X2_readingsOf rfl dX11_isRightPart_14 w_370 w_371 w_372 ⟨Nat.le_of_ble_eq_true rfl, Nat.le_of_ble_eq_true rfl⟩ (Nat.le_of_ble_eq_true rfl) rfl (fun x4 => ?_)
  refine s_if_eq (tgt := 24) dX11_isRightPart_17 (by decide) ?_ ?_
  · refine s_iconst (v := 0) dX11_isRightPart_24 (by decide) ?_
    exact s_zret dX11_isRightPart_25 rfl
  · refine s_iconst (v := 1) dX11_isRightPart_20 (by decide) ?_
    refine s_goto (tgt := 25) dX11_isRightPart_21 (by decide) ?_
    exact s_zret dX11_isRightPart_25 rfl
theorem met_X11_isRightPart (l : Launch) (v0 : Option Nat) (v1 : Int32) (v2 : Int32) (v3 : Int32) : zMet l yX11_isRightPart cX11_isRightPart 4 (some .boolean) 6 137 [.inr (.inr v0), .inl v1, .inl v2, .inl v3] zcI (p_X11_isRightPart v0 v1 v2 v3) :=
  zMet.of (by decide +kernel) (Nat.le_of_ble_eq_true rfl) rfl (sim_X11_isRightPart l v0 v1 v2 v3)
def p_X11_split_b56 (r29 : Option Nat → Int32 → Int32 → Int32 → ZM (Int32 ⊕ Nat)) (v0 : Option Nat) (v1 : Int32) (v2 : Int32) (v3 : Int32) : ZM (Int32 ⊕ Nat) :=
  z_n (v3 + 1 : Int32) fun y1 => r29 v0 v1 v2 y1
def p_X11_split_c29 (r29 : Option Nat → Int32 → Int32 → Int32 → ZM (Int32 ⊕ Nat)) (v0 : Option Nat) (v1 : Int32) (v2 : Int32) (v3 : Int32) : ZM (Int32 ⊕ Nat) :=
  if v2 ≤ v3 then (z_xrt (-1))
  else (z_b (z_vr 12 v0 (p_X11_isRightPart v0 v1 0 v3)) fun x2 => if x2 = 0 then (p_X11_split_b56 r29 v0 v1 v2 v3)
  else (z_b (z_vr 12 v0 (p_X11_isRightPart v0 v1 v3 v2)) fun x3 => if x3 = 0 then (p_X11_split_b56 r29 v0 v1 v2 v3)
  else (z_xrt v3)))
def p_X11_split_l29 : Nat → Option Nat → Int32 → Int32 → Int32 → ZM (Int32 ⊕ Nat)
  | 0, _, _, _, _ => z_fl
  | n + 1, v0, v1, v2, v3 => p_X11_split_c29 (p_X11_split_l29 n) v0 v1 v2 v3
def p_X11_split (v0 : Option Nat) (v1 : Int32) : ZM (Int32 ⊕ Nat) :=
  z_b (z_vr 12 v0 (p_X11_hasWord v0 v1)) fun x4 => if ¬ x4 = 0 then (z_b (z_gR 12 5 v0) fun x5 => z_b (z_vr 10 x5 (p_X9_wordSize x5 v1)) fun x6 => p_X11_split_l29 zFuel v0 v1 x6 1)
  else (z_th 2)
abbrev M_X11_split (l : Launch) : ZMe := (l, "SpellScribe", cX11_split, 4, 8, 160, (some .int), "split", [])
set_option maxRecDepth 20000 in
theorem sim_X11_split_b56 (l : Launch) (hfl : l.stackTraces = false) (r29 : Option Nat → Int32 → Int32 → Int32 → ZM (Int32 ⊕ Nat)) (hr29 : ∀ (v0 : Option Nat) (v1 : Int32) (v2 : Int32) (v3 : Int32), Sim (M_X11_split l) (zFinX zcI) 29 [(0, .inr (.inr v0)), (1, .inl v1), (2, .inl v2), (3, .inl v3)] [] (r29 v0 v1 v2 v3)) (v0 : Option Nat) (v1 : Int32) (v2 : Int32) (v3 : Int32) : Sim (M_X11_split l) (zFinX zcI) 56 [(0, .inr (.inr v0)), (1, .inl v1), (2, .inl v2), (3, .inl v3)] [] (p_X11_split_b56 r29 v0 v1 v2 v3) := by
  unfold p_X11_split_b56
  refine s_n0 (fun y1 hy1 => ?_)
  refine s_iinc (j := 3) (v := y1) (d := 1) (lv' := [(3, .inl y1), (0, .inr (.inr v0)), (1, .inl v1), (2, .inl v2)]) dX11_split_56 rfl (by decide) hy1 (Nat.le_of_ble_eq_true rfl) rfl ?_
  refine s_goto (tgt := 29) dX11_split_59 (by decide) ?_
  exact Sim.sub [1, 2, 3, 0] rfl (hr29 v0 v1 v2 y1)
set_option maxRecDepth 20000 in
theorem sim_X11_split_c29 (l : Launch) (hfl : l.stackTraces = false) (r29 : Option Nat → Int32 → Int32 → Int32 → ZM (Int32 ⊕ Nat)) (hr29 : ∀ (v0 : Option Nat) (v1 : Int32) (v2 : Int32) (v3 : Int32), Sim (M_X11_split l) (zFinX zcI) 29 [(0, .inr (.inr v0)), (1, .inl v1), (2, .inl v2), (3, .inl v3)] [] (r29 v0 v1 v2 v3)) (v0 : Option Nat) (v1 : Int32) (v2 : Int32) (v3 : Int32) : Sim (M_X11_split l) (zFinX zcI) 29 [(0, .inr (.inr v0)), (1, .inl v1), (2, .inl v2), (3, .inl v3)] [] (p_X11_split_c29 r29 v0 v1 v2 v3) := by
  unfold p_X11_split_c29
  refine s_iloadn (j := 3) dX11_split_29 rfl ?_
  refine s_iloadn (j := 2) dX11_split_30 rfl ?_
  refine s_icmp_ge (tgt := 62) dX11_split_31 (by decide) ?_ ?_
  · refine s_iconst (v := (-1)) dX11_split_62 (by decide) ?_
    exact s_xiret dX11_split_63 rfl
  · refine s_aloadn (j := 0) dX11_split_34 rfl ?_
    refine s_iloadn (j := 1) dX11_split_35 rfl ?_
    refine s_iconst (v := 0) dX11_split_36 (by decide) ?_
    refine s_iloadn (j := 3) dX11_split_37 rfl ?_
    refine s_cVI (rest := []) (met_X11_isRightPart l v0 v1 0 v3) cls_12 mth_X11_isRightPart rfl dX11_split_38 w_1271 w_1273 wp_39 ⟨Nat.le_of_ble_eq_true rfl, Nat.le_of_ble_eq_true rfl⟩ (Nat.le_of_ble_eq_true rfl) rfl (fun x2 => ?_)
    refine s_if_eq (tgt := 56) dX11_split_41 (by decide) ?_ ?_
    · exact Sim.sub [0, 1, 2, 3] rfl (sim_X11_split_b56 l hfl r29 hr29 v0 v1 v2 v3)
    · refine s_aloadn (j := 0) dX11_split_44 rfl ?_
      refine s_iloadn (j := 1) dX11_split_45 rfl ?_
      refine s_iloadn (j := 3) dX11_split_46 rfl ?_
      refine s_iloadn (j := 2) dX11_split_47 rfl ?_
      refine s_cVI (rest := []) (met_X11_isRightPart l v0 v1 v3 v2) cls_12 mth_X11_isRightPart rfl dX11_split_48 w_1271 w_1273 wp_39 ⟨Nat.le_of_ble_eq_true rfl, Nat.le_of_ble_eq_true rfl⟩ (Nat.le_of_ble_eq_true rfl) rfl (fun x3 => ?_)
      refine s_if_eq (tgt := 56) dX11_split_51 (by decide) ?_ ?_
      · exact Sim.sub [0, 1, 2, 3] rfl (sim_X11_split_b56 l hfl r29 hr29 v0 v1 v2 v3)
      · refine s_iloadn (j := 3) dX11_split_54 rfl ?_
        exact s_xiret dX11_split_55 rfl
theorem sim_X11_split_l29 (l : Launch) (hfl : l.stackTraces = false) : ∀ (n : Nat) (v0 : Option Nat) (v1 : Int32) (v2 : Int32) (v3 : Int32), Sim (M_X11_split l) (zFinX zcI) 29 [(0, .inr (.inr v0)), (1, .inl v1), (2, .inl v2), (3, .inl v3)] [] (p_X11_split_l29 n v0 v1 v2 v3)
  | 0, _, _, _, _ => s_fl
  | n + 1, v0, v1, v2, v3 => sim_X11_split_c29 l hfl (p_X11_split_l29 n) (sim_X11_split_l29 l hfl n) v0 v1 v2 v3
set_option maxRecDepth 20000 in
theorem sim_X11_split (l : Launch) (hfl : l.stackTraces = false) (v0 : Option Nat) (v1 : Int32) : Sim (M_X11_split l) (zFinX zcI) 0 [(0, .inr (.inr v0)), (1, .inl v1)] [] (p_X11_split v0 v1) := by
  unfold p_X11_split
  refine s_aloadn (j := 0) dX11_split_0 rfl ?_
  refine s_iloadn (j := 1) dX11_split_1 rfl ?_
  refine s_cVI (rest := []) (met_X11_hasWord l v0 v1) cls_12 mth_X11_hasWord rfl dX11_split_2 w_1125 w_1127 wp_35 ⟨Nat.le_of_ble_eq_true rfl, Nat.le_of_ble_eq_true rfl⟩ (Nat.le_of_ble_eq_true rfl) rfl (fun x4 => ?_)
  refine s_if_ne (tgt := 18) dX11_split_5 (by decide) ?_ ?_
  · refine s_aloadn (j := 0) dX11_split_18 rfl ?_
    refine s_getR (k := 5) cls_12 (by decide) rfl dX11_split_19 w_284 rfl (fun x5 => ?_)
    refine s_iloadn (j := 1) dX11_split_22 rfl ?_
    refine s_cVI (rest := []) (met_X9_wordSize l x5 v1) cls_10 mth_X9_wordSize rfl dX11_split_23 w_614 w_540 w_541 ⟨Nat.le_of_ble_eq_true rfl, Nat.le_of_ble_eq_true rfl⟩ (Nat.le_of_ble_eq_true rfl) rfl (fun x6 => ?_)
    refine s_istoren (lv' := [(2, .inl x6), (0, .inr (.inr v0)), (1, .inl v1)]) dX11_split_26 (Nat.le_of_ble_eq_true rfl) rfl ?_
    refine s_iconst (v := 1) dX11_split_27 (by decide) ?_
    refine s_istoren (lv' := [(3, .inl 1), (2, .inl x6), (0, .inr (.inr v0)), (1, .inl v1)]) dX11_split_28 (Nat.le_of_ble_eq_true rfl) rfl ?_
    exact Sim.sub [2, 3, 1, 0] rfl (sim_X11_split_l29 l hfl zFuel v0 v1 x6 1)
  · exact s_throw (n := 2) (text := "there is no such word") zthw_2 hfl rfl (by decide +kernel) rfl dX11_split_8 dX11_split_11 dX11_split_12 dX11_split_14 dX11_split_17 (Nat.le_of_ble_eq_true rfl) (Nat.le_of_ble_eq_true rfl)
theorem met_X11_split (l : Launch) (hfl : l.stackTraces = false) (v0 : Option Nat) (v1 : Int32) : zMetX l yX11_split cX11_split 4 (some .int) 8 160 [.inr (.inr v0), .inl v1] zcI (p_X11_split v0 v1) :=
  zMetX.of (by decide +kernel) (Nat.le_of_ble_eq_true rfl) rfl (sim_X11_split l hfl v0 v1)
def p_X11_mistakes (v0 : Option Nat) : ZM Int32 :=
  z_b (z_vr 12 v0 (p_X11_proofread v0)) fun _ => z_b (z_gR 12 8 v0) fun x1 => z_b (z_vr 4 x1 (p_X3_mistakeCount x1)) fun x2 => z_rt x2
abbrev M_X11_mistakes (l : Launch) : ZMe := (l, "SpellScribe", cX11_mistakes, 1, 7, 170, (some .int), "mistakes", [])
set_option maxRecDepth 20000 in
theorem sim_X11_mistakes (l : Launch) (v0 : Option Nat) : Sim (M_X11_mistakes l) (zFin zcI) 0 [(0, .inr (.inr v0))] [] (p_X11_mistakes v0) := by
  unfold p_X11_mistakes
  refine s_aloadn (j := 0) dX11_mistakes_0 rfl ?_
  refine s_cVV (rest := []) (met_X11_proofread l v0) cls_12 mth_X11_proofread rfl dX11_mistakes_1 w_358 w_360 wp_1 ⟨Nat.le_of_ble_eq_true rfl, Nat.le_of_ble_eq_true rfl⟩ (Nat.le_of_ble_eq_true rfl) rfl ?_
  refine s_aloadn (j := 0) dX11_mistakes_4 rfl ?_
  refine s_getR (k := 8) cls_12 (by decide) rfl dX11_mistakes_5 w_287 rfl (fun x1 => ?_)
  refine s_cVI (rest := []) (met_X3_mistakeCount l x1) cls_4 mth_X3_mistakeCount rfl dX11_mistakes_8 w_689 w_690 w_691 ⟨Nat.le_of_ble_eq_true rfl, Nat.le_of_ble_eq_true rfl⟩ (Nat.le_of_ble_eq_true rfl) rfl (fun x2 => ?_)
  exact s_iret dX11_mistakes_11 rfl
theorem met_X11_mistakes (l : Launch) (v0 : Option Nat) : zMet l yX11_mistakes cX11_mistakes 1 (some .int) 7 170 [.inr (.inr v0)] zcI (p_X11_mistakes v0) :=
  zMet.of (by decide +kernel) (Nat.le_of_ble_eq_true rfl) rfl (sim_X11_mistakes l v0)
def p_X11_mistakeKind (v0 : Option Nat) (v1 : Int32) : ZM (Int32 ⊕ Nat) :=
  z_b (z_vr 12 v0 (p_X11_proofread v0)) fun _ => z_b (z_gR 12 8 v0) fun x1 => z_b (z_vr 4 x1 (p_X3_mistakeCount x1)) fun x2 => z_b (p_X11_isIn v1 0 (x2 - 1)) fun x3 => if ¬ x3 = 0 then (z_b (z_gR 12 8 v0) fun x4 => z_b (z_vr 4 x4 (p_X3_kindOfMistake x4 v1)) fun x5 => z_xrt x5)
  else (z_th 2)
abbrev M_X11_mistakeKind (l : Launch) : ZMe := (l, "SpellScribe", cX11_mistakeKind, 2, 8, 170, (some .int), "mistakeKind", [])
set_option maxRecDepth 20000 in
theorem sim_X11_mistakeKind (l : Launch) (hfl : l.stackTraces = false) (v0 : Option Nat) (v1 : Int32) : Sim (M_X11_mistakeKind l) (zFinX zcI) 0 [(0, .inr (.inr v0)), (1, .inl v1)] [] (p_X11_mistakeKind v0 v1) := by
  unfold p_X11_mistakeKind
  refine s_aloadn (j := 0) dX11_mistakeKind_0 rfl ?_
  refine s_cVV (rest := []) (met_X11_proofread l v0) cls_12 mth_X11_proofread rfl dX11_mistakeKind_1 w_358 w_360 wp_1 ⟨Nat.le_of_ble_eq_true rfl, Nat.le_of_ble_eq_true rfl⟩ (Nat.le_of_ble_eq_true rfl) rfl ?_
  refine s_iloadn (j := 1) dX11_mistakeKind_4 rfl ?_
  refine s_iconst (v := 0) dX11_mistakeKind_5 (by decide) ?_
  refine s_aloadn (j := 0) dX11_mistakeKind_6 rfl ?_
  refine s_getR (k := 8) cls_12 (by decide) rfl dX11_mistakeKind_7 w_287 rfl (fun x1 => ?_)
  refine s_cVI (rest := [.inl 0, .inl v1]) (met_X3_mistakeCount l x1) cls_4 mth_X3_mistakeCount rfl dX11_mistakeKind_10 w_689 w_690 w_691 ⟨Nat.le_of_ble_eq_true rfl, Nat.le_of_ble_eq_true rfl⟩ (Nat.le_of_ble_eq_true rfl) rfl (fun x2 => ?_)
  refine s_iconst (v := 1) dX11_mistakeKind_13 (by decide) ?_
  refine s_isub dX11_mistakeKind_14 ?_
  refine s_cSI (rest := []) (met_X11_isIn l v1 0 (x2 - 1)) mth_X11_isIn rfl dX11_mistakeKind_15 w_504 w_505 ⟨Nat.le_of_ble_eq_true rfl, Nat.le_of_ble_eq_true rfl⟩ (Nat.le_of_ble_eq_true rfl) rfl (fun x3 => ?_)
  refine s_if_ne (tgt := 32) dX11_mistakeKind_18 (by decide) ?_ ?_
  · refine s_aloadn (j := 0) dX11_mistakeKind_32 rfl ?_
    refine s_getR (k := 8) cls_12 (by decide) rfl dX11_mistakeKind_33 w_287 rfl (fun x4 => ?_)
    refine s_iloadn (j := 1) dX11_mistakeKind_36 rfl ?_
    refine s_cVI (rest := []) (met_X3_kindOfMistake l x4 v1) cls_4 mth_X3_kindOfMistake rfl dX11_mistakeKind_37 w_1288 w_1289 w_1290 ⟨Nat.le_of_ble_eq_true rfl, Nat.le_of_ble_eq_true rfl⟩ (Nat.le_of_ble_eq_true rfl) rfl (fun x5 => ?_)
    exact s_xiret dX11_mistakeKind_40 rfl
  · exact s_throwW (n := 2) (text := "there are not so many mistakes") zthw_2 hfl rfl (by decide +kernel) rfl dX11_mistakeKind_21 dX11_mistakeKind_24 dX11_mistakeKind_25 dX11_mistakeKind_28 dX11_mistakeKind_31 (Nat.le_of_ble_eq_true rfl) (Nat.le_of_ble_eq_true rfl)
theorem met_X11_mistakeKind (l : Launch) (hfl : l.stackTraces = false) (v0 : Option Nat) (v1 : Int32) : zMetX l yX11_mistakeKind cX11_mistakeKind 2 (some .int) 8 170 [.inr (.inr v0), .inl v1] zcI (p_X11_mistakeKind v0 v1) :=
  zMetX.of (by decide +kernel) (Nat.le_of_ble_eq_true rfl) rfl (sim_X11_mistakeKind l hfl v0 v1)
def p_X11_mistakeAt (v0 : Option Nat) (v1 : Int32) : ZM (Int32 ⊕ Nat) :=
  z_b (z_vr 12 v0 (p_X11_proofread v0)) fun _ => z_b (z_gR 12 8 v0) fun x1 => z_b (z_vr 4 x1 (p_X3_mistakeCount x1)) fun x2 => z_b (p_X11_isIn v1 0 (x2 - 1)) fun x3 => if ¬ x3 = 0 then (z_b (z_gR 12 8 v0) fun x4 => z_b (z_vr 4 x4 (p_X3_wordOfMistake x4 v1)) fun x5 => z_xrt x5)
  else (z_th 2)
abbrev M_X11_mistakeAt (l : Launch) : ZMe := (l, "SpellScribe", cX11_mistakeAt, 2, 8, 170, (some .int), "mistakeAt", [])
set_option maxRecDepth 20000 in
theorem sim_X11_mistakeAt (l : Launch) (hfl : l.stackTraces = false) (v0 : Option Nat) (v1 : Int32) : Sim (M_X11_mistakeAt l) (zFinX zcI) 0 [(0, .inr (.inr v0)), (1, .inl v1)] [] (p_X11_mistakeAt v0 v1) := by
  unfold p_X11_mistakeAt
  refine s_aloadn (j := 0) dX11_mistakeAt_0 rfl ?_
  refine s_cVV (rest := []) (met_X11_proofread l v0) cls_12 mth_X11_proofread rfl dX11_mistakeAt_1 w_358 w_360 wp_1 ⟨Nat.le_of_ble_eq_true rfl, Nat.le_of_ble_eq_true rfl⟩ (Nat.le_of_ble_eq_true rfl) rfl ?_
  refine s_iloadn (j := 1) dX11_mistakeAt_4 rfl ?_
  refine s_iconst (v := 0) dX11_mistakeAt_5 (by decide) ?_
  refine s_aloadn (j := 0) dX11_mistakeAt_6 rfl ?_
  refine s_getR (k := 8) cls_12 (by decide) rfl dX11_mistakeAt_7 w_287 rfl (fun x1 => ?_)
  refine s_cVI (rest := [.inl 0, .inl v1]) (met_X3_mistakeCount l x1) cls_4 mth_X3_mistakeCount rfl dX11_mistakeAt_10 w_689 w_690 w_691 ⟨Nat.le_of_ble_eq_true rfl, Nat.le_of_ble_eq_true rfl⟩ (Nat.le_of_ble_eq_true rfl) rfl (fun x2 => ?_)
  refine s_iconst (v := 1) dX11_mistakeAt_13 (by decide) ?_
  refine s_isub dX11_mistakeAt_14 ?_
  refine s_cSI (rest := []) (met_X11_isIn l v1 0 (x2 - 1)) mth_X11_isIn rfl dX11_mistakeAt_15 w_504 w_505 ⟨Nat.le_of_ble_eq_true rfl, Nat.le_of_ble_eq_true rfl⟩ (Nat.le_of_ble_eq_true rfl) rfl (fun x3 => ?_)
  refine s_if_ne (tgt := 32) dX11_mistakeAt_18 (by decide) ?_ ?_
  · refine s_aloadn (j := 0) dX11_mistakeAt_32 rfl ?_
    refine s_getR (k := 8) cls_12 (by decide) rfl dX11_mistakeAt_33 w_287 rfl (fun x4 => ?_)
    refine s_iloadn (j := 1) dX11_mistakeAt_36 rfl ?_
    refine s_cVI (rest := []) (met_X3_wordOfMistake l x4 v1) cls_4 mth_X3_wordOfMistake rfl dX11_mistakeAt_37 w_1299 w_1300 w_1301 ⟨Nat.le_of_ble_eq_true rfl, Nat.le_of_ble_eq_true rfl⟩ (Nat.le_of_ble_eq_true rfl) rfl (fun x5 => ?_)
    exact s_xiret dX11_mistakeAt_40 rfl
  · exact s_throwW (n := 2) (text := "there are not so many mistakes") zthw_2 hfl rfl (by decide +kernel) rfl dX11_mistakeAt_21 dX11_mistakeAt_24 dX11_mistakeAt_25 dX11_mistakeAt_28 dX11_mistakeAt_31 (Nat.le_of_ble_eq_true rfl) (Nat.le_of_ble_eq_true rfl)
theorem met_X11_mistakeAt (l : Launch) (hfl : l.stackTraces = false) (v0 : Option Nat) (v1 : Int32) : zMetX l yX11_mistakeAt cX11_mistakeAt 2 (some .int) 8 170 [.inr (.inr v0), .inl v1] zcI (p_X11_mistakeAt v0 v1) :=
  zMetX.of (by decide +kernel) (Nat.le_of_ble_eq_true rfl) rfl (sim_X11_mistakeAt l hfl v0 v1)
def p_X11_suggestions (v0 : Option Nat) (v1 : Int32) : ZM (Int32 ⊕ Nat) :=
  z_b (z_vr 12 v0 (p_X11_hasWord v0 v1)) fun x1 => if ¬ x1 = 0 then (z_b (z_vr 12 v0 (p_X11_listSuggestions v0 v1)) fun _ => z_b (z_gR 12 1 v0) fun x2 => z_b (z_vr 9 x2 (p_X8_count x2)) fun x3 => z_xrt x3)
  else (z_th 2)
abbrev M_X11_suggestions (l : Launch) : ZMe := (l, "SpellScribe", cX11_suggestions, 2, 8, 163, (some .int), "suggestions", [])
set_option maxRecDepth 20000 in
theorem sim_X11_suggestions (l : Launch) (hfl : l.stackTraces = false) (v0 : Option Nat) (v1 : Int32) : Sim (M_X11_suggestions l) (zFinX zcI) 0 [(0, .inr (.inr v0)), (1, .inl v1)] [] (p_X11_suggestions v0 v1) := by
  unfold p_X11_suggestions
  refine s_aloadn (j := 0) dX11_suggestions_0 rfl ?_
  refine s_iloadn (j := 1) dX11_suggestions_1 rfl ?_
  refine s_cVI (rest := []) (met_X11_hasWord l v0 v1) cls_12 mth_X11_hasWord rfl dX11_suggestions_2 w_1125 w_1127 wp_35 ⟨Nat.le_of_ble_eq_true rfl, Nat.le_of_ble_eq_true rfl⟩ (Nat.le_of_ble_eq_true rfl) rfl (fun x1 => ?_)
  refine s_if_ne (tgt := 18) dX11_suggestions_5 (by decide) ?_ ?_
  · refine s_aloadn (j := 0) dX11_suggestions_18 rfl ?_
    refine s_iloadn (j := 1) dX11_suggestions_19 rfl ?_
    refine s_cVV (rest := []) (met_X11_listSuggestions l v0 v1) cls_12 mth_X11_listSuggestions rfl dX11_suggestions_20 w_527 w_529 wp_15 ⟨Nat.le_of_ble_eq_true rfl, Nat.le_of_ble_eq_true rfl⟩ (Nat.le_of_ble_eq_true rfl) rfl ?_
    refine s_aloadn (j := 0) dX11_suggestions_23 rfl ?_
    refine s_getR (k := 1) cls_12 (by decide) rfl dX11_suggestions_24 w_280 rfl (fun x2 => ?_)
    refine s_cVI (rest := []) (met_X8_count l x2) cls_9 mth_X8_count rfl dX11_suggestions_27 w_601 w_602 w_603 ⟨Nat.le_of_ble_eq_true rfl, Nat.le_of_ble_eq_true rfl⟩ (Nat.le_of_ble_eq_true rfl) rfl (fun x3 => ?_)
    exact s_xiret dX11_suggestions_30 rfl
  · exact s_throw (n := 2) (text := "there is no such word") zthw_2 hfl rfl (by decide +kernel) rfl dX11_suggestions_8 dX11_suggestions_11 dX11_suggestions_12 dX11_suggestions_14 dX11_suggestions_17 (Nat.le_of_ble_eq_true rfl) (Nat.le_of_ble_eq_true rfl)
theorem met_X11_suggestions (l : Launch) (hfl : l.stackTraces = false) (v0 : Option Nat) (v1 : Int32) : zMetX l yX11_suggestions cX11_suggestions 2 (some .int) 8 163 [.inr (.inr v0), .inl v1] zcI (p_X11_suggestions v0 v1) :=
  zMetX.of (by decide +kernel) (Nat.le_of_ble_eq_true rfl) rfl (sim_X11_suggestions l hfl v0 v1)
def p_X11_suggestionsByAll (v0 : Option Nat) (v1 : Int32) : ZM (Int32 ⊕ Nat) :=
  z_b (z_vr 12 v0 (p_X11_hasWord v0 v1)) fun x1 => if ¬ x1 = 0 then (z_b (z_gR 12 1 v0) fun x2 => z_b (z_gR 12 5 v0) fun x3 => z_b (z_gR 12 0 v0) fun x4 => z_b (z_vr 3 x4 (p_X2_suggestable x4)) fun x5 => z_b (z_vr 9 x2 (p_X8_list x2 x3 v1 x5 100)) fun _ => z_b (z_pI 12 12 v0 (-1)) fun _ => z_b (z_gR 12 1 v0) fun x6 => z_b (z_vr 9 x6 (p_X8_count x6)) fun x7 => z_xrt x7)
  else (z_th 2)
abbrev M_X11_suggestionsByAll (l : Launch) : ZMe := (l, "SpellScribe", cX11_suggestionsByAll, 2, 8, 142, (some .int), "suggestionsByAll", [])
set_option maxRecDepth 20000 in
theorem sim_X11_suggestionsByAll (l : Launch) (hfl : l.stackTraces = false) (v0 : Option Nat) (v1 : Int32) : Sim (M_X11_suggestionsByAll l) (zFinX zcI) 0 [(0, .inr (.inr v0)), (1, .inl v1)] [] (p_X11_suggestionsByAll v0 v1) := by
  unfold p_X11_suggestionsByAll
  refine s_aloadn (j := 0) dX11_suggestionsByAll_0 rfl ?_
  refine s_iloadn (j := 1) dX11_suggestionsByAll_1 rfl ?_
  refine s_cVI (rest := []) (met_X11_hasWord l v0 v1) cls_12 mth_X11_hasWord rfl dX11_suggestionsByAll_2 w_1125 w_1127 wp_35 ⟨Nat.le_of_ble_eq_true rfl, Nat.le_of_ble_eq_true rfl⟩ (Nat.le_of_ble_eq_true rfl) rfl (fun x1 => ?_)
  refine s_if_ne (tgt := 18) dX11_suggestionsByAll_5 (by decide) ?_ ?_
  · refine s_aloadn (j := 0) dX11_suggestionsByAll_18 rfl ?_
    refine s_getR (k := 1) cls_12 (by decide) rfl dX11_suggestionsByAll_19 w_280 rfl (fun x2 => ?_)
    refine s_aloadn (j := 0) dX11_suggestionsByAll_22 rfl ?_
    refine s_getR (k := 5) cls_12 (by decide) rfl dX11_suggestionsByAll_23 w_284 rfl (fun x3 => ?_)
    refine s_iloadn (j := 1) dX11_suggestionsByAll_26 rfl ?_
    refine s_aloadn (j := 0) dX11_suggestionsByAll_27 rfl ?_
    refine s_getR (k := 0) cls_12 (by decide) rfl dX11_suggestionsByAll_28 w_279 rfl (fun x4 => ?_)
    refine s_cVR (rest := [.inl v1, .inr (.inr x3), .inr (.inr x2)]) (met_X2_suggestable l x4) cls_3 mth_X2_suggestable rfl dX11_suggestionsByAll_31 w_531 w_532 w_533 ⟨Nat.le_of_ble_eq_true rfl, Nat.le_of_ble_eq_true rfl⟩ (Nat.le_of_ble_eq_true rfl) rfl (fun x5 => ?_)
    refine s_bipush (v := 100) dX11_suggestionsByAll_34 (by decide) ?_
    refine s_cVV (rest := []) (met_X8_list l x2 x3 v1 x5 100) cls_9 mth_X8_list rfl dX11_suggestionsByAll_36 w_535 w_536 w_537 ⟨Nat.le_of_ble_eq_true rfl, Nat.le_of_ble_eq_true rfl⟩ (Nat.le_of_ble_eq_true rfl) rfl ?_
    refine s_aloadn (j := 0) dX11_suggestionsByAll_39 rfl ?_
    refine s_iconst (v := (-1)) dX11_suggestionsByAll_40 (by decide) ?_
    refine s_putI (k := 12) cls_12 (by decide) rfl rfl rfl dX11_suggestionsByAll_41 w_291 rfl ?_
    refine s_aloadn (j := 0) dX11_suggestionsByAll_44 rfl ?_
    refine s_getR (k := 1) cls_12 (by decide) rfl dX11_suggestionsByAll_45 w_280 rfl (fun x6 => ?_)
    refine s_cVI (rest := []) (met_X8_count l x6) cls_9 mth_X8_count rfl dX11_suggestionsByAll_48 w_601 w_602 w_603 ⟨Nat.le_of_ble_eq_true rfl, Nat.le_of_ble_eq_true rfl⟩ (Nat.le_of_ble_eq_true rfl) rfl (fun x7 => ?_)
    exact s_xiret dX11_suggestionsByAll_51 rfl
  · exact s_throw (n := 2) (text := "there is no such word") zthw_2 hfl rfl (by decide +kernel) rfl dX11_suggestionsByAll_8 dX11_suggestionsByAll_11 dX11_suggestionsByAll_12 dX11_suggestionsByAll_14 dX11_suggestionsByAll_17 (Nat.le_of_ble_eq_true rfl) (Nat.le_of_ble_eq_true rfl)
theorem met_X11_suggestionsByAll (l : Launch) (hfl : l.stackTraces = false) (v0 : Option Nat) (v1 : Int32) : zMetX l yX11_suggestionsByAll cX11_suggestionsByAll 2 (some .int) 8 142 [.inr (.inr v0), .inl v1] zcI (p_X11_suggestionsByAll v0 v1) :=
  zMetX.of (by decide +kernel) (Nat.le_of_ble_eq_true rfl) rfl (sim_X11_suggestionsByAll l hfl v0 v1)
def p_X11_hasSuggestion (v0 : Option Nat) (v1 : Int32) (v2 : Int32) : ZM Int32 :=
  z_b (z_vr 12 v0 (p_X11_hasWord v0 v1)) fun x1 => if ¬ x1 = 0 then (z_b (z_vr 12 v0 (p_X11_listSuggestions v0 v1)) fun _ => z_b (z_gR 12 1 v0) fun x2 => z_b (z_vr 9 x2 (p_X8_count x2)) fun x3 => z_b (p_X11_isIn v2 0 (x3 - 1)) fun x4 => z_rz x4)
  else (z_rz 0)
abbrev M_X11_hasSuggestion (l : Launch) : ZMe := (l, "SpellScribe", cX11_hasSuggestion, 3, 6, 163, (some .boolean), "hasSuggestion", [])
set_option maxRecDepth 20000 in
theorem sim_X11_hasSuggestion (l : Launch) (v0 : Option Nat) (v1 : Int32) (v2 : Int32) : Sim (M_X11_hasSuggestion l) (zFin zcI) 0 [(0, .inr (.inr v0)), (1, .inl v1), (2, .inl v2)] [] (p_X11_hasSuggestion v0 v1 v2) := by
  unfold p_X11_hasSuggestion
  refine s_aloadn (j := 0) dX11_hasSuggestion_0 rfl ?_
  refine s_iloadn (j := 1) dX11_hasSuggestion_1 rfl ?_
  refine s_cVI (rest := []) (met_X11_hasWord l v0 v1) cls_12 mth_X11_hasWord rfl dX11_hasSuggestion_2 w_1125 w_1127 wp_35 ⟨Nat.le_of_ble_eq_true rfl, Nat.le_of_ble_eq_true rfl⟩ (Nat.le_of_ble_eq_true rfl) rfl (fun x1 => ?_)
  refine s_if_ne (tgt := 10) dX11_hasSuggestion_5 (by decide) ?_ ?_
  · refine s_aloadn (j := 0) dX11_hasSuggestion_10 rfl ?_
    refine s_iloadn (j := 1) dX11_hasSuggestion_11 rfl ?_
    refine s_cVV (rest := []) (met_X11_listSuggestions l v0 v1) cls_12 mth_X11_listSuggestions rfl dX11_hasSuggestion_12 w_527 w_529 wp_15 ⟨Nat.le_of_ble_eq_true rfl, Nat.le_of_ble_eq_true rfl⟩ (Nat.le_of_ble_eq_true rfl) rfl ?_
    refine s_iloadn (j := 2) dX11_hasSuggestion_15 rfl ?_
    refine s_iconst (v := 0) dX11_hasSuggestion_16 (by decide) ?_
    refine s_aloadn (j := 0) dX11_hasSuggestion_17 rfl ?_
    refine s_getR (k := 1) cls_12 (by decide) rfl dX11_hasSuggestion_18 w_280 rfl (fun x2 => ?_)
    refine s_cVI (rest := [.inl 0, .inl v2]) (met_X8_count l x2) cls_9 mth_X8_count rfl dX11_hasSuggestion_21 w_601 w_602 w_603 ⟨Nat.le_of_ble_eq_true rfl, Nat.le_of_ble_eq_true rfl⟩ (Nat.le_of_ble_eq_true rfl) rfl (fun x3 => ?_)
    refine s_iconst (v := 1) dX11_hasSuggestion_24 (by decide) ?_
    refine s_isub dX11_hasSuggestion_25 ?_
    refine s_cSI (rest := []) (met_X11_isIn l v2 0 (x3 - 1)) mth_X11_isIn rfl dX11_hasSuggestion_26 w_504 w_505 ⟨Nat.le_of_ble_eq_true rfl, Nat.le_of_ble_eq_true rfl⟩ (Nat.le_of_ble_eq_true rfl) rfl (fun x4 => ?_)
    exact s_zret dX11_hasSuggestion_29 rfl
  · refine s_iconst (v := 0) dX11_hasSuggestion_8 (by decide) ?_
    exact s_zret dX11_hasSuggestion_9 rfl
theorem met_X11_hasSuggestion (l : Launch) (v0 : Option Nat) (v1 : Int32) (v2 : Int32) : zMet l yX11_hasSuggestion cX11_hasSuggestion 3 (some .boolean) 6 163 [.inr (.inr v0), .inl v1, .inl v2] zcI (p_X11_hasSuggestion v0 v1 v2) :=
  zMet.of (by decide +kernel) (Nat.le_of_ble_eq_true rfl) rfl (sim_X11_hasSuggestion l v0 v1 v2)
def p_X11_cost (v0 : Option Nat) (v1 : Int32) (v2 : Int32) : ZM (Int32 ⊕ Nat) :=
  z_b (z_vr 12 v0 (p_X11_hasSuggestion v0 v1 v2)) fun x1 => if ¬ x1 = 0 then (z_b (z_gR 12 1 v0) fun x2 => z_b (z_vr 9 x2 (p_X8_costOfListed x2 v2)) fun x3 => z_xrt x3)
  else (z_th 2)
abbrev M_X11_cost (l : Launch) : ZMe := (l, "SpellScribe", cX11_cost, 3, 8, 185, (some .int), "cost", [])
set_option maxRecDepth 20000 in
theorem sim_X11_cost (l : Launch) (hfl : l.stackTraces = false) (v0 : Option Nat) (v1 : Int32) (v2 : Int32) : Sim (M_X11_cost l) (zFinX zcI) 0 [(0, .inr (.inr v0)), (1, .inl v1), (2, .inl v2)] [] (p_X11_cost v0 v1 v2) := by
  unfold p_X11_cost
  refine s_aloadn (j := 0) dX11_cost_0 rfl ?_
  refine s_iloadn (j := 1) dX11_cost_1 rfl ?_
  refine s_iloadn (j := 2) dX11_cost_2 rfl ?_
  refine s_cVI (rest := []) (met_X11_hasSuggestion l v0 v1 v2) cls_12 mth_X11_hasSuggestion rfl dX11_cost_3 w_1324 w_1326 wp_40 ⟨Nat.le_of_ble_eq_true rfl, Nat.le_of_ble_eq_true rfl⟩ (Nat.le_of_ble_eq_true rfl) rfl (fun x1 => ?_)
  refine s_if_ne (tgt := 20) dX11_cost_6 (by decide) ?_ ?_
  · refine s_aloadn (j := 0) dX11_cost_20 rfl ?_
    refine s_getR (k := 1) cls_12 (by decide) rfl dX11_cost_21 w_280 rfl (fun x2 => ?_)
    refine s_iloadn (j := 2) dX11_cost_24 rfl ?_
    refine s_cVI (rest := []) (met_X8_costOfListed l x2 v2) cls_9 mth_X8_costOfListed rfl dX11_cost_25 w_1329 w_1330 w_1331 ⟨Nat.le_of_ble_eq_true rfl, Nat.le_of_ble_eq_true rfl⟩ (Nat.le_of_ble_eq_true rfl) rfl (fun x3 => ?_)
    exact s_xiret dX11_cost_28 rfl
  · exact s_throwW (n := 2) (text := "there is no such word or suggestion") zthw_2 hfl rfl (by decide +kernel) rfl dX11_cost_9 dX11_cost_12 dX11_cost_13 dX11_cost_16 dX11_cost_19 (Nat.le_of_ble_eq_true rfl) (Nat.le_of_ble_eq_true rfl)
theorem met_X11_cost (l : Launch) (hfl : l.stackTraces = false) (v0 : Option Nat) (v1 : Int32) (v2 : Int32) : zMetX l yX11_cost cX11_cost 3 (some .int) 8 185 [.inr (.inr v0), .inl v1, .inl v2] zcI (p_X11_cost v0 v1 v2) :=
  zMetX.of (by decide +kernel) (Nat.le_of_ble_eq_true rfl) rfl (sim_X11_cost l hfl v0 v1 v2)
def p_X11_suggested_b13  : ZM (Int32 ⊕ Nat) :=
  z_th 2
def p_X11_suggested (v0 : Option Nat) (v1 : Int32) (v2 : Int32) (v3 : Int32) : ZM (Int32 ⊕ Nat) :=
  if v3 < 0 then (p_X11_suggested_b13)
  else (z_b (z_vr 12 v0 (p_X11_hasSuggestion v0 v1 v2)) fun x1 => if ¬ x1 = 0 then (z_b (z_gR 12 1 v0) fun x2 => z_b (z_vr 9 x2 (p_X8_listedWord x2 v2)) fun x3 => z_b (p_X11_sizeOf x3) fun x4 => if x4 ≤ v3 then (z_xrc 32)
  else (z_b (p_X11_letterOf x3 v3) fun x5 => z_xrc ((Int32.toUInt32 (97 + x5) % 65536).toInt32)))
  else (p_X11_suggested_b13))
abbrev M_X11_suggested (l : Launch) : ZMe := (l, "SpellScribe", cX11_suggested, 5, 8, 185, (some .char), "suggested", [])
set_option maxRecDepth 20000 in
theorem sim_X11_suggested_b13 (l : Launch) (hfl : l.stackTraces = false)  : Sim (M_X11_suggested l) (zFinX zcI) 13 [] [] (p_X11_suggested_b13 ) := by
  unfold p_X11_suggested_b13
  exact s_throwW (n := 2) (text := "there is no such word, suggestion or place") zthw_2 hfl rfl (by decide +kernel) rfl dX11_suggested_13 dX11_suggested_16 dX11_suggested_17 dX11_suggested_20 dX11_suggested_23 (Nat.le_of_ble_eq_true rfl) (Nat.le_of_ble_eq_true rfl)
set_option maxRecDepth 20000 in
theorem sim_X11_suggested (l : Launch) (hfl : l.stackTraces = false) (v0 : Option Nat) (v1 : Int32) (v2 : Int32) (v3 : Int32) : Sim (M_X11_suggested l) (zFinX zcI) 0 [(0, .inr (.inr v0)), (1, .inl v1), (2, .inl v2), (3, .inl v3)] [] (p_X11_suggested v0 v1 v2 v3) := by
  unfold p_X11_suggested
  refine s_iloadn (j := 3) dX11_suggested_0 rfl ?_
  refine s_if_lt (tgt := 13) dX11_suggested_1 (by decide) ?_ ?_
  · exact Sim.sub [] rfl (sim_X11_suggested_b13 l hfl)
  · refine s_aloadn (j := 0) dX11_suggested_4 rfl ?_
    refine s_iloadn (j := 1) dX11_suggested_5 rfl ?_
    refine s_iloadn (j := 2) dX11_suggested_6 rfl ?_
    refine s_cVI (rest := []) (met_X11_hasSuggestion l v0 v1 v2) cls_12 mth_X11_hasSuggestion rfl dX11_suggested_7 w_1324 w_1326 wp_40 ⟨Nat.le_of_ble_eq_true rfl, Nat.le_of_ble_eq_true rfl⟩ (Nat.le_of_ble_eq_true rfl) rfl (fun x1 => ?_)
    refine s_if_ne (tgt := 24) dX11_suggested_10 (by decide) ?_ ?_
    · refine s_aloadn (j := 0) dX11_suggested_24 rfl ?_
      refine s_getR (k := 1) cls_12 (by decide) rfl dX11_suggested_25 w_280 rfl (fun x2 => ?_)
      refine s_iloadn (j := 2) dX11_suggested_28 rfl ?_
      refine s_cVI (rest := []) (met_X8_listedWord l x2 v2) cls_9 mth_X8_listedWord rfl dX11_suggested_29 w_605 w_606 w_607 ⟨Nat.le_of_ble_eq_true rfl, Nat.le_of_ble_eq_true rfl⟩ (Nat.le_of_ble_eq_true rfl) rfl (fun x3 => ?_)
      refine s_istore (lv' := [(4, .inl x3), (0, .inr (.inr v0)), (1, .inl v1), (2, .inl v2), (3, .inl v3)]) dX11_suggested_32 (Nat.le_of_ble_eq_true rfl) rfl ?_
      refine s_iloadn (j := 4) dX11_suggested_34 rfl ?_
      refine s_iload (j := 0) dX11_suggested_35 rfl ?_
      refine s_cSI (rest := [.inl v3]) (met_X11_sizeOf l x3) mth_X11_sizeOf rfl dX11_suggested_37 w_327 w_328 ⟨Nat.le_of_ble_eq_true rfl, Nat.le_of_ble_eq_true rfl⟩ (Nat.le_of_ble_eq_true rfl) rfl (fun x4 => ?_)
      refine s_icmp_ge (tgt := 56) dX11_suggested_40 (by decide) ?_ ?_
      · refine s_bipush (v := 32) dX11_suggested_56 (by decide) ?_
        exact s_xcret dX11_suggested_58 rfl
      · refine s_bipush (v := 97) dX11_suggested_43 (by decide) ?_
        refine s_iload (j := 0) dX11_suggested_45 rfl ?_
        refine s_iloadn (j := 4) dX11_suggested_47 rfl ?_
        refine s_cSI (rest := [.inl 97]) (met_X11_letterOf l x3 v3) mth_X11_letterOf rfl dX11_suggested_48 w_1341 w_397 ⟨Nat.le_of_ble_eq_true rfl, Nat.le_of_ble_eq_true rfl⟩ (Nat.le_of_ble_eq_true rfl) rfl (fun x5 => ?_)
        refine s_iadd dX11_suggested_51 ?_
        refine s_i2c dX11_suggested_52 ?_
        refine s_goto (tgt := 58) dX11_suggested_53 (by decide) ?_
        exact s_xcret dX11_suggested_58 rfl
    · exact Sim.sub [] rfl (sim_X11_suggested_b13 l hfl)
theorem met_X11_suggested (l : Launch) (hfl : l.stackTraces = false) (v0 : Option Nat) (v1 : Int32) (v2 : Int32) (v3 : Int32) : zMetX l yX11_suggested cX11_suggested 5 (some .char) 8 185 [.inr (.inr v0), .inl v1, .inl v2, .inl v3] zcI (p_X11_suggested v0 v1 v2 v3) :=
  zMetX.of (by decide +kernel) (Nat.le_of_ble_eq_true rfl) rfl (sim_X11_suggested l hfl v0 v1 v2 v3)
def p_X11_made (v0 : Option Nat) : ZM Int32 :=
  z_b (z_gR 12 0 v0) fun x1 => z_b (z_vr 3 x1 (p_X2_madeCount x1)) fun x2 => z_rt x2
abbrev M_X11_made (l : Launch) : ZMe := (l, "SpellScribe", cX11_made, 1, 2, 40, (some .int), "made", [])
set_option maxRecDepth 20000 in
theorem sim_X11_made (l : Launch) (v0 : Option Nat) : Sim (M_X11_made l) (zFin zcI) 0 [(0, .inr (.inr v0))] [] (p_X11_made v0) := by
  unfold p_X11_made
  refine s_aloadn (j := 0) dX11_made_0 rfl ?_
  refine s_getR (k := 0) cls_12 (by decide) rfl dX11_made_1 w_279 rfl (fun x1 => ?_)
  refine s_cVI (rest := []) (met_X2_madeCount l x1) cls_3 mth_X2_madeCount rfl dX11_made_4 w_697 w_698 w_699 ⟨Nat.le_of_ble_eq_true rfl, Nat.le_of_ble_eq_true rfl⟩ (Nat.le_of_ble_eq_true rfl) rfl (fun x2 => ?_)
  exact s_iret dX11_made_7 rfl
theorem met_X11_made (l : Launch) (v0 : Option Nat) : zMet l yX11_made cX11_made 1 (some .int) 2 40 [.inr (.inr v0)] zcI (p_X11_made v0) :=
  zMet.of (by decide +kernel) (Nat.le_of_ble_eq_true rfl) rfl (sim_X11_made l v0)
