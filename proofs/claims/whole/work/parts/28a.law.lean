def p_L_letter (v0 : Option Nat) (v1 : Int32) (v2 : Option Nat) : ZM Int32 :=
  z_bx (z_vr 12 v0 (p_X11_letter v0 v1)) (fun x1 => z_b (z_sL v2 0 (Int32.toInt64 x1)) fun _ => z_rt 0) (z_h2 0 1 (z_rt 1) (z_rt 2))
abbrev M_L_letter (l : Launch) : ZMe := (l, "SpellScribeLaw", cL_letter, 4, 9, 141, (some .int), "letter", tableOf [(0, 9, 12, 13), (0, 9, 15, 15)])
set_option maxRecDepth 20000 in
theorem sim_L_letter (l : Launch) (hfl : l.stackTraces = false) (v0 : Option Nat) (v1 : Int32) (v2 : Option Nat) : Sim (M_L_letter l) (zFin zcI) 0 [(0, .inr (.inr v0)), (1, .inl v1), (2, .inr (.inr v2))] [] (p_L_letter v0 v1 v2) := by
  unfold p_L_letter
  refine s_aloadn (j := 2) dL_letter_0 rfl ?_
  refine s_iconst (v := 0) dL_letter_1 (by decide) ?_
  refine s_aloadn (j := 0) dL_letter_2 rfl ?_
  refine s_iloadn (j := 1) dL_letter_3 rfl ?_
  refine s_callVX (rest := [.inl 0, .inr (.inr v2)]) (st' := fun x => .inl x :: [.inl 0, .inr (.inr v2)]) (met_X11_letter l hfl v0 v1) cls_12 mth_X11_letter rfl dL_letter_4 w_707 w_708 w_709 ⟨Nat.le_of_ble_eq_true rfl, Nat.le_of_ble_eq_true rfl⟩ (Nat.le_of_ble_eq_true rfl) rfl (fun _ => rfl) (fun x1 => ?_) (s_h2 ⟨[], _, _, rfl, fun _ h => absurd h List.not_mem_nil, by decide, by decide, w_705, by decide, rfl⟩ ⟨[_], _, _, rfl, List.forall_mem_cons.mpr ⟨Or.inr ⟨by decide, 0, by decide, by decide, w_705⟩, fun _ h => absurd h List.not_mem_nil⟩, by decide, by decide, w_706, by decide, rfl⟩ (fun q2 => ?_) (fun q3 => ?_))
  · refine s_i2l dL_letter_7 ?_
    refine s_last dL_letter_8 ?_
    refine s_goto (tgt := 18) dL_letter_9 (by decide) ?_
    refine s_iconst (v := 0) dL_letter_18 (by decide) ?_
    exact s_iret dL_letter_19 rfl
  · refine s_astoren (lv' := [(3, .inr (.inr (some q2))), (0, .inr (.inr v0)), (1, .inl v1), (2, .inr (.inr v2))]) dL_letter_12 (Nat.le_of_ble_eq_true rfl) rfl ?_
    refine s_iconst (v := 1) dL_letter_13 (by decide) ?_
    exact s_iret dL_letter_14 rfl
  · refine s_astoren (lv' := [(3, .inr (.inr (some q3))), (0, .inr (.inr v0)), (1, .inl v1), (2, .inr (.inr v2))]) dL_letter_15 (Nat.le_of_ble_eq_true rfl) rfl ?_
    refine s_iconst (v := 2) dL_letter_16 (by decide) ?_
    exact s_iret dL_letter_17 rfl
theorem met_L_letter (l : Launch) (hfl : l.stackTraces = false) (v0 : Option Nat) (v1 : Int32) (v2 : Option Nat) : zMetH l yL_letter cL_letter 4 (some .int) [(0, 9, 12, 13), (0, 9, 15, 15)] 9 141 [.inr (.inr v0), .inl v1, .inr (.inr v2)] zcI (p_L_letter v0 v1 v2) :=
  zMetH.of (by decide +kernel) (Nat.le_of_ble_eq_true rfl) rfl (sim_L_letter l hfl v0 v1 v2)
def p_L_stem (v0 : Option Nat) (v1 : Int32) (v2 : Int32) (v3 : Int32) (v4 : Int32) (v5 : Option Nat) : ZM Int32 :=
  z_bx (z_vr 12 v0 (p_X11_stem v0 v1 v2 v3 v4)) (fun x1 => z_b (z_sL v5 0 (Int32.toInt64 x1)) fun _ => z_rt 0) (z_h2 0 1 (z_rt 1) (z_rt 2))
abbrev M_L_stem (l : Launch) : ZMe := (l, "SpellScribeLaw", cL_stem, 7, 9, 217, (some .int), "stem", tableOf [(0, 14, 17, 13), (0, 14, 21, 15)])
set_option maxRecDepth 20000 in
theorem sim_L_stem (l : Launch) (hfl : l.stackTraces = false) (v0 : Option Nat) (v1 : Int32) (v2 : Int32) (v3 : Int32) (v4 : Int32) (v5 : Option Nat) : Sim (M_L_stem l) (zFin zcI) 0 [(0, .inr (.inr v0)), (1, .inl v1), (2, .inl v2), (3, .inl v3), (4, .inl v4), (5, .inr (.inr v5))] [] (p_L_stem v0 v1 v2 v3 v4 v5) := by
  unfold p_L_stem
  refine s_aload (j := 5) dL_stem_0 rfl ?_
  refine s_iconst (v := 0) dL_stem_2 (by decide) ?_
  refine s_aloadn (j := 0) dL_stem_3 rfl ?_
  refine s_iloadn (j := 1) dL_stem_4 rfl ?_
  refine s_iloadn (j := 2) dL_stem_5 rfl ?_
  refine s_iloadn (j := 3) dL_stem_6 rfl ?_
  refine s_iload (j := 4) dL_stem_7 rfl ?_
  refine s_callVX (rest := [.inl 0, .inr (.inr v5)]) (st' := fun x => .inl x :: [.inl 0, .inr (.inr v5)]) (met_X11_stem l hfl v0 v1 v2 v3 v4) cls_12 mth_X11_stem rfl dL_stem_9 w_800 w_801 w_802 ⟨Nat.le_of_ble_eq_true rfl, Nat.le_of_ble_eq_true rfl⟩ (Nat.le_of_ble_eq_true rfl) rfl (fun _ => rfl) (fun x1 => ?_) (s_h2 ⟨[], _, _, rfl, fun _ h => absurd h List.not_mem_nil, by decide, by decide, w_705, by decide, rfl⟩ ⟨[_], _, _, rfl, List.forall_mem_cons.mpr ⟨Or.inr ⟨by decide, 0, by decide, by decide, w_705⟩, fun _ h => absurd h List.not_mem_nil⟩, by decide, by decide, w_706, by decide, rfl⟩ (fun q2 => ?_) (fun q3 => ?_))
  · refine s_i2l dL_stem_12 ?_
    refine s_last dL_stem_13 ?_
    refine s_goto (tgt := 25) dL_stem_14 (by decide) ?_
    refine s_iconst (v := 0) dL_stem_25 (by decide) ?_
    exact s_iret dL_stem_26 rfl
  · refine s_astore (lv' := [(6, .inr (.inr (some q2))), (0, .inr (.inr v0)), (1, .inl v1), (2, .inl v2), (3, .inl v3), (4, .inl v4), (5, .inr (.inr v5))]) dL_stem_17 (Nat.le_of_ble_eq_true rfl) rfl ?_
    refine s_iconst (v := 1) dL_stem_19 (by decide) ?_
    exact s_iret dL_stem_20 rfl
  · refine s_astore (lv' := [(6, .inr (.inr (some q3))), (0, .inr (.inr v0)), (1, .inl v1), (2, .inl v2), (3, .inl v3), (4, .inl v4), (5, .inr (.inr v5))]) dL_stem_21 (Nat.le_of_ble_eq_true rfl) rfl ?_
    refine s_iconst (v := 2) dL_stem_23 (by decide) ?_
    exact s_iret dL_stem_24 rfl
theorem met_L_stem (l : Launch) (hfl : l.stackTraces = false) (v0 : Option Nat) (v1 : Int32) (v2 : Int32) (v3 : Int32) (v4 : Int32) (v5 : Option Nat) : zMetH l yL_stem cL_stem 7 (some .int) [(0, 14, 17, 13), (0, 14, 21, 15)] 9 217 [.inr (.inr v0), .inl v1, .inl v2, .inl v3, .inl v4, .inr (.inr v5)] zcI (p_L_stem v0 v1 v2 v3 v4 v5) :=
  zMetH.of (by decide +kernel) (Nat.le_of_ble_eq_true rfl) rfl (sim_L_stem l hfl v0 v1 v2 v3 v4 v5)
def p_L_rule (v0 : Option Nat) (v1 : Int32) (v2 : Int32) (v3 : Int32) (v4 : Int32) (v5 : Int32) (v6 : Int32) (v7 : Option Nat) : ZM Int32 :=
  z_bx (z_vr 12 v0 (p_X11_rule v0 v1 v2 v3 v4 v5 v6)) (fun x1 => z_b (z_sL v7 0 (Int32.toInt64 x1)) fun _ => z_rt 0) (z_h2 0 1 (z_rt 1) (z_rt 2))
abbrev M_L_rule (l : Launch) : ZMe := (l, "SpellScribeLaw", cL_rule, 9, 9, 222, (some .int), "rule", tableOf [(0, 18, 21, 13), (0, 18, 25, 15)])
set_option maxRecDepth 20000 in
theorem sim_L_rule (l : Launch) (hfl : l.stackTraces = false) (v0 : Option Nat) (v1 : Int32) (v2 : Int32) (v3 : Int32) (v4 : Int32) (v5 : Int32) (v6 : Int32) (v7 : Option Nat) : Sim (M_L_rule l) (zFin zcI) 0 [(0, .inr (.inr v0)), (1, .inl v1), (2, .inl v2), (3, .inl v3), (4, .inl v4), (5, .inl v5), (6, .inl v6), (7, .inr (.inr v7))] [] (p_L_rule v0 v1 v2 v3 v4 v5 v6 v7) := by
  unfold p_L_rule
  refine s_aload (j := 7) dL_rule_0 rfl ?_
  refine s_iconst (v := 0) dL_rule_2 (by decide) ?_
  refine s_aloadn (j := 0) dL_rule_3 rfl ?_
  refine s_iloadn (j := 1) dL_rule_4 rfl ?_
  refine s_iloadn (j := 2) dL_rule_5 rfl ?_
  refine s_iloadn (j := 3) dL_rule_6 rfl ?_
  refine s_iload (j := 4) dL_rule_7 rfl ?_
  refine s_iload (j := 5) dL_rule_9 rfl ?_
  refine s_iload (j := 6) dL_rule_11 rfl ?_
  refine s_callVX (rest := [.inl 0, .inr (.inr v7)]) (st' := fun x => .inl x :: [.inl 0, .inr (.inr v7)]) (met_X11_rule l hfl v0 v1 v2 v3 v4 v5 v6) cls_12 mth_X11_rule rfl dL_rule_13 w_981 w_982 w_983 ⟨Nat.le_of_ble_eq_true rfl, Nat.le_of_ble_eq_true rfl⟩ (Nat.le_of_ble_eq_true rfl) rfl (fun _ => rfl) (fun x1 => ?_) (s_h2 ⟨[], _, _, rfl, fun _ h => absurd h List.not_mem_nil, by decide, by decide, w_705, by decide, rfl⟩ ⟨[_], _, _, rfl, List.forall_mem_cons.mpr ⟨Or.inr ⟨by decide, 0, by decide, by decide, w_705⟩, fun _ h => absurd h List.not_mem_nil⟩, by decide, by decide, w_706, by decide, rfl⟩ (fun q2 => ?_) (fun q3 => ?_))
  · refine s_i2l dL_rule_16 ?_
    refine s_last dL_rule_17 ?_
    refine s_goto (tgt := 29) dL_rule_18 (by decide) ?_
    refine s_iconst (v := 0) dL_rule_29 (by decide) ?_
    exact s_iret dL_rule_30 rfl
  · refine s_astore (lv' := [(8, .inr (.inr (some q2))), (0, .inr (.inr v0)), (1, .inl v1), (2, .inl v2), (3, .inl v3), (4, .inl v4), (5, .inl v5), (6, .inl v6), (7, .inr (.inr v7))]) dL_rule_21 (Nat.le_of_ble_eq_true rfl) rfl ?_
    refine s_iconst (v := 1) dL_rule_23 (by decide) ?_
    exact s_iret dL_rule_24 rfl
  · refine s_astore (lv' := [(8, .inr (.inr (some q3))), (0, .inr (.inr v0)), (1, .inl v1), (2, .inl v2), (3, .inl v3), (4, .inl v4), (5, .inl v5), (6, .inl v6), (7, .inr (.inr v7))]) dL_rule_25 (Nat.le_of_ble_eq_true rfl) rfl ?_
    refine s_iconst (v := 2) dL_rule_27 (by decide) ?_
    exact s_iret dL_rule_28 rfl
theorem met_L_rule (l : Launch) (hfl : l.stackTraces = false) (v0 : Option Nat) (v1 : Int32) (v2 : Int32) (v3 : Int32) (v4 : Int32) (v5 : Int32) (v6 : Int32) (v7 : Option Nat) : zMetH l yL_rule cL_rule 9 (some .int) [(0, 18, 21, 13), (0, 18, 25, 15)] 9 222 [.inr (.inr v0), .inl v1, .inl v2, .inl v3, .inl v4, .inl v5, .inl v6, .inr (.inr v7)] zcI (p_L_rule v0 v1 v2 v3 v4 v5 v6 v7) :=
  zMetH.of (by decide +kernel) (Nat.le_of_ble_eq_true rfl) rfl (sim_L_rule l hfl v0 v1 v2 v3 v4 v5 v6 v7)
def p_L_more (v0 : Option Nat) (v1 : Int32) (v2 : Int32) (v3 : Option Nat) : ZM Int32 :=
  z_bx (z_vr 12 v0 (p_X11_more v0 v1 v2)) (fun x1 => z_b (z_sL v3 0 (Int32.toInt64 x1)) fun _ => z_rt 0) (z_h3 2 0 1 (z_rt 1) (z_rt 2) (z_rt 3))
abbrev M_L_more (l : Launch) : ZMe := (l, "SpellScribeLaw", cL_more, 5, 9, 213, (some .int), "more", tableOf [(0, 10, 13, 29), (0, 10, 17, 13), (0, 10, 21, 15)])
set_option maxRecDepth 20000 in
theorem sim_L_more (l : Launch) (hfl : l.stackTraces = false) (v0 : Option Nat) (v1 : Int32) (v2 : Int32) (v3 : Option Nat) : Sim (M_L_more l) (zFin zcI) 0 [(0, .inr (.inr v0)), (1, .inl v1), (2, .inl v2), (3, .inr (.inr v3))] [] (p_L_more v0 v1 v2 v3) := by
  unfold p_L_more
  refine s_aloadn (j := 3) dL_more_0 rfl ?_
  refine s_iconst (v := 0) dL_more_1 (by decide) ?_
  refine s_aloadn (j := 0) dL_more_2 rfl ?_
  refine s_iloadn (j := 1) dL_more_3 rfl ?_
  refine s_iloadn (j := 2) dL_more_4 rfl ?_
  refine s_callVX (rest := [.inl 0, .inr (.inr v3)]) (st' := fun x => .inl x :: [.inl 0, .inr (.inr v3)]) (met_X11_more l hfl v0 v1 v2) cls_12 mth_X11_more rfl dL_more_5 w_1032 w_1033 w_1034 ⟨Nat.le_of_ble_eq_true rfl, Nat.le_of_ble_eq_true rfl⟩ (Nat.le_of_ble_eq_true rfl) rfl (fun _ => rfl) (fun x1 => ?_) (s_h3 ⟨[], _, _, rfl, fun _ h => absurd h List.not_mem_nil, by decide, by decide, w_1031, by decide, rfl⟩ ⟨[_], _, _, rfl, List.forall_mem_cons.mpr ⟨Or.inr ⟨by decide, 2, by decide, by decide, w_1031⟩, fun _ h => absurd h List.not_mem_nil⟩, by decide, by decide, w_705, by decide, rfl⟩ ⟨[_, _], _, _, rfl, List.forall_mem_cons.mpr ⟨Or.inr ⟨by decide, 2, by decide, by decide, w_1031⟩, List.forall_mem_cons.mpr ⟨Or.inr ⟨by decide, 0, by decide, by decide, w_705⟩, fun _ h => absurd h List.not_mem_nil⟩⟩, by decide, by decide, w_706, by decide, rfl⟩ (fun q2 => ?_) (fun q3 => ?_) (fun q4 => ?_))
  · refine s_i2l dL_more_8 ?_
    refine s_last dL_more_9 ?_
    refine s_goto (tgt := 25) dL_more_10 (by decide) ?_
    refine s_iconst (v := 0) dL_more_25 (by decide) ?_
    exact s_iret dL_more_26 rfl
  · refine s_astore (lv' := [(4, .inr (.inr (some q2))), (0, .inr (.inr v0)), (1, .inl v1), (2, .inl v2), (3, .inr (.inr v3))]) dL_more_13 (Nat.le_of_ble_eq_true rfl) rfl ?_
    refine s_iconst (v := 1) dL_more_15 (by decide) ?_
    exact s_iret dL_more_16 rfl
  · refine s_astore (lv' := [(4, .inr (.inr (some q3))), (0, .inr (.inr v0)), (1, .inl v1), (2, .inl v2), (3, .inr (.inr v3))]) dL_more_17 (Nat.le_of_ble_eq_true rfl) rfl ?_
    refine s_iconst (v := 2) dL_more_19 (by decide) ?_
    exact s_iret dL_more_20 rfl
  · refine s_astore (lv' := [(4, .inr (.inr (some q4))), (0, .inr (.inr v0)), (1, .inl v1), (2, .inl v2), (3, .inr (.inr v3))]) dL_more_21 (Nat.le_of_ble_eq_true rfl) rfl ?_
    refine s_iconst (v := 3) dL_more_23 (by decide) ?_
    exact s_iret dL_more_24 rfl
theorem met_L_more (l : Launch) (hfl : l.stackTraces = false) (v0 : Option Nat) (v1 : Int32) (v2 : Int32) (v3 : Option Nat) : zMetH l yL_more cL_more 5 (some .int) [(0, 10, 13, 29), (0, 10, 17, 13), (0, 10, 21, 15)] 9 213 [.inr (.inr v0), .inl v1, .inl v2, .inr (.inr v3)] zcI (p_L_more v0 v1 v2 v3) :=
  zMetH.of (by decide +kernel) (Nat.le_of_ble_eq_true rfl) rfl (sim_L_more l hfl v0 v1 v2 v3)
def p_L_sound_b16 (s0 : Option Nat) (s1 : Int32) (s2 : Int64) : ZM Int32 :=
  z_b (z_sL s0 s1 s2) fun _ => z_rt 0
def p_L_sound (v0 : Option Nat) (v1 : Int32) (v2 : Int32) (v3 : Option Nat) : ZM Int32 :=
  z_bx (z_vr 12 v0 (p_X11_sound v0 v1 v2)) (fun x1 => if x1 = 0 then (p_L_sound_b16 v3 0 0)
  else (p_L_sound_b16 v3 0 1)) (z_h1 0 (z_rt 1))
abbrev M_L_sound (l : Launch) : ZMe := (l, "SpellScribeLaw", cL_sound, 5, 9, 143, (some .int), "sound", tableOf [(0, 17, 20, 13)])
set_option maxRecDepth 20000 in
theorem sim_L_sound_b16 (l : Launch) (hfl : l.stackTraces = false) (s0 : Option Nat) (s1 : Int32) (s2 : Int64) : Sim (M_L_sound l) (zFin zcI) 16 [] [.inr (.inl s2), .inl s1, .inr (.inr s0)] (p_L_sound_b16 s0 s1 s2) := by
  unfold p_L_sound_b16
  refine s_last dL_sound_16 ?_
  refine s_goto (tgt := 24) dL_sound_17 (by decide) ?_
  refine s_iconst (v := 0) dL_sound_24 (by decide) ?_
  exact s_iret dL_sound_25 rfl
set_option maxRecDepth 20000 in
theorem sim_L_sound (l : Launch) (hfl : l.stackTraces = false) (v0 : Option Nat) (v1 : Int32) (v2 : Int32) (v3 : Option Nat) : Sim (M_L_sound l) (zFin zcI) 0 [(0, .inr (.inr v0)), (1, .inl v1), (2, .inl v2), (3, .inr (.inr v3))] [] (p_L_sound v0 v1 v2 v3) := by
  unfold p_L_sound
  refine s_aloadn (j := 3) dL_sound_0 rfl ?_
  refine s_iconst (v := 0) dL_sound_1 (by decide) ?_
  refine s_aloadn (j := 0) dL_sound_2 rfl ?_
  refine s_iloadn (j := 1) dL_sound_3 rfl ?_
  refine s_iloadn (j := 2) dL_sound_4 rfl ?_
  refine s_callVX (rest := [.inl 0, .inr (.inr v3)]) (st' := fun x => .inl x :: [.inl 0, .inr (.inr v3)]) (met_X11_sound l hfl v0 v1 v2) cls_12 mth_X11_sound rfl dL_sound_5 w_1062 w_1063 w_1064 ⟨Nat.le_of_ble_eq_true rfl, Nat.le_of_ble_eq_true rfl⟩ (Nat.le_of_ble_eq_true rfl) rfl (fun _ => rfl) (fun x1 => ?_) (s_h1 ⟨[], _, _, rfl, fun _ h => absurd h List.not_mem_nil, by decide, by decide, w_705, by decide, rfl⟩ (fun q2 => ?_))
  · refine s_if_eq (tgt := 15) dL_sound_8 (by decide) ?_ ?_
    · refine s_lconst (v := 0) dL_sound_15 (by decide) ?_
      exact Sim.sub [] rfl (sim_L_sound_b16 l hfl v3 0 0)
    · refine s_lconst (v := 1) dL_sound_11 (by decide) ?_
      refine s_goto (tgt := 16) dL_sound_12 (by decide) ?_
      exact Sim.sub [] rfl (sim_L_sound_b16 l hfl v3 0 1)
  · refine s_astore (lv' := [(4, .inr (.inr (some q2))), (0, .inr (.inr v0)), (1, .inl v1), (2, .inl v2), (3, .inr (.inr v3))]) dL_sound_20 (Nat.le_of_ble_eq_true rfl) rfl ?_
    refine s_iconst (v := 1) dL_sound_22 (by decide) ?_
    exact s_iret dL_sound_23 rfl
theorem met_L_sound (l : Launch) (hfl : l.stackTraces = false) (v0 : Option Nat) (v1 : Int32) (v2 : Int32) (v3 : Option Nat) : zMetH l yL_sound cL_sound 5 (some .int) [(0, 17, 20, 13)] 9 143 [.inr (.inr v0), .inl v1, .inl v2, .inr (.inr v3)] zcI (p_L_sound v0 v1 v2 v3) :=
  zMetH.of (by decide +kernel) (Nat.le_of_ble_eq_true rfl) rfl (sim_L_sound l hfl v0 v1 v2 v3)
def p_L_own (v0 : Option Nat) (v1 : Int32) (v2 : Int32) (v3 : Option Nat) : ZM Int32 :=
  z_bx (z_vr 12 v0 (p_X11_own v0 v1 v2)) (fun x1 => z_b (z_sL v3 0 (Int32.toInt64 x1)) fun _ => z_rt 0) (z_h2 0 1 (z_rt 1) (z_rt 2))
abbrev M_L_own (l : Launch) : ZMe := (l, "SpellScribeLaw", cL_own, 5, 9, 155, (some .int), "own", tableOf [(0, 10, 13, 13), (0, 10, 17, 15)])
set_option maxRecDepth 20000 in
theorem sim_L_own (l : Launch) (hfl : l.stackTraces = false) (v0 : Option Nat) (v1 : Int32) (v2 : Int32) (v3 : Option Nat) : Sim (M_L_own l) (zFin zcI) 0 [(0, .inr (.inr v0)), (1, .inl v1), (2, .inl v2), (3, .inr (.inr v3))] [] (p_L_own v0 v1 v2 v3) := by
  unfold p_L_own
  refine s_aloadn (j := 3) dL_own_0 rfl ?_
  refine s_iconst (v := 0) dL_own_1 (by decide) ?_
  refine s_aloadn (j := 0) dL_own_2 rfl ?_
  refine s_iloadn (j := 1) dL_own_3 rfl ?_
  refine s_iloadn (j := 2) dL_own_4 rfl ?_
  refine s_callVX (rest := [.inl 0, .inr (.inr v3)]) (st' := fun x => .inl x :: [.inl 0, .inr (.inr v3)]) (met_X11_own l hfl v0 v1 v2) cls_12 mth_X11_own rfl dL_own_5 w_1074 w_1075 w_1076 ⟨Nat.le_of_ble_eq_true rfl, Nat.le_of_ble_eq_true rfl⟩ (Nat.le_of_ble_eq_true rfl) rfl (fun _ => rfl) (fun x1 => ?_) (s_h2 ⟨[], _, _, rfl, fun _ h => absurd h List.not_mem_nil, by decide, by decide, w_705, by decide, rfl⟩ ⟨[_], _, _, rfl, List.forall_mem_cons.mpr ⟨Or.inr ⟨by decide, 0, by decide, by decide, w_705⟩, fun _ h => absurd h List.not_mem_nil⟩, by decide, by decide, w_706, by decide, rfl⟩ (fun q2 => ?_) (fun q3 => ?_))
  · refine s_i2l dL_own_8 ?_
    refine s_last dL_own_9 ?_
    refine s_goto (tgt := 21) dL_own_10 (by decide) ?_
    refine s_iconst (v := 0) dL_own_21 (by decide) ?_
    exact s_iret dL_own_22 rfl
  · refine s_astore (lv' := [(4, .inr (.inr (some q2))), (0, .inr (.inr v0)), (1, .inl v1), (2, .inl v2), (3, .inr (.inr v3))]) dL_own_13 (Nat.le_of_ble_eq_true rfl) rfl ?_
    refine s_iconst (v := 1) dL_own_15 (by decide) ?_
    exact s_iret dL_own_16 rfl
  · refine s_astore (lv' := [(4, .inr (.inr (some q3))), (0, .inr (.inr v0)), (1, .inl v1), (2, .inl v2), (3, .inr (.inr v3))]) dL_own_17 (Nat.le_of_ble_eq_true rfl) rfl ?_
    refine s_iconst (v := 2) dL_own_19 (by decide) ?_
    exact s_iret dL_own_20 rfl
theorem met_L_own (l : Launch) (hfl : l.stackTraces = false) (v0 : Option Nat) (v1 : Int32) (v2 : Int32) (v3 : Option Nat) : zMetH l yL_own cL_own 5 (some .int) [(0, 10, 13, 13), (0, 10, 17, 15)] 9 155 [.inr (.inr v0), .inl v1, .inl v2, .inr (.inr v3)] zcI (p_L_own v0 v1 v2 v3) :=
  zMetH.of (by decide +kernel) (Nat.le_of_ble_eq_true rfl) rfl (sim_L_own l hfl v0 v1 v2 v3)
def p_L_bar (v0 : Option Nat) (v1 : Option Nat) : ZM Int32 :=
  z_bx (z_vr 12 v0 (p_X11_bar v0)) (fun x1 => z_b (z_sL v1 0 (Int32.toInt64 x1)) fun _ => z_rt 0) (z_h1 1 (z_rt 1))
abbrev M_L_bar (l : Launch) : ZMe := (l, "SpellScribeLaw", cL_bar, 3, 9, 152, (some .int), "bar", tableOf [(0, 8, 11, 15)])
set_option maxRecDepth 20000 in
theorem sim_L_bar (l : Launch) (hfl : l.stackTraces = false) (v0 : Option Nat) (v1 : Option Nat) : Sim (M_L_bar l) (zFin zcI) 0 [(0, .inr (.inr v0)), (1, .inr (.inr v1))] [] (p_L_bar v0 v1) := by
  unfold p_L_bar
  refine s_aloadn (j := 1) dL_bar_0 rfl ?_
  refine s_iconst (v := 0) dL_bar_1 (by decide) ?_
  refine s_aloadn (j := 0) dL_bar_2 rfl ?_
  refine s_callVX (rest := [.inl 0, .inr (.inr v1)]) (st' := fun x => .inl x :: [.inl 0, .inr (.inr v1)]) (met_X11_bar l hfl v0) cls_12 mth_X11_bar rfl dL_bar_3 w_1101 w_1102 w_1103 ⟨Nat.le_of_ble_eq_true rfl, Nat.le_of_ble_eq_true rfl⟩ (Nat.le_of_ble_eq_true rfl) rfl (fun _ => rfl) (fun x1 => ?_) (s_h1 ⟨[], _, _, rfl, fun _ h => absurd h List.not_mem_nil, by decide, by decide, w_706, by decide, rfl⟩ (fun q2 => ?_))
  · refine s_i2l dL_bar_6 ?_
    refine s_last dL_bar_7 ?_
    refine s_goto (tgt := 14) dL_bar_8 (by decide) ?_
    refine s_iconst (v := 0) dL_bar_14 (by decide) ?_
    exact s_iret dL_bar_15 rfl
  · refine s_astoren (lv' := [(2, .inr (.inr (some q2))), (0, .inr (.inr v0)), (1, .inr (.inr v1))]) dL_bar_11 (Nat.le_of_ble_eq_true rfl) rfl ?_
    refine s_iconst (v := 1) dL_bar_12 (by decide) ?_
    exact s_iret dL_bar_13 rfl
theorem met_L_bar (l : Launch) (hfl : l.stackTraces = false) (v0 : Option Nat) (v1 : Option Nat) : zMetH l yL_bar cL_bar 3 (some .int) [(0, 8, 11, 15)] 9 152 [.inr (.inr v0), .inr (.inr v1)] zcI (p_L_bar v0 v1) :=
  zMetH.of (by decide +kernel) (Nat.le_of_ble_eq_true rfl) rfl (sim_L_bar l hfl v0 v1)
def p_L_ignore (v0 : Option Nat) (v1 : Int32) (v2 : Option Nat) : ZM Int32 :=
  z_bx (z_vr 12 v0 (p_X11_ignore v0 v1)) (fun x1 => z_b (z_sL v2 0 (Int32.toInt64 x1)) fun _ => z_rt 0) (z_h2 2 1 (z_rt 1) (z_rt 2))
abbrev M_L_ignore (l : Launch) : ZMe := (l, "SpellScribeLaw", cL_ignore, 4, 9, 193, (some .int), "ignore", tableOf [(0, 9, 12, 29), (0, 9, 15, 15)])
set_option maxRecDepth 20000 in
theorem sim_L_ignore (l : Launch) (hfl : l.stackTraces = false) (v0 : Option Nat) (v1 : Int32) (v2 : Option Nat) : Sim (M_L_ignore l) (zFin zcI) 0 [(0, .inr (.inr v0)), (1, .inl v1), (2, .inr (.inr v2))] [] (p_L_ignore v0 v1 v2) := by
  unfold p_L_ignore
  refine s_aloadn (j := 2) dL_ignore_0 rfl ?_
  refine s_iconst (v := 0) dL_ignore_1 (by decide) ?_
  refine s_aloadn (j := 0) dL_ignore_2 rfl ?_
  refine s_iloadn (j := 1) dL_ignore_3 rfl ?_
  refine s_callVX (rest := [.inl 0, .inr (.inr v2)]) (st' := fun x => .inl x :: [.inl 0, .inr (.inr v2)]) (met_X11_ignore l hfl v0 v1) cls_12 mth_X11_ignore rfl dL_ignore_4 w_1121 w_1122 w_1123 ⟨Nat.le_of_ble_eq_true rfl, Nat.le_of_ble_eq_true rfl⟩ (Nat.le_of_ble_eq_true rfl) rfl (fun _ => rfl) (fun x1 => ?_) (s_h2 ⟨[], _, _, rfl, fun _ h => absurd h List.not_mem_nil, by decide, by decide, w_1031, by decide, rfl⟩ ⟨[_], _, _, rfl, List.forall_mem_cons.mpr ⟨Or.inr ⟨by decide, 2, by decide, by decide, w_1031⟩, fun _ h => absurd h List.not_mem_nil⟩, by decide, by decide, w_706, by decide, rfl⟩ (fun q2 => ?_) (fun q3 => ?_))
  · refine s_i2l dL_ignore_7 ?_
    refine s_last dL_ignore_8 ?_
    refine s_goto (tgt := 18) dL_ignore_9 (by decide) ?_
    refine s_iconst (v := 0) dL_ignore_18 (by decide) ?_
    exact s_iret dL_ignore_19 rfl
  · refine s_astoren (lv' := [(3, .inr (.inr (some q2))), (0, .inr (.inr v0)), (1, .inl v1), (2, .inr (.inr v2))]) dL_ignore_12 (Nat.le_of_ble_eq_true rfl) rfl ?_
    refine s_iconst (v := 1) dL_ignore_13 (by decide) ?_
    exact s_iret dL_ignore_14 rfl
  · refine s_astoren (lv' := [(3, .inr (.inr (some q3))), (0, .inr (.inr v0)), (1, .inl v1), (2, .inr (.inr v2))]) dL_ignore_15 (Nat.le_of_ble_eq_true rfl) rfl ?_
    refine s_iconst (v := 2) dL_ignore_16 (by decide) ?_
    exact s_iret dL_ignore_17 rfl
theorem met_L_ignore (l : Launch) (hfl : l.stackTraces = false) (v0 : Option Nat) (v1 : Int32) (v2 : Option Nat) : zMetH l yL_ignore cL_ignore 4 (some .int) [(0, 9, 12, 29), (0, 9, 15, 15)] 9 193 [.inr (.inr v0), .inl v1, .inr (.inr v2)] zcI (p_L_ignore v0 v1 v2) :=
  zMetH.of (by decide +kernel) (Nat.le_of_ble_eq_true rfl) rfl (sim_L_ignore l hfl v0 v1 v2)
def p_L_tell (v0 : Option Nat) (v1 : Int32) (v2 : Int32) (v3 : Int32) (v4 : Option Nat) : ZM Int32 :=
  z_bx (z_vr 12 v0 (p_X11_tell v0 v1 v2 v3)) (fun x1 => z_b (z_sL v4 0 (Int32.toInt64 x1)) fun _ => z_rt 0) (z_h1 0 (z_rt 1))
abbrev M_L_tell (l : Launch) : ZMe := (l, "SpellScribeLaw", cL_tell, 6, 9, 143, (some .int), "tell", tableOf [(0, 12, 15, 13)])
set_option maxRecDepth 20000 in
theorem sim_L_tell (l : Launch) (hfl : l.stackTraces = false) (v0 : Option Nat) (v1 : Int32) (v2 : Int32) (v3 : Int32) (v4 : Option Nat) : Sim (M_L_tell l) (zFin zcI) 0 [(0, .inr (.inr v0)), (1, .inl v1), (2, .inl v2), (3, .inl v3), (4, .inr (.inr v4))] [] (p_L_tell v0 v1 v2 v3 v4) := by
  unfold p_L_tell
  refine s_aload (j := 4) dL_tell_0 rfl ?_
  refine s_iconst (v := 0) dL_tell_2 (by decide) ?_
  refine s_aloadn (j := 0) dL_tell_3 rfl ?_
  refine s_iloadn (j := 1) dL_tell_4 rfl ?_
  refine s_iloadn (j := 2) dL_tell_5 rfl ?_
  refine s_iloadn (j := 3) dL_tell_6 rfl ?_
  refine s_callVX (rest := [.inl 0, .inr (.inr v4)]) (st' := fun x => .inl x :: [.inl 0, .inr (.inr v4)]) (met_X11_tell l hfl v0 v1 v2 v3) cls_12 mth_X11_tell rfl dL_tell_7 w_1138 w_1139 w_1140 ⟨Nat.le_of_ble_eq_true rfl, Nat.le_of_ble_eq_true rfl⟩ (Nat.le_of_ble_eq_true rfl) rfl (fun _ => rfl) (fun x1 => ?_) (s_h1 ⟨[], _, _, rfl, fun _ h => absurd h List.not_mem_nil, by decide, by decide, w_705, by decide, rfl⟩ (fun q2 => ?_))
  · refine s_i2l dL_tell_10 ?_
    refine s_last dL_tell_11 ?_
    refine s_goto (tgt := 19) dL_tell_12 (by decide) ?_
    refine s_iconst (v := 0) dL_tell_19 (by decide) ?_
    exact s_iret dL_tell_20 rfl
  · refine s_astore (lv' := [(5, .inr (.inr (some q2))), (0, .inr (.inr v0)), (1, .inl v1), (2, .inl v2), (3, .inl v3), (4, .inr (.inr v4))]) dL_tell_15 (Nat.le_of_ble_eq_true rfl) rfl ?_
    refine s_iconst (v := 1) dL_tell_17 (by decide) ?_
    exact s_iret dL_tell_18 rfl
theorem met_L_tell (l : Launch) (hfl : l.stackTraces = false) (v0 : Option Nat) (v1 : Int32) (v2 : Int32) (v3 : Int32) (v4 : Option Nat) : zMetH l yL_tell cL_tell 6 (some .int) [(0, 12, 15, 13)] 9 143 [.inr (.inr v0), .inl v1, .inl v2, .inl v3, .inr (.inr v4)] zcI (p_L_tell v0 v1 v2 v3 v4) :=
  zMetH.of (by decide +kernel) (Nat.le_of_ble_eq_true rfl) rfl (sim_L_tell l hfl v0 v1 v2 v3 v4)
def p_L_item (v0 : Option Nat) (v1 : Int32) (v2 : Option Nat) : ZM Int32 :=
  z_bx (z_vr 12 v0 (p_X11_item v0 v1)) (fun x1 => z_b (z_sL v2 0 (Int32.toInt64 x1)) fun _ => z_rt 0) (z_h2 0 1 (z_rt 1) (z_rt 2))
abbrev M_L_item (l : Launch) : ZMe := (l, "SpellScribeLaw", cL_item, 4, 9, 141, (some .int), "item", tableOf [(0, 9, 12, 13), (0, 9, 15, 15)])
set_option maxRecDepth 20000 in
theorem sim_L_item (l : Launch) (hfl : l.stackTraces = false) (v0 : Option Nat) (v1 : Int32) (v2 : Option Nat) : Sim (M_L_item l) (zFin zcI) 0 [(0, .inr (.inr v0)), (1, .inl v1), (2, .inr (.inr v2))] [] (p_L_item v0 v1 v2) := by
  unfold p_L_item
  refine s_aloadn (j := 2) dL_item_0 rfl ?_
  refine s_iconst (v := 0) dL_item_1 (by decide) ?_
  refine s_aloadn (j := 0) dL_item_2 rfl ?_
  refine s_iloadn (j := 1) dL_item_3 rfl ?_
  refine s_callVX (rest := [.inl 0, .inr (.inr v2)]) (st' := fun x => .inl x :: [.inl 0, .inr (.inr v2)]) (met_X11_item l hfl v0 v1) cls_12 mth_X11_item rfl dL_item_4 w_1150 w_1151 w_1152 ⟨Nat.le_of_ble_eq_true rfl, Nat.le_of_ble_eq_true rfl⟩ (Nat.le_of_ble_eq_true rfl) rfl (fun _ => rfl) (fun x1 => ?_) (s_h2 ⟨[], _, _, rfl, fun _ h => absurd h List.not_mem_nil, by decide, by decide, w_705, by decide, rfl⟩ ⟨[_], _, _, rfl, List.forall_mem_cons.mpr ⟨Or.inr ⟨by decide, 0, by decide, by decide, w_705⟩, fun _ h => absurd h List.not_mem_nil⟩, by decide, by decide, w_706, by decide, rfl⟩ (fun q2 => ?_) (fun q3 => ?_))
  · refine s_i2l dL_item_7 ?_
    refine s_last dL_item_8 ?_
    refine s_goto (tgt := 18) dL_item_9 (by decide) ?_
    refine s_iconst (v := 0) dL_item_18 (by decide) ?_
    exact s_iret dL_item_19 rfl
  · refine s_astoren (lv' := [(3, .inr (.inr (some q2))), (0, .inr (.inr v0)), (1, .inl v1), (2, .inr (.inr v2))]) dL_item_12 (Nat.le_of_ble_eq_true rfl) rfl ?_
    refine s_iconst (v := 1) dL_item_13 (by decide) ?_
    exact s_iret dL_item_14 rfl
  · refine s_astoren (lv' := [(3, .inr (.inr (some q3))), (0, .inr (.inr v0)), (1, .inl v1), (2, .inr (.inr v2))]) dL_item_15 (Nat.le_of_ble_eq_true rfl) rfl ?_
    refine s_iconst (v := 2) dL_item_16 (by decide) ?_
    exact s_iret dL_item_17 rfl
theorem met_L_item (l : Launch) (hfl : l.stackTraces = false) (v0 : Option Nat) (v1 : Int32) (v2 : Option Nat) : zMetH l yL_item cL_item 4 (some .int) [(0, 9, 12, 13), (0, 9, 15, 15)] 9 141 [.inr (.inr v0), .inl v1, .inr (.inr v2)] zcI (p_L_item v0 v1 v2) :=
  zMetH.of (by decide +kernel) (Nat.le_of_ble_eq_true rfl) rfl (sim_L_item l hfl v0 v1 v2)
def p_L_style (v0 : Option Nat) (v1 : Int32) (v2 : Option Nat) : ZM Int32 :=
  z_bx (z_vr 12 v0 (p_X11_style v0 v1)) (fun x1 => z_b (z_sL v2 0 (Int32.toInt64 x1)) fun _ => z_rt 0) (z_h2 1 2 (z_rt 1) (z_rt 2))
abbrev M_L_style (l : Launch) : ZMe := (l, "SpellScribeLaw", cL_style, 4, 9, 192, (some .int), "style", tableOf [(0, 9, 12, 15), (0, 9, 15, 29)])
set_option maxRecDepth 20000 in
theorem sim_L_style (l : Launch) (hfl : l.stackTraces = false) (v0 : Option Nat) (v1 : Int32) (v2 : Option Nat) : Sim (M_L_style l) (zFin zcI) 0 [(0, .inr (.inr v0)), (1, .inl v1), (2, .inr (.inr v2))] [] (p_L_style v0 v1 v2) := by
  unfold p_L_style
  refine s_aloadn (j := 2) dL_style_0 rfl ?_
  refine s_iconst (v := 0) dL_style_1 (by decide) ?_
  refine s_aloadn (j := 0) dL_style_2 rfl ?_
  refine s_iloadn (j := 1) dL_style_3 rfl ?_
  refine s_callVX (rest := [.inl 0, .inr (.inr v2)]) (st' := fun x => .inl x :: [.inl 0, .inr (.inr v2)]) (met_X11_style l hfl v0 v1) cls_12 mth_X11_style rfl dL_style_4 w_1164 w_1165 w_1166 ⟨Nat.le_of_ble_eq_true rfl, Nat.le_of_ble_eq_true rfl⟩ (Nat.le_of_ble_eq_true rfl) rfl (fun _ => rfl) (fun x1 => ?_) (s_h2 ⟨[], _, _, rfl, fun _ h => absurd h List.not_mem_nil, by decide, by decide, w_706, by decide, rfl⟩ ⟨[_], _, _, rfl, List.forall_mem_cons.mpr ⟨Or.inr ⟨by decide, 1, by decide, by decide, w_706⟩, fun _ h => absurd h List.not_mem_nil⟩, by decide, by decide, w_1031, by decide, rfl⟩ (fun q2 => ?_) (fun q3 => ?_))
  · refine s_i2l dL_style_7 ?_
    refine s_last dL_style_8 ?_
    refine s_goto (tgt := 18) dL_style_9 (by decide) ?_
    refine s_iconst (v := 0) dL_style_18 (by decide) ?_
    exact s_iret dL_style_19 rfl
  · refine s_astoren (lv' := [(3, .inr (.inr (some q2))), (0, .inr (.inr v0)), (1, .inl v1), (2, .inr (.inr v2))]) dL_style_12 (Nat.le_of_ble_eq_true rfl) rfl ?_
    refine s_iconst (v := 1) dL_style_13 (by decide) ?_
    exact s_iret dL_style_14 rfl
  · refine s_astoren (lv' := [(3, .inr (.inr (some q3))), (0, .inr (.inr v0)), (1, .inl v1), (2, .inr (.inr v2))]) dL_style_15 (Nat.le_of_ble_eq_true rfl) rfl ?_
    refine s_iconst (v := 2) dL_style_16 (by decide) ?_
    exact s_iret dL_style_17 rfl
theorem met_L_style (l : Launch) (hfl : l.stackTraces = false) (v0 : Option Nat) (v1 : Int32) (v2 : Option Nat) : zMetH l yL_style cL_style 4 (some .int) [(0, 9, 12, 15), (0, 9, 15, 29)] 9 192 [.inr (.inr v0), .inl v1, .inr (.inr v2)] zcI (p_L_style v0 v1 v2) :=
  zMetH.of (by decide +kernel) (Nat.le_of_ble_eq_true rfl) rfl (sim_L_style l hfl v0 v1 v2)
def p_L_put (v0 : Option Nat) (v1 : Int32) (v2 : Int32) (v3 : Option Nat) : ZM Int32 :=
  z_bx (z_vr 12 v0 (p_X11_put v0 v1 v2)) (fun x1 => z_b (z_sL v3 0 (Int32.toInt64 x1)) fun _ => z_rt 0) (z_h3 2 0 1 (z_rt 1) (z_rt 2) (z_rt 3))
abbrev M_L_put (l : Launch) : ZMe := (l, "SpellScribeLaw", cL_put, 5, 9, 142, (some .int), "put", tableOf [(0, 10, 13, 29), (0, 10, 17, 13), (0, 10, 21, 15)])
set_option maxRecDepth 20000 in
theorem sim_L_put (l : Launch) (hfl : l.stackTraces = false) (v0 : Option Nat) (v1 : Int32) (v2 : Int32) (v3 : Option Nat) : Sim (M_L_put l) (zFin zcI) 0 [(0, .inr (.inr v0)), (1, .inl v1), (2, .inl v2), (3, .inr (.inr v3))] [] (p_L_put v0 v1 v2 v3) := by
  unfold p_L_put
  refine s_aloadn (j := 3) dL_put_0 rfl ?_
  refine s_iconst (v := 0) dL_put_1 (by decide) ?_
  refine s_aloadn (j := 0) dL_put_2 rfl ?_
  refine s_iloadn (j := 1) dL_put_3 rfl ?_
  refine s_iloadn (j := 2) dL_put_4 rfl ?_
  refine s_callVX (rest := [.inl 0, .inr (.inr v3)]) (st' := fun x => .inl x :: [.inl 0, .inr (.inr v3)]) (met_X11_put l hfl v0 v1 v2) cls_12 mth_X11_put rfl dL_put_5 w_1179 w_1180 w_1181 ⟨Nat.le_of_ble_eq_true rfl, Nat.le_of_ble_eq_true rfl⟩ (Nat.le_of_ble_eq_true rfl) rfl (fun _ => rfl) (fun x1 => ?_) (s_h3 ⟨[], _, _, rfl, fun _ h => absurd h List.not_mem_nil, by decide, by decide, w_1031, by decide, rfl⟩ ⟨[_], _, _, rfl, List.forall_mem_cons.mpr ⟨Or.inr ⟨by decide, 2, by decide, by decide, w_1031⟩, fun _ h => absurd h List.not_mem_nil⟩, by decide, by decide, w_705, by decide, rfl⟩ ⟨[_, _], _, _, rfl, List.forall_mem_cons.mpr ⟨Or.inr ⟨by decide, 2, by decide, by decide, w_1031⟩, List.forall_mem_cons.mpr ⟨Or.inr ⟨by decide, 0, by decide, by decide, w_705⟩, fun _ h => absurd h List.not_mem_nil⟩⟩, by decide, by decide, w_706, by decide, rfl⟩ (fun q2 => ?_) (fun q3 => ?_) (fun q4 => ?_))
  · refine s_i2l dL_put_8 ?_
    refine s_last dL_put_9 ?_
    refine s_goto (tgt := 25) dL_put_10 (by decide) ?_
    refine s_iconst (v := 0) dL_put_25 (by decide) ?_
    exact s_iret dL_put_26 rfl
  · refine s_astore (lv' := [(4, .inr (.inr (some q2))), (0, .inr (.inr v0)), (1, .inl v1), (2, .inl v2), (3, .inr (.inr v3))]) dL_put_13 (Nat.le_of_ble_eq_true rfl) rfl ?_
    refine s_iconst (v := 1) dL_put_15 (by decide) ?_
    exact s_iret dL_put_16 rfl
  · refine s_astore (lv' := [(4, .inr (.inr (some q3))), (0, .inr (.inr v0)), (1, .inl v1), (2, .inl v2), (3, .inr (.inr v3))]) dL_put_17 (Nat.le_of_ble_eq_true rfl) rfl ?_
    refine s_iconst (v := 2) dL_put_19 (by decide) ?_
    exact s_iret dL_put_20 rfl
  · refine s_astore (lv' := [(4, .inr (.inr (some q4))), (0, .inr (.inr v0)), (1, .inl v1), (2, .inl v2), (3, .inr (.inr v3))]) dL_put_21 (Nat.le_of_ble_eq_true rfl) rfl ?_
    refine s_iconst (v := 3) dL_put_23 (by decide) ?_
    exact s_iret dL_put_24 rfl
theorem met_L_put (l : Launch) (hfl : l.stackTraces = false) (v0 : Option Nat) (v1 : Int32) (v2 : Int32) (v3 : Option Nat) : zMetH l yL_put cL_put 5 (some .int) [(0, 10, 13, 29), (0, 10, 17, 13), (0, 10, 21, 15)] 9 142 [.inr (.inr v0), .inl v1, .inl v2, .inr (.inr v3)] zcI (p_L_put v0 v1 v2 v3) :=
  zMetH.of (by decide +kernel) (Nat.le_of_ble_eq_true rfl) rfl (sim_L_put l hfl v0 v1 v2 v3)
def p_L_take (v0 : Option Nat) (v1 : Int32) (v2 : Option Nat) : ZM Int32 :=
  z_bx (z_vr 12 v0 (p_X11_take v0 v1)) (fun x1 => z_b (z_sL v2 0 (Int32.toInt64 x1)) fun _ => z_rt 0) (z_h1 2 (z_rt 1))
abbrev M_L_take (l : Launch) : ZMe := (l, "SpellScribeLaw", cL_take, 4, 9, 141, (some .int), "take", tableOf [(0, 9, 12, 29)])
set_option maxRecDepth 20000 in
theorem sim_L_take (l : Launch) (hfl : l.stackTraces = false) (v0 : Option Nat) (v1 : Int32) (v2 : Option Nat) : Sim (M_L_take l) (zFin zcI) 0 [(0, .inr (.inr v0)), (1, .inl v1), (2, .inr (.inr v2))] [] (p_L_take v0 v1 v2) := by
  unfold p_L_take
  refine s_aloadn (j := 2) dL_take_0 rfl ?_
  refine s_iconst (v := 0) dL_take_1 (by decide) ?_
  refine s_aloadn (j := 0) dL_take_2 rfl ?_
  refine s_iloadn (j := 1) dL_take_3 rfl ?_
  refine s_callVX (rest := [.inl 0, .inr (.inr v2)]) (st' := fun x => .inl x :: [.inl 0, .inr (.inr v2)]) (met_X11_take l hfl v0 v1) cls_12 mth_X11_take rfl dL_take_4 w_1214 w_1215 w_1216 ⟨Nat.le_of_ble_eq_true rfl, Nat.le_of_ble_eq_true rfl⟩ (Nat.le_of_ble_eq_true rfl) rfl (fun _ => rfl) (fun x1 => ?_) (s_h1 ⟨[], _, _, rfl, fun _ h => absurd h List.not_mem_nil, by decide, by decide, w_1031, by decide, rfl⟩ (fun q2 => ?_))
  · refine s_i2l dL_take_7 ?_
    refine s_last dL_take_8 ?_
    refine s_goto (tgt := 15) dL_take_9 (by decide) ?_
    refine s_iconst (v := 0) dL_take_15 (by decide) ?_
    exact s_iret dL_take_16 rfl
  · refine s_astoren (lv' := [(3, .inr (.inr (some q2))), (0, .inr (.inr v0)), (1, .inl v1), (2, .inr (.inr v2))]) dL_take_12 (Nat.le_of_ble_eq_true rfl) rfl ?_
    refine s_iconst (v := 1) dL_take_13 (by decide) ?_
    exact s_iret dL_take_14 rfl
theorem met_L_take (l : Launch) (hfl : l.stackTraces = false) (v0 : Option Nat) (v1 : Int32) (v2 : Option Nat) : zMetH l yL_take cL_take 4 (some .int) [(0, 9, 12, 29)] 9 141 [.inr (.inr v0), .inl v1, .inr (.inr v2)] zcI (p_L_take v0 v1 v2) :=
  zMetH.of (by decide +kernel) (Nat.le_of_ble_eq_true rfl) rfl (sim_L_take l hfl v0 v1 v2)
def p_L_signAt (v0 : Option Nat) (v1 : Int32) (v2 : Option Nat) : ZM Int32 :=
  z_bx (z_vr 12 v0 (p_X11_signAt v0 v1)) (fun x1 => z_b (z_sL v2 0 (Int32.toInt64 x1)) fun _ => z_rt 0) (z_h1 2 (z_rt 1))
abbrev M_L_signAt (l : Launch) : ZMe := (l, "SpellScribeLaw", cL_signAt, 4, 9, 141, (some .int), "signAt", tableOf [(0, 9, 12, 29)])
set_option maxRecDepth 20000 in
theorem sim_L_signAt (l : Launch) (hfl : l.stackTraces = false) (v0 : Option Nat) (v1 : Int32) (v2 : Option Nat) : Sim (M_L_signAt l) (zFin zcI) 0 [(0, .inr (.inr v0)), (1, .inl v1), (2, .inr (.inr v2))] [] (p_L_signAt v0 v1 v2) := by
  unfold p_L_signAt
  refine s_aloadn (j := 2) dL_signAt_0 rfl ?_
  refine s_iconst (v := 0) dL_signAt_1 (by decide) ?_
  refine s_aloadn (j := 0) dL_signAt_2 rfl ?_
  refine s_iloadn (j := 1) dL_signAt_3 rfl ?_
  refine s_callVX (rest := [.inl 0, .inr (.inr v2)]) (st' := fun x => .inl x :: [.inl 0, .inr (.inr v2)]) (met_X11_signAt l hfl v0 v1) cls_12 mth_X11_signAt rfl dL_signAt_4 w_1222 w_1223 w_1224 ⟨Nat.le_of_ble_eq_true rfl, Nat.le_of_ble_eq_true rfl⟩ (Nat.le_of_ble_eq_true rfl) rfl (fun _ => rfl) (fun x1 => ?_) (s_h1 ⟨[], _, _, rfl, fun _ h => absurd h List.not_mem_nil, by decide, by decide, w_1031, by decide, rfl⟩ (fun q2 => ?_))
  · refine s_i2l dL_signAt_7 ?_
    refine s_last dL_signAt_8 ?_
    refine s_goto (tgt := 15) dL_signAt_9 (by decide) ?_
    refine s_iconst (v := 0) dL_signAt_15 (by decide) ?_
    exact s_iret dL_signAt_16 rfl
  · refine s_astoren (lv' := [(3, .inr (.inr (some q2))), (0, .inr (.inr v0)), (1, .inl v1), (2, .inr (.inr v2))]) dL_signAt_12 (Nat.le_of_ble_eq_true rfl) rfl ?_
    refine s_iconst (v := 1) dL_signAt_13 (by decide) ?_
    exact s_iret dL_signAt_14 rfl
theorem met_L_signAt (l : Launch) (hfl : l.stackTraces = false) (v0 : Option Nat) (v1 : Int32) (v2 : Option Nat) : zMetH l yL_signAt cL_signAt 4 (some .int) [(0, 9, 12, 29)] 9 141 [.inr (.inr v0), .inl v1, .inr (.inr v2)] zcI (p_L_signAt v0 v1 v2) :=
  zMetH.of (by decide +kernel) (Nat.le_of_ble_eq_true rfl) rfl (sim_L_signAt l hfl v0 v1 v2)
def p_L_wordAt (v0 : Option Nat) (v1 : Int32) (v2 : Option Nat) : ZM Int32 :=
  z_bx (z_vr 12 v0 (p_X11_wordAt v0 v1)) (fun x1 => z_b (z_sL v2 0 (Int32.toInt64 x1)) fun _ => z_rt 0) (z_h1 2 (z_rt 1))
abbrev M_L_wordAt (l : Launch) : ZMe := (l, "SpellScribeLaw", cL_wordAt, 4, 9, 141, (some .int), "wordAt", tableOf [(0, 9, 12, 29)])
set_option maxRecDepth 20000 in
theorem sim_L_wordAt (l : Launch) (hfl : l.stackTraces = false) (v0 : Option Nat) (v1 : Int32) (v2 : Option Nat) : Sim (M_L_wordAt l) (zFin zcI) 0 [(0, .inr (.inr v0)), (1, .inl v1), (2, .inr (.inr v2))] [] (p_L_wordAt v0 v1 v2) := by
  unfold p_L_wordAt
  refine s_aloadn (j := 2) dL_wordAt_0 rfl ?_
  refine s_iconst (v := 0) dL_wordAt_1 (by decide) ?_
  refine s_aloadn (j := 0) dL_wordAt_2 rfl ?_
  refine s_iloadn (j := 1) dL_wordAt_3 rfl ?_
  refine s_callVX (rest := [.inl 0, .inr (.inr v2)]) (st' := fun x => .inl x :: [.inl 0, .inr (.inr v2)]) (met_X11_wordAt l hfl v0 v1) cls_12 mth_X11_wordAt rfl dL_wordAt_4 w_1230 w_1231 w_1232 ⟨Nat.le_of_ble_eq_true rfl, Nat.le_of_ble_eq_true rfl⟩ (Nat.le_of_ble_eq_true rfl) rfl (fun _ => rfl) (fun x1 => ?_) (s_h1 ⟨[], _, _, rfl, fun _ h => absurd h List.not_mem_nil, by decide, by decide, w_1031, by decide, rfl⟩ (fun q2 => ?_))
  · refine s_i2l dL_wordAt_7 ?_
    refine s_last dL_wordAt_8 ?_
    refine s_goto (tgt := 15) dL_wordAt_9 (by decide) ?_
    refine s_iconst (v := 0) dL_wordAt_15 (by decide) ?_
    exact s_iret dL_wordAt_16 rfl
  · refine s_astoren (lv' := [(3, .inr (.inr (some q2))), (0, .inr (.inr v0)), (1, .inl v1), (2, .inr (.inr v2))]) dL_wordAt_12 (Nat.le_of_ble_eq_true rfl) rfl ?_
    refine s_iconst (v := 1) dL_wordAt_13 (by decide) ?_
    exact s_iret dL_wordAt_14 rfl
theorem met_L_wordAt (l : Launch) (hfl : l.stackTraces = false) (v0 : Option Nat) (v1 : Int32) (v2 : Option Nat) : zMetH l yL_wordAt cL_wordAt 4 (some .int) [(0, 9, 12, 29)] 9 141 [.inr (.inr v0), .inl v1, .inr (.inr v2)] zcI (p_L_wordAt v0 v1 v2) :=
  zMetH.of (by decide +kernel) (Nat.le_of_ble_eq_true rfl) rfl (sim_L_wordAt l hfl v0 v1 v2)
def p_L_isRight_b15 (s0 : Option Nat) (s1 : Int32) (s2 : Int64) : ZM Int32 :=
  z_b (z_sL s0 s1 s2) fun _ => z_rt 0
def p_L_isRight (v0 : Option Nat) (v1 : Int32) (v2 : Option Nat) : ZM Int32 :=
  z_bx (z_vr 12 v0 (p_X11_isRight v0 v1)) (fun x1 => if x1 = 0 then (p_L_isRight_b15 v2 0 0)
  else (p_L_isRight_b15 v2 0 1)) (z_h1 2 (z_rt 1))
abbrev M_L_isRight (l : Launch) : ZMe := (l, "SpellScribeLaw", cL_isRight, 4, 9, 191, (some .int), "isRight", tableOf [(0, 16, 19, 29)])
set_option maxRecDepth 20000 in
theorem sim_L_isRight_b15 (l : Launch) (hfl : l.stackTraces = false) (s0 : Option Nat) (s1 : Int32) (s2 : Int64) : Sim (M_L_isRight l) (zFin zcI) 15 [] [.inr (.inl s2), .inl s1, .inr (.inr s0)] (p_L_isRight_b15 s0 s1 s2) := by
  unfold p_L_isRight_b15
  refine s_last dL_isRight_15 ?_
  refine s_goto (tgt := 22) dL_isRight_16 (by decide) ?_
  refine s_iconst (v := 0) dL_isRight_22 (by decide) ?_
  exact s_iret dL_isRight_23 rfl
set_option maxRecDepth 20000 in
theorem sim_L_isRight (l : Launch) (hfl : l.stackTraces = false) (v0 : Option Nat) (v1 : Int32) (v2 : Option Nat) : Sim (M_L_isRight l) (zFin zcI) 0 [(0, .inr (.inr v0)), (1, .inl v1), (2, .inr (.inr v2))] [] (p_L_isRight v0 v1 v2) := by
  unfold p_L_isRight
  refine s_aloadn (j := 2) dL_isRight_0 rfl ?_
  refine s_iconst (v := 0) dL_isRight_1 (by decide) ?_
  refine s_aloadn (j := 0) dL_isRight_2 rfl ?_
  refine s_iloadn (j := 1) dL_isRight_3 rfl ?_
  refine s_callVX (rest := [.inl 0, .inr (.inr v2)]) (st' := fun x => .inl x :: [.inl 0, .inr (.inr v2)]) (met_X11_isRight l hfl v0 v1) cls_12 mth_X11_isRight rfl dL_isRight_4 w_1238 w_1239 w_1240 ⟨Nat.le_of_ble_eq_true rfl, Nat.le_of_ble_eq_true rfl⟩ (Nat.le_of_ble_eq_true rfl) rfl (fun _ => rfl) (fun x1 => ?_) (s_h1 ⟨[], _, _, rfl, fun _ h => absurd h List.not_mem_nil, by decide, by decide, w_1031, by decide, rfl⟩ (fun q2 => ?_))
  · refine s_if_eq (tgt := 14) dL_isRight_7 (by decide) ?_ ?_
    · refine s_lconst (v := 0) dL_isRight_14 (by decide) ?_
      exact Sim.sub [] rfl (sim_L_isRight_b15 l hfl v2 0 0)
    · refine s_lconst (v := 1) dL_isRight_10 (by decide) ?_
      refine s_goto (tgt := 15) dL_isRight_11 (by decide) ?_
      exact Sim.sub [] rfl (sim_L_isRight_b15 l hfl v2 0 1)
  · refine s_astoren (lv' := [(3, .inr (.inr (some q2))), (0, .inr (.inr v0)), (1, .inl v1), (2, .inr (.inr v2))]) dL_isRight_19 (Nat.le_of_ble_eq_true rfl) rfl ?_
    refine s_iconst (v := 1) dL_isRight_20 (by decide) ?_
    exact s_iret dL_isRight_21 rfl
theorem met_L_isRight (l : Launch) (hfl : l.stackTraces = false) (v0 : Option Nat) (v1 : Int32) (v2 : Option Nat) : zMetH l yL_isRight cL_isRight 4 (some .int) [(0, 16, 19, 29)] 9 191 [.inr (.inr v0), .inl v1, .inr (.inr v2)] zcI (p_L_isRight v0 v1 v2) :=
  zMetH.of (by decide +kernel) (Nat.le_of_ble_eq_true rfl) rfl (sim_L_isRight l hfl v0 v1 v2)
def p_L_readings (v0 : Option Nat) (v1 : Int32) (v2 : Option Nat) : ZM Int32 :=
  z_bx (z_vr 12 v0 (p_X11_readings v0 v1)) (fun x1 => z_b (z_sL v2 0 (Int32.toInt64 x1)) fun _ => z_rt 0) (z_h1 2 (z_rt 1))
abbrev M_L_readings (l : Launch) : ZMe := (l, "SpellScribeLaw", cL_readings, 4, 9, 191, (some .int), "readings", tableOf [(0, 9, 12, 29)])
set_option maxRecDepth 20000 in
theorem sim_L_readings (l : Launch) (hfl : l.stackTraces = false) (v0 : Option Nat) (v1 : Int32) (v2 : Option Nat) : Sim (M_L_readings l) (zFin zcI) 0 [(0, .inr (.inr v0)), (1, .inl v1), (2, .inr (.inr v2))] [] (p_L_readings v0 v1 v2) := by
  unfold p_L_readings
  refine s_aloadn (j := 2) dL_readings_0 rfl ?_
  refine s_iconst (v := 0) dL_readings_1 (by decide) ?_
  refine s_aloadn (j := 0) dL_readings_2 rfl ?_
  refine s_iloadn (j := 1) dL_readings_3 rfl ?_
  refine s_callVX (rest := [.inl 0, .inr (.inr v2)]) (st' := fun x => .inl x :: [.inl 0, .inr (.inr v2)]) (met_X11_readings l hfl v0 v1) cls_12 mth_X11_readings rfl dL_readings_4 w_1245 w_1246 w_1247 ⟨Nat.le_of_ble_eq_true rfl, Nat.le_of_ble_eq_true rfl⟩ (Nat.le_of_ble_eq_true rfl) rfl (fun _ => rfl) (fun x1 => ?_) (s_h1 ⟨[], _, _, rfl, fun _ h => absurd h List.not_mem_nil, by decide, by decide, w_1031, by decide, rfl⟩ (fun q2 => ?_))
  · refine s_i2l dL_readings_7 ?_
    refine s_last dL_readings_8 ?_
    refine s_goto (tgt := 15) dL_readings_9 (by decide) ?_
    refine s_iconst (v := 0) dL_readings_15 (by decide) ?_
    exact s_iret dL_readings_16 rfl
  · refine s_astoren (lv' := [(3, .inr (.inr (some q2))), (0, .inr (.inr v0)), (1, .inl v1), (2, .inr (.inr v2))]) dL_readings_12 (Nat.le_of_ble_eq_true rfl) rfl ?_
    refine s_iconst (v := 1) dL_readings_13 (by decide) ?_
    exact s_iret dL_readings_14 rfl
theorem met_L_readings (l : Launch) (hfl : l.stackTraces = false) (v0 : Option Nat) (v1 : Int32) (v2 : Option Nat) : zMetH l yL_readings cL_readings 4 (some .int) [(0, 9, 12, 29)] 9 191 [.inr (.inr v0), .inl v1, .inr (.inr v2)] zcI (p_L_readings v0 v1 v2) :=
  zMetH.of (by decide +kernel) (Nat.le_of_ble_eq_true rfl) rfl (sim_L_readings l hfl v0 v1 v2)
def p_L_reading (v0 : Option Nat) (v1 : Int32) (v2 : Option Nat) : ZM Int32 :=
  z_bx (z_vr 12 v0 (p_X11_reading v0 v1)) (fun x1 => z_b (z_sL v2 0 (Int32.toInt64 x1)) fun _ => z_rt 0) (z_h1 2 (z_rt 1))
abbrev M_L_reading (l : Launch) : ZMe := (l, "SpellScribeLaw", cL_reading, 4, 9, 191, (some .int), "reading", tableOf [(0, 9, 12, 29)])
set_option maxRecDepth 20000 in
theorem sim_L_reading (l : Launch) (hfl : l.stackTraces = false) (v0 : Option Nat) (v1 : Int32) (v2 : Option Nat) : Sim (M_L_reading l) (zFin zcI) 0 [(0, .inr (.inr v0)), (1, .inl v1), (2, .inr (.inr v2))] [] (p_L_reading v0 v1 v2) := by
  unfold p_L_reading
  refine s_aloadn (j := 2) dL_reading_0 rfl ?_
  refine s_iconst (v := 0) dL_reading_1 (by decide) ?_
  refine s_aloadn (j := 0) dL_reading_2 rfl ?_
  refine s_iloadn (j := 1) dL_reading_3 rfl ?_
  refine s_callVX (rest := [.inl 0, .inr (.inr v2)]) (st' := fun x => .inl x :: [.inl 0, .inr (.inr v2)]) (met_X11_reading l hfl v0 v1) cls_12 mth_X11_reading rfl dL_reading_4 w_1256 w_1257 w_1258 ⟨Nat.le_of_ble_eq_true rfl, Nat.le_of_ble_eq_true rfl⟩ (Nat.le_of_ble_eq_true rfl) rfl (fun _ => rfl) (fun x1 => ?_) (s_h1 ⟨[], _, _, rfl, fun _ h => absurd h List.not_mem_nil, by decide, by decide, w_1031, by decide, rfl⟩ (fun q2 => ?_))
  · refine s_i2l dL_reading_7 ?_
    refine s_last dL_reading_8 ?_
    refine s_goto (tgt := 15) dL_reading_9 (by decide) ?_
    refine s_iconst (v := 0) dL_reading_15 (by decide) ?_
    exact s_iret dL_reading_16 rfl
  · refine s_astoren (lv' := [(3, .inr (.inr (some q2))), (0, .inr (.inr v0)), (1, .inl v1), (2, .inr (.inr v2))]) dL_reading_12 (Nat.le_of_ble_eq_true rfl) rfl ?_
    refine s_iconst (v := 1) dL_reading_13 (by decide) ?_
    exact s_iret dL_reading_14 rfl
theorem met_L_reading (l : Launch) (hfl : l.stackTraces = false) (v0 : Option Nat) (v1 : Int32) (v2 : Option Nat) : zMetH l yL_reading cL_reading 4 (some .int) [(0, 9, 12, 29)] 9 191 [.inr (.inr v0), .inl v1, .inr (.inr v2)] zcI (p_L_reading v0 v1 v2) :=
  zMetH.of (by decide +kernel) (Nat.le_of_ble_eq_true rfl) rfl (sim_L_reading l hfl v0 v1 v2)
def p_L_split (v0 : Option Nat) (v1 : Int32) (v2 : Option Nat) : ZM Int32 :=
  z_bx (z_vr 12 v0 (p_X11_split v0 v1)) (fun x1 => z_b (z_sL v2 0 (Int32.toInt64 x1)) fun _ => z_rt 0) (z_h1 2 (z_rt 1))
abbrev M_L_split (l : Launch) : ZMe := (l, "SpellScribeLaw", cL_split, 4, 9, 183, (some .int), "split", tableOf [(0, 9, 12, 29)])
set_option maxRecDepth 20000 in
theorem sim_L_split (l : Launch) (hfl : l.stackTraces = false) (v0 : Option Nat) (v1 : Int32) (v2 : Option Nat) : Sim (M_L_split l) (zFin zcI) 0 [(0, .inr (.inr v0)), (1, .inl v1), (2, .inr (.inr v2))] [] (p_L_split v0 v1 v2) := by
  unfold p_L_split
  refine s_aloadn (j := 2) dL_split_0 rfl ?_
  refine s_iconst (v := 0) dL_split_1 (by decide) ?_
  refine s_aloadn (j := 0) dL_split_2 rfl ?_
  refine s_iloadn (j := 1) dL_split_3 rfl ?_
  refine s_callVX (rest := [.inl 0, .inr (.inr v2)]) (st' := fun x => .inl x :: [.inl 0, .inr (.inr v2)]) (met_X11_split l hfl v0 v1) cls_12 mth_X11_split rfl dL_split_4 w_1267 w_1268 w_1269 ⟨Nat.le_of_ble_eq_true rfl, Nat.le_of_ble_eq_true rfl⟩ (Nat.le_of_ble_eq_true rfl) rfl (fun _ => rfl) (fun x1 => ?_) (s_h1 ⟨[], _, _, rfl, fun _ h => absurd h List.not_mem_nil, by decide, by decide, w_1031, by decide, rfl⟩ (fun q2 => ?_))
  · refine s_i2l dL_split_7 ?_
    refine s_last dL_split_8 ?_
    refine s_goto (tgt := 15) dL_split_9 (by decide) ?_
    refine s_iconst (v := 0) dL_split_15 (by decide) ?_
    exact s_iret dL_split_16 rfl
  · refine s_astoren (lv' := [(3, .inr (.inr (some q2))), (0, .inr (.inr v0)), (1, .inl v1), (2, .inr (.inr v2))]) dL_split_12 (Nat.le_of_ble_eq_true rfl) rfl ?_
    refine s_iconst (v := 1) dL_split_13 (by decide) ?_
    exact s_iret dL_split_14 rfl
theorem met_L_split (l : Launch) (hfl : l.stackTraces = false) (v0 : Option Nat) (v1 : Int32) (v2 : Option Nat) : zMetH l yL_split cL_split 4 (some .int) [(0, 9, 12, 29)] 9 183 [.inr (.inr v0), .inl v1, .inr (.inr v2)] zcI (p_L_split v0 v1 v2) :=
  zMetH.of (by decide +kernel) (Nat.le_of_ble_eq_true rfl) rfl (sim_L_split l hfl v0 v1 v2)
def p_L_mistakeKind (v0 : Option Nat) (v1 : Int32) (v2 : Option Nat) : ZM Int32 :=
  z_bx (z_vr 12 v0 (p_X11_mistakeKind v0 v1)) (fun x1 => z_b (z_sL v2 0 (Int32.toInt64 x1)) fun _ => z_rt 0) (z_h1 2 (z_rt 1))
abbrev M_L_mistakeKind (l : Launch) : ZMe := (l, "SpellScribeLaw", cL_mistakeKind, 4, 9, 191, (some .int), "mistakeKind", tableOf [(0, 9, 12, 29)])
set_option maxRecDepth 20000 in
theorem sim_L_mistakeKind (l : Launch) (hfl : l.stackTraces = false) (v0 : Option Nat) (v1 : Int32) (v2 : Option Nat) : Sim (M_L_mistakeKind l) (zFin zcI) 0 [(0, .inr (.inr v0)), (1, .inl v1), (2, .inr (.inr v2))] [] (p_L_mistakeKind v0 v1 v2) := by
  unfold p_L_mistakeKind
  refine s_aloadn (j := 2) dL_mistakeKind_0 rfl ?_
  refine s_iconst (v := 0) dL_mistakeKind_1 (by decide) ?_
  refine s_aloadn (j := 0) dL_mistakeKind_2 rfl ?_
  refine s_iloadn (j := 1) dL_mistakeKind_3 rfl ?_
  refine s_callVX (rest := [.inl 0, .inr (.inr v2)]) (st' := fun x => .inl x :: [.inl 0, .inr (.inr v2)]) (met_X11_mistakeKind l hfl v0 v1) cls_12 mth_X11_mistakeKind rfl dL_mistakeKind_4 w_1283 w_1284 w_1285 ⟨Nat.le_of_ble_eq_true rfl, Nat.le_of_ble_eq_true rfl⟩ (Nat.le_of_ble_eq_true rfl) rfl (fun _ => rfl) (fun x1 => ?_) (s_h1 ⟨[], _, _, rfl, fun _ h => absurd h List.not_mem_nil, by decide, by decide, w_1031, by decide, rfl⟩ (fun q2 => ?_))
  · refine s_i2l dL_mistakeKind_7 ?_
    refine s_last dL_mistakeKind_8 ?_
    refine s_goto (tgt := 15) dL_mistakeKind_9 (by decide) ?_
    refine s_iconst (v := 0) dL_mistakeKind_15 (by decide) ?_
    exact s_iret dL_mistakeKind_16 rfl
  · refine s_astoren (lv' := [(3, .inr (.inr (some q2))), (0, .inr (.inr v0)), (1, .inl v1), (2, .inr (.inr v2))]) dL_mistakeKind_12 (Nat.le_of_ble_eq_true rfl) rfl ?_
    refine s_iconst (v := 1) dL_mistakeKind_13 (by decide) ?_
    exact s_iret dL_mistakeKind_14 rfl
theorem met_L_mistakeKind (l : Launch) (hfl : l.stackTraces = false) (v0 : Option Nat) (v1 : Int32) (v2 : Option Nat) : zMetH l yL_mistakeKind cL_mistakeKind 4 (some .int) [(0, 9, 12, 29)] 9 191 [.inr (.inr v0), .inl v1, .inr (.inr v2)] zcI (p_L_mistakeKind v0 v1 v2) :=
  zMetH.of (by decide +kernel) (Nat.le_of_ble_eq_true rfl) rfl (sim_L_mistakeKind l hfl v0 v1 v2)
def p_L_mistakeAt (v0 : Option Nat) (v1 : Int32) (v2 : Option Nat) : ZM Int32 :=
  z_bx (z_vr 12 v0 (p_X11_mistakeAt v0 v1)) (fun x1 => z_b (z_sL v2 0 (Int32.toInt64 x1)) fun _ => z_rt 0) (z_h1 2 (z_rt 1))
abbrev M_L_mistakeAt (l : Launch) : ZMe := (l, "SpellScribeLaw", cL_mistakeAt, 4, 9, 191, (some .int), "mistakeAt", tableOf [(0, 9, 12, 29)])
set_option maxRecDepth 20000 in
theorem sim_L_mistakeAt (l : Launch) (hfl : l.stackTraces = false) (v0 : Option Nat) (v1 : Int32) (v2 : Option Nat) : Sim (M_L_mistakeAt l) (zFin zcI) 0 [(0, .inr (.inr v0)), (1, .inl v1), (2, .inr (.inr v2))] [] (p_L_mistakeAt v0 v1 v2) := by
  unfold p_L_mistakeAt
  refine s_aloadn (j := 2) dL_mistakeAt_0 rfl ?_
  refine s_iconst (v := 0) dL_mistakeAt_1 (by decide) ?_
  refine s_aloadn (j := 0) dL_mistakeAt_2 rfl ?_
  refine s_iloadn (j := 1) dL_mistakeAt_3 rfl ?_
  refine s_callVX (rest := [.inl 0, .inr (.inr v2)]) (st' := fun x => .inl x :: [.inl 0, .inr (.inr v2)]) (met_X11_mistakeAt l hfl v0 v1) cls_12 mth_X11_mistakeAt rfl dL_mistakeAt_4 w_1295 w_1296 w_1297 ⟨Nat.le_of_ble_eq_true rfl, Nat.le_of_ble_eq_true rfl⟩ (Nat.le_of_ble_eq_true rfl) rfl (fun _ => rfl) (fun x1 => ?_) (s_h1 ⟨[], _, _, rfl, fun _ h => absurd h List.not_mem_nil, by decide, by decide, w_1031, by decide, rfl⟩ (fun q2 => ?_))
  · refine s_i2l dL_mistakeAt_7 ?_
    refine s_last dL_mistakeAt_8 ?_
    refine s_goto (tgt := 15) dL_mistakeAt_9 (by decide) ?_
    refine s_iconst (v := 0) dL_mistakeAt_15 (by decide) ?_
    exact s_iret dL_mistakeAt_16 rfl
  · refine s_astoren (lv' := [(3, .inr (.inr (some q2))), (0, .inr (.inr v0)), (1, .inl v1), (2, .inr (.inr v2))]) dL_mistakeAt_12 (Nat.le_of_ble_eq_true rfl) rfl ?_
    refine s_iconst (v := 1) dL_mistakeAt_13 (by decide) ?_
    exact s_iret dL_mistakeAt_14 rfl
theorem met_L_mistakeAt (l : Launch) (hfl : l.stackTraces = false) (v0 : Option Nat) (v1 : Int32) (v2 : Option Nat) : zMetH l yL_mistakeAt cL_mistakeAt 4 (some .int) [(0, 9, 12, 29)] 9 191 [.inr (.inr v0), .inl v1, .inr (.inr v2)] zcI (p_L_mistakeAt v0 v1 v2) :=
  zMetH.of (by decide +kernel) (Nat.le_of_ble_eq_true rfl) rfl (sim_L_mistakeAt l hfl v0 v1 v2)
def p_L_suggestions (v0 : Option Nat) (v1 : Int32) (v2 : Option Nat) : ZM Int32 :=
  z_bx (z_vr 12 v0 (p_X11_suggestions v0 v1)) (fun x1 => z_b (z_sL v2 0 (Int32.toInt64 x1)) fun _ => z_rt 0) (z_h1 2 (z_rt 1))
abbrev M_L_suggestions (l : Launch) : ZMe := (l, "SpellScribeLaw", cL_suggestions, 4, 9, 184, (some .int), "suggestions", tableOf [(0, 9, 12, 29)])
set_option maxRecDepth 20000 in
theorem sim_L_suggestions (l : Launch) (hfl : l.stackTraces = false) (v0 : Option Nat) (v1 : Int32) (v2 : Option Nat) : Sim (M_L_suggestions l) (zFin zcI) 0 [(0, .inr (.inr v0)), (1, .inl v1), (2, .inr (.inr v2))] [] (p_L_suggestions v0 v1 v2) := by
  unfold p_L_suggestions
  refine s_aloadn (j := 2) dL_suggestions_0 rfl ?_
  refine s_iconst (v := 0) dL_suggestions_1 (by decide) ?_
  refine s_aloadn (j := 0) dL_suggestions_2 rfl ?_
  refine s_iloadn (j := 1) dL_suggestions_3 rfl ?_
  refine s_callVX (rest := [.inl 0, .inr (.inr v2)]) (st' := fun x => .inl x :: [.inl 0, .inr (.inr v2)]) (met_X11_suggestions l hfl v0 v1) cls_12 mth_X11_suggestions rfl dL_suggestions_4 w_1306 w_1307 w_1308 ⟨Nat.le_of_ble_eq_true rfl, Nat.le_of_ble_eq_true rfl⟩ (Nat.le_of_ble_eq_true rfl) rfl (fun _ => rfl) (fun x1 => ?_) (s_h1 ⟨[], _, _, rfl, fun _ h => absurd h List.not_mem_nil, by decide, by decide, w_1031, by decide, rfl⟩ (fun q2 => ?_))
  · refine s_i2l dL_suggestions_7 ?_
    refine s_last dL_suggestions_8 ?_
    refine s_goto (tgt := 15) dL_suggestions_9 (by decide) ?_
    refine s_iconst (v := 0) dL_suggestions_15 (by decide) ?_
    exact s_iret dL_suggestions_16 rfl
  · refine s_astoren (lv' := [(3, .inr (.inr (some q2))), (0, .inr (.inr v0)), (1, .inl v1), (2, .inr (.inr v2))]) dL_suggestions_12 (Nat.le_of_ble_eq_true rfl) rfl ?_
    refine s_iconst (v := 1) dL_suggestions_13 (by decide) ?_
    exact s_iret dL_suggestions_14 rfl
theorem met_L_suggestions (l : Launch) (hfl : l.stackTraces = false) (v0 : Option Nat) (v1 : Int32) (v2 : Option Nat) : zMetH l yL_suggestions cL_suggestions 4 (some .int) [(0, 9, 12, 29)] 9 184 [.inr (.inr v0), .inl v1, .inr (.inr v2)] zcI (p_L_suggestions v0 v1 v2) :=
  zMetH.of (by decide +kernel) (Nat.le_of_ble_eq_true rfl) rfl (sim_L_suggestions l hfl v0 v1 v2)
def p_L_suggestionsByAll (v0 : Option Nat) (v1 : Int32) (v2 : Option Nat) : ZM Int32 :=
  z_bx (z_vr 12 v0 (p_X11_suggestionsByAll v0 v1)) (fun x1 => z_b (z_sL v2 0 (Int32.toInt64 x1)) fun _ => z_rt 0) (z_h1 2 (z_rt 1))
abbrev M_L_suggestionsByAll (l : Launch) : ZMe := (l, "SpellScribeLaw", cL_suggestionsByAll, 4, 9, 163, (some .int), "suggestionsByAll", tableOf [(0, 9, 12, 29)])
set_option maxRecDepth 20000 in
theorem sim_L_suggestionsByAll (l : Launch) (hfl : l.stackTraces = false) (v0 : Option Nat) (v1 : Int32) (v2 : Option Nat) : Sim (M_L_suggestionsByAll l) (zFin zcI) 0 [(0, .inr (.inr v0)), (1, .inl v1), (2, .inr (.inr v2))] [] (p_L_suggestionsByAll v0 v1 v2) := by
  unfold p_L_suggestionsByAll
  refine s_aloadn (j := 2) dL_suggestionsByAll_0 rfl ?_
  refine s_iconst (v := 0) dL_suggestionsByAll_1 (by decide) ?_
  refine s_aloadn (j := 0) dL_suggestionsByAll_2 rfl ?_
  refine s_iloadn (j := 1) dL_suggestionsByAll_3 rfl ?_
  refine s_callVX (rest := [.inl 0, .inr (.inr v2)]) (st' := fun x => .inl x :: [.inl 0, .inr (.inr v2)]) (met_X11_suggestionsByAll l hfl v0 v1) cls_12 mth_X11_suggestionsByAll rfl dL_suggestionsByAll_4 w_1313 w_1314 w_1315 ⟨Nat.le_of_ble_eq_true rfl, Nat.le_of_ble_eq_true rfl⟩ (Nat.le_of_ble_eq_true rfl) rfl (fun _ => rfl) (fun x1 => ?_) (s_h1 ⟨[], _, _, rfl, fun _ h => absurd h List.not_mem_nil, by decide, by decide, w_1031, by decide, rfl⟩ (fun q2 => ?_))
  · refine s_i2l dL_suggestionsByAll_7 ?_
    refine s_last dL_suggestionsByAll_8 ?_
    refine s_goto (tgt := 15) dL_suggestionsByAll_9 (by decide) ?_
    refine s_iconst (v := 0) dL_suggestionsByAll_15 (by decide) ?_
    exact s_iret dL_suggestionsByAll_16 rfl
  · refine s_astoren (lv' := [(3, .inr (.inr (some q2))), (0, .inr (.inr v0)), (1, .inl v1), (2, .inr (.inr v2))]) dL_suggestionsByAll_12 (Nat.le_of_ble_eq_true rfl) rfl ?_
    refine s_iconst (v := 1) dL_suggestionsByAll_13 (by decide) ?_
    exact s_iret dL_suggestionsByAll_14 rfl
theorem met_L_suggestionsByAll (l : Launch) (hfl : l.stackTraces = false) (v0 : Option Nat) (v1 : Int32) (v2 : Option Nat) : zMetH l yL_suggestionsByAll cL_suggestionsByAll 4 (some .int) [(0, 9, 12, 29)] 9 163 [.inr (.inr v0), .inl v1, .inr (.inr v2)] zcI (p_L_suggestionsByAll v0 v1 v2) :=
  zMetH.of (by decide +kernel) (Nat.le_of_ble_eq_true rfl) rfl (sim_L_suggestionsByAll l hfl v0 v1 v2)
def p_L_cost (v0 : Option Nat) (v1 : Int32) (v2 : Int32) (v3 : Option Nat) : ZM Int32 :=
  z_bx (z_vr 12 v0 (p_X11_cost v0 v1 v2)) (fun x1 => z_b (z_sL v3 0 (Int32.toInt64 x1)) fun _ => z_rt 0) (z_h1 2 (z_rt 1))
abbrev M_L_cost (l : Launch) : ZMe := (l, "SpellScribeLaw", cL_cost, 5, 9, 207, (some .int), "cost", tableOf [(0, 10, 13, 29)])
set_option maxRecDepth 20000 in
theorem sim_L_cost (l : Launch) (hfl : l.stackTraces = false) (v0 : Option Nat) (v1 : Int32) (v2 : Int32) (v3 : Option Nat) : Sim (M_L_cost l) (zFin zcI) 0 [(0, .inr (.inr v0)), (1, .inl v1), (2, .inl v2), (3, .inr (.inr v3))] [] (p_L_cost v0 v1 v2 v3) := by
  unfold p_L_cost
  refine s_aloadn (j := 3) dL_cost_0 rfl ?_
  refine s_iconst (v := 0) dL_cost_1 (by decide) ?_
  refine s_aloadn (j := 0) dL_cost_2 rfl ?_
  refine s_iloadn (j := 1) dL_cost_3 rfl ?_
  refine s_iloadn (j := 2) dL_cost_4 rfl ?_
  refine s_callVX (rest := [.inl 0, .inr (.inr v3)]) (st' := fun x => .inl x :: [.inl 0, .inr (.inr v3)]) (met_X11_cost l hfl v0 v1 v2) cls_12 mth_X11_cost rfl dL_cost_5 w_1320 w_1321 w_1322 ⟨Nat.le_of_ble_eq_true rfl, Nat.le_of_ble_eq_true rfl⟩ (Nat.le_of_ble_eq_true rfl) rfl (fun _ => rfl) (fun x1 => ?_) (s_h1 ⟨[], _, _, rfl, fun _ h => absurd h List.not_mem_nil, by decide, by decide, w_1031, by decide, rfl⟩ (fun q2 => ?_))
  · refine s_i2l dL_cost_8 ?_
    refine s_last dL_cost_9 ?_
    refine s_goto (tgt := 17) dL_cost_10 (by decide) ?_
    refine s_iconst (v := 0) dL_cost_17 (by decide) ?_
    exact s_iret dL_cost_18 rfl
  · refine s_astore (lv' := [(4, .inr (.inr (some q2))), (0, .inr (.inr v0)), (1, .inl v1), (2, .inl v2), (3, .inr (.inr v3))]) dL_cost_13 (Nat.le_of_ble_eq_true rfl) rfl ?_
    refine s_iconst (v := 1) dL_cost_15 (by decide) ?_
    exact s_iret dL_cost_16 rfl
theorem met_L_cost (l : Launch) (hfl : l.stackTraces = false) (v0 : Option Nat) (v1 : Int32) (v2 : Int32) (v3 : Option Nat) : zMetH l yL_cost cL_cost 5 (some .int) [(0, 10, 13, 29)] 9 207 [.inr (.inr v0), .inl v1, .inl v2, .inr (.inr v3)] zcI (p_L_cost v0 v1 v2 v3) :=
  zMetH.of (by decide +kernel) (Nat.le_of_ble_eq_true rfl) rfl (sim_L_cost l hfl v0 v1 v2 v3)
def p_L_suggested (v0 : Option Nat) (v1 : Int32) (v2 : Int32) (v3 : Int32) (v4 : Option Nat) : ZM Int32 :=
  z_bx (z_vr 12 v0 (p_X11_suggested v0 v1 v2 v3)) (fun x1 => z_b (z_sL v4 0 (Int32.toInt64 x1)) fun _ => z_rt 0) (z_h1 2 (z_rt 1))
abbrev M_L_suggested (l : Launch) : ZMe := (l, "SpellScribeLaw", cL_suggested, 6, 9, 209, (some .int), "suggested", tableOf [(0, 12, 15, 29)])
set_option maxRecDepth 20000 in
theorem sim_L_suggested (l : Launch) (hfl : l.stackTraces = false) (v0 : Option Nat) (v1 : Int32) (v2 : Int32) (v3 : Int32) (v4 : Option Nat) : Sim (M_L_suggested l) (zFin zcI) 0 [(0, .inr (.inr v0)), (1, .inl v1), (2, .inl v2), (3, .inl v3), (4, .inr (.inr v4))] [] (p_L_suggested v0 v1 v2 v3 v4) := by
  unfold p_L_suggested
  refine s_aload (j := 4) dL_suggested_0 rfl ?_
  refine s_iconst (v := 0) dL_suggested_2 (by decide) ?_
  refine s_aloadn (j := 0) dL_suggested_3 rfl ?_
  refine s_iloadn (j := 1) dL_suggested_4 rfl ?_
  refine s_iloadn (j := 2) dL_suggested_5 rfl ?_
  refine s_iloadn (j := 3) dL_suggested_6 rfl ?_
  refine s_callVX (rest := [.inl 0, .inr (.inr v4)]) (st' := fun x => .inl x :: [.inl 0, .inr (.inr v4)]) (met_X11_suggested l hfl v0 v1 v2 v3) cls_12 mth_X11_suggested rfl dL_suggested_7 w_1336 w_1337 w_1338 ⟨Nat.le_of_ble_eq_true rfl, Nat.le_of_ble_eq_true rfl⟩ (Nat.le_of_ble_eq_true rfl) rfl (fun _ => rfl) (fun x1 => ?_) (s_h1 ⟨[], _, _, rfl, fun _ h => absurd h List.not_mem_nil, by decide, by decide, w_1031, by decide, rfl⟩ (fun q2 => ?_))
  · refine s_i2l dL_suggested_10 ?_
    refine s_last dL_suggested_11 ?_
    refine s_goto (tgt := 19) dL_suggested_12 (by decide) ?_
    refine s_iconst (v := 0) dL_suggested_19 (by decide) ?_
    exact s_iret dL_suggested_20 rfl
  · refine s_astore (lv' := [(5, .inr (.inr (some q2))), (0, .inr (.inr v0)), (1, .inl v1), (2, .inl v2), (3, .inl v3), (4, .inr (.inr v4))]) dL_suggested_15 (Nat.le_of_ble_eq_true rfl) rfl ?_
    refine s_iconst (v := 1) dL_suggested_17 (by decide) ?_
    exact s_iret dL_suggested_18 rfl
theorem met_L_suggested (l : Launch) (hfl : l.stackTraces = false) (v0 : Option Nat) (v1 : Int32) (v2 : Int32) (v3 : Int32) (v4 : Option Nat) : zMetH l yL_suggested cL_suggested 6 (some .int) [(0, 12, 15, 29)] 9 209 [.inr (.inr v0), .inl v1, .inl v2, .inl v3, .inr (.inr v4)] zcI (p_L_suggested v0 v1 v2 v3 v4) :=
  zMetH.of (by decide +kernel) (Nat.le_of_ble_eq_true rfl) rfl (sim_L_suggested l hfl v0 v1 v2 v3 v4)
def p_L_law_b1892 (r23 : Option Nat → Option Nat → Option Nat → Option Nat → Int32 → ZM Int32) (v0 : Option Nat) (v1 : Option Nat) (v2 : Option Nat) (v3 : Option Nat) (v4 : Int32) : ZM Int32 :=
  z_n (v4 + 7 : Int32) fun y1 => r23 v0 v1 v2 v3 y1
def p_L_law_b235 (r23 : Option Nat → Option Nat → Option Nat → Option Nat → Int32 → ZM Int32) (v0 : Option Nat) (v1 : Option Nat) (v2 : Option Nat) (v3 : Option Nat) (v4 : Int32) : ZM Int32 :=
  p_L_law_b1892 r23 v0 v1 v2 v3 v4
def p_L_law_b180 (r23 : Option Nat → Option Nat → Option Nat → Option Nat → Int32 → ZM Int32) (v0 : Option Nat) (v1 : Option Nat) (v2 : Option Nat) (v3 : Option Nat) (v4 : Int32) : ZM Int32 :=
  z_b (z_sA v0 (v4 + 1)) fun x2 => z_b (p_L_letter v1 ((Int32.toUInt32 x2 % 65536).toInt32) v3) fun x3 => z_b (z_sA v0 (v4 + 1)) fun x4 => z_b (z_vr 13 v2 (p_X12_letter v2 ((Int32.toUInt32 x4 % 65536).toInt32))) fun x5 => z_b (z_vr 13 v2 (p_X12_thrown v2)) fun x6 => if x6 = x3 then (if ¬ x3 = 0 then (p_L_law_b235 r23 v0 v1 v2 v3 v4)
  else (z_b (z_aL v3 0) fun x7 => if (lg_cmp x7 (Int32.toInt64 x5)) = 0 then (p_L_law_b235 r23 v0 v1 v2 v3 v4)
  else (z_rz 0)))
  else (z_rz 0)
def p_L_law_b238 (r23 : Option Nat → Option Nat → Option Nat → Option Nat → Int32 → ZM Int32) (v0 : Option Nat) (v1 : Option Nat) (v2 : Option Nat) (v3 : Option Nat) (v4 : Int32) : ZM Int32 :=
  z_b (z_vr 12 v1 (p_X11_scrap v1)) fun x8 => z_b (z_vr 13 v2 (p_X12_scrap v2)) fun x9 => if x8 = x9 then (p_L_law_b1892 r23 v0 v1 v2 v3 v4)
  else (z_rz 0)
def p_L_law_b340 (r23 : Option Nat → Option Nat → Option Nat → Option Nat → Int32 → ZM Int32) (v0 : Option Nat) (v1 : Option Nat) (v2 : Option Nat) (v3 : Option Nat) (v4 : Int32) : ZM Int32 :=
  p_L_law_b1892 r23 v0 v1 v2 v3 v4
def p_L_law_b251 (r23 : Option Nat → Option Nat → Option Nat → Option Nat → Int32 → ZM Int32) (v0 : Option Nat) (v1 : Option Nat) (v2 : Option Nat) (v3 : Option Nat) (v4 : Int32) : ZM Int32 :=
  z_b (z_sA v0 (v4 + 1)) fun x10 => z_b (z_sA v0 (v4 + 2)) fun x11 => z_b (z_sA v0 (v4 + 3)) fun x12 => z_b (z_sA v0 (v4 + 4)) fun x13 => z_b (p_L_stem v1 x10 x11 x12 x13 v3) fun x14 => z_b (z_sA v0 (v4 + 1)) fun x15 => z_b (z_sA v0 (v4 + 2)) fun x16 => z_b (z_sA v0 (v4 + 3)) fun x17 => z_b (z_sA v0 (v4 + 4)) fun x18 => z_b (z_vr 13 v2 (p_X12_stem v2 x15 x16 x17 x18)) fun x19 => z_b (z_vr 13 v2 (p_X12_thrown v2)) fun x20 => if x20 = x14 then (if ¬ x14 = 0 then (p_L_law_b340 r23 v0 v1 v2 v3 v4)
  else (z_b (z_aL v3 0) fun x21 => if (lg_cmp x21 (Int32.toInt64 x19)) = 0 then (p_L_law_b340 r23 v0 v1 v2 v3 v4)
  else (z_rz 0)))
  else (z_rz 0)
def p_L_law_b476 (r23 : Option Nat → Option Nat → Option Nat → Option Nat → Int32 → ZM Int32) (v0 : Option Nat) (v1 : Option Nat) (v2 : Option Nat) (v3 : Option Nat) (v4 : Int32) : ZM Int32 :=
  p_L_law_b1892 r23 v0 v1 v2 v3 v4
def p_L_law_b417 (r23 : Option Nat → Option Nat → Option Nat → Option Nat → Int32 → ZM Int32) (v0 : Option Nat) (v1 : Option Nat) (v2 : Option Nat) (v3 : Option Nat) (v4 : Int32) (v5 : Int32) (s0 : Option Nat) (s1 : Int32) (s2 : Int32) : ZM Int32 :=
  z_b (z_sA v0 (v4 + 3)) fun x22 => z_b (z_sA v0 (v4 + 4)) fun x23 => z_b (z_sA v0 (v4 + 5)) fun x24 => z_b (z_sA v0 (v4 + 6)) fun x25 => z_b (z_vr 13 s0 (p_X12_rule s0 s1 s2 x22 ((Int32.toUInt32 x23 % 65536).toInt32) x24 x25)) fun x26 => z_b (z_vr 13 v2 (p_X12_thrown v2)) fun x27 => if x27 = v5 then (if ¬ v5 = 0 then (p_L_law_b476 r23 v0 v1 v2 v3 v4)
  else (z_b (z_aL v3 0) fun x28 => if (lg_cmp x28 (Int32.toInt64 x26)) = 0 then (p_L_law_b476 r23 v0 v1 v2 v3 v4)
  else (z_rz 0)))
  else (z_rz 0)
def p_L_law_b364 (r23 : Option Nat → Option Nat → Option Nat → Option Nat → Int32 → ZM Int32) (v0 : Option Nat) (v1 : Option Nat) (v2 : Option Nat) (v3 : Option Nat) (v4 : Int32) (s0 : Option Nat) (s1 : Int32) (s2 : Int32) : ZM Int32 :=
  z_b (z_sA v0 (v4 + 3)) fun x29 => z_b (z_sA v0 (v4 + 4)) fun x30 => z_b (z_sA v0 (v4 + 5)) fun x31 => z_b (z_sA v0 (v4 + 6)) fun x32 => z_b (p_L_rule s0 s1 s2 x29 ((Int32.toUInt32 x30 % 65536).toInt32) x31 x32 v3) fun x33 => z_b (z_sA v0 (v4 + 1)) fun x34 => z_b (z_sA v0 (v4 + 2)) fun x35 => if x35 = 0 then (p_L_law_b417 r23 v0 v1 v2 v3 v4 x33 v2 x34 0)
  else (p_L_law_b417 r23 v0 v1 v2 v3 v4 x33 v2 x34 1)
def p_L_law_b343 (r23 : Option Nat → Option Nat → Option Nat → Option Nat → Int32 → ZM Int32) (v0 : Option Nat) (v1 : Option Nat) (v2 : Option Nat) (v3 : Option Nat) (v4 : Int32) : ZM Int32 :=
  z_b (z_sA v0 (v4 + 1)) fun x36 => z_b (z_sA v0 (v4 + 2)) fun x37 => if x37 = 0 then (p_L_law_b364 r23 v0 v1 v2 v3 v4 v1 x36 0)
  else (p_L_law_b364 r23 v0 v1 v2 v3 v4 v1 x36 1)
def p_L_law_b544 (r23 : Option Nat → Option Nat → Option Nat → Option Nat → Int32 → ZM Int32) (v0 : Option Nat) (v1 : Option Nat) (v2 : Option Nat) (v3 : Option Nat) (v4 : Int32) : ZM Int32 :=
  p_L_law_b1892 r23 v0 v1 v2 v3 v4
def p_L_law_b479 (r23 : Option Nat → Option Nat → Option Nat → Option Nat → Int32 → ZM Int32) (v0 : Option Nat) (v1 : Option Nat) (v2 : Option Nat) (v3 : Option Nat) (v4 : Int32) : ZM Int32 :=
  z_b (z_sA v0 (v4 + 1)) fun x38 => z_b (z_sA v0 (v4 + 2)) fun x39 => z_b (p_L_more v1 x38 x39 v3) fun x40 => z_b (z_sA v0 (v4 + 1)) fun x41 => z_b (z_sA v0 (v4 + 2)) fun x42 => z_b (z_vr 13 v2 (p_X12_more v2 x41 x42)) fun x43 => z_b (z_vr 13 v2 (p_X12_thrown v2)) fun x44 => if x44 = x40 then (if ¬ x40 = 0 then (p_L_law_b544 r23 v0 v1 v2 v3 v4)
  else (z_b (z_aL v3 0) fun x45 => if (lg_cmp x45 (Int32.toInt64 x43)) = 0 then (p_L_law_b544 r23 v0 v1 v2 v3 v4)
  else (z_rz 0)))
  else (z_rz 0)
def p_L_law_b623 (r23 : Option Nat → Option Nat → Option Nat → Option Nat → Int32 → ZM Int32) (v0 : Option Nat) (v1 : Option Nat) (v2 : Option Nat) (v3 : Option Nat) (v4 : Int32) : ZM Int32 :=
  p_L_law_b1892 r23 v0 v1 v2 v3 v4
def p_L_law_b617 (r23 : Option Nat → Option Nat → Option Nat → Option Nat → Int32 → ZM Int32) (v0 : Option Nat) (v1 : Option Nat) (v2 : Option Nat) (v3 : Option Nat) (v4 : Int32) (s0 : Int64) (s1 : Int64) : ZM Int32 :=
  if (lg_cmp s0 s1) = 0 then (p_L_law_b623 r23 v0 v1 v2 v3 v4)
  else (z_rz 0)
def p_L_law_b547 (r23 : Option Nat → Option Nat → Option Nat → Option Nat → Int32 → ZM Int32) (v0 : Option Nat) (v1 : Option Nat) (v2 : Option Nat) (v3 : Option Nat) (v4 : Int32) : ZM Int32 :=
  z_b (z_sA v0 (v4 + 1)) fun x46 => z_b (z_sA v0 (v4 + 2)) fun x47 => z_b (p_L_sound v1 ((Int32.toUInt32 x46 % 65536).toInt32) ((Int32.toUInt32 x47 % 65536).toInt32) v3) fun x48 => z_b (z_sA v0 (v4 + 1)) fun x49 => z_b (z_sA v0 (v4 + 2)) fun x50 => z_b (z_vr 13 v2 (p_X12_sound v2 ((Int32.toUInt32 x49 % 65536).toInt32) ((Int32.toUInt32 x50 % 65536).toInt32))) fun x51 => z_b (z_vr 13 v2 (p_X12_thrown v2)) fun x52 => if x52 = x48 then (if ¬ x48 = 0 then (p_L_law_b623 r23 v0 v1 v2 v3 v4)
  else (z_b (z_aL v3 0) fun x53 => if x51 = 0 then (p_L_law_b617 r23 v0 v1 v2 v3 v4 x53 0)
  else (p_L_law_b617 r23 v0 v1 v2 v3 v4 x53 1)))
  else (z_rz 0)
def p_L_law_b691 (r23 : Option Nat → Option Nat → Option Nat → Option Nat → Int32 → ZM Int32) (v0 : Option Nat) (v1 : Option Nat) (v2 : Option Nat) (v3 : Option Nat) (v4 : Int32) : ZM Int32 :=
  p_L_law_b1892 r23 v0 v1 v2 v3 v4
def p_L_law_b626 (r23 : Option Nat → Option Nat → Option Nat → Option Nat → Int32 → ZM Int32) (v0 : Option Nat) (v1 : Option Nat) (v2 : Option Nat) (v3 : Option Nat) (v4 : Int32) : ZM Int32 :=
  z_b (z_sA v0 (v4 + 1)) fun x54 => z_b (z_sA v0 (v4 + 2)) fun x55 => z_b (p_L_own v1 x54 x55 v3) fun x56 => z_b (z_sA v0 (v4 + 1)) fun x57 => z_b (z_sA v0 (v4 + 2)) fun x58 => z_b (z_vr 13 v2 (p_X12_own v2 x57 x58)) fun x59 => z_b (z_vr 13 v2 (p_X12_thrown v2)) fun x60 => if x60 = x56 then (if ¬ x56 = 0 then (p_L_law_b691 r23 v0 v1 v2 v3 v4)
  else (z_b (z_aL v3 0) fun x61 => if (lg_cmp x61 (Int32.toInt64 x59)) = 0 then (p_L_law_b691 r23 v0 v1 v2 v3 v4)
  else (z_rz 0)))
  else (z_rz 0)
def p_L_law_b735 (r23 : Option Nat → Option Nat → Option Nat → Option Nat → Int32 → ZM Int32) (v0 : Option Nat) (v1 : Option Nat) (v2 : Option Nat) (v3 : Option Nat) (v4 : Int32) : ZM Int32 :=
  p_L_law_b1892 r23 v0 v1 v2 v3 v4
def p_L_law_b694 (r23 : Option Nat → Option Nat → Option Nat → Option Nat → Int32 → ZM Int32) (v0 : Option Nat) (v1 : Option Nat) (v2 : Option Nat) (v3 : Option Nat) (v4 : Int32) : ZM Int32 :=
  z_b (p_L_bar v1 v3) fun x62 => z_b (z_vr 13 v2 (p_X12_bar v2)) fun x63 => z_b (z_vr 13 v2 (p_X12_thrown v2)) fun x64 => if x64 = x62 then (if ¬ x62 = 0 then (p_L_law_b735 r23 v0 v1 v2 v3 v4)
  else (z_b (z_aL v3 0) fun x65 => if (lg_cmp x65 (Int32.toInt64 x63)) = 0 then (p_L_law_b735 r23 v0 v1 v2 v3 v4)
  else (z_rz 0)))
  else (z_rz 0)
def p_L_law_b791 (r23 : Option Nat → Option Nat → Option Nat → Option Nat → Int32 → ZM Int32) (v0 : Option Nat) (v1 : Option Nat) (v2 : Option Nat) (v3 : Option Nat) (v4 : Int32) : ZM Int32 :=
  p_L_law_b1892 r23 v0 v1 v2 v3 v4
def p_L_law_b738 (r23 : Option Nat → Option Nat → Option Nat → Option Nat → Int32 → ZM Int32) (v0 : Option Nat) (v1 : Option Nat) (v2 : Option Nat) (v3 : Option Nat) (v4 : Int32) : ZM Int32 :=
  z_b (z_sA v0 (v4 + 1)) fun x66 => z_b (p_L_ignore v1 x66 v3) fun x67 => z_b (z_sA v0 (v4 + 1)) fun x68 => z_b (z_vr 13 v2 (p_X12_ignore v2 x68)) fun x69 => z_b (z_vr 13 v2 (p_X12_thrown v2)) fun x70 => if x70 = x67 then (if ¬ x67 = 0 then (p_L_law_b791 r23 v0 v1 v2 v3 v4)
  else (z_b (z_aL v3 0) fun x71 => if (lg_cmp x71 (Int32.toInt64 x69)) = 0 then (p_L_law_b791 r23 v0 v1 v2 v3 v4)
  else (z_rz 0)))
  else (z_rz 0)
def p_L_law_b871 (r23 : Option Nat → Option Nat → Option Nat → Option Nat → Int32 → ZM Int32) (v0 : Option Nat) (v1 : Option Nat) (v2 : Option Nat) (v3 : Option Nat) (v4 : Int32) : ZM Int32 :=
  p_L_law_b1892 r23 v0 v1 v2 v3 v4
def p_L_law_b794 (r23 : Option Nat → Option Nat → Option Nat → Option Nat → Int32 → ZM Int32) (v0 : Option Nat) (v1 : Option Nat) (v2 : Option Nat) (v3 : Option Nat) (v4 : Int32) : ZM Int32 :=
  z_b (z_sA v0 (v4 + 1)) fun x72 => z_b (z_sA v0 (v4 + 2)) fun x73 => z_b (z_sA v0 (v4 + 3)) fun x74 => z_b (p_L_tell v1 x72 x73 x74 v3) fun x75 => z_b (z_sA v0 (v4 + 1)) fun x76 => z_b (z_sA v0 (v4 + 2)) fun x77 => z_b (z_sA v0 (v4 + 3)) fun x78 => z_b (z_vr 13 v2 (p_X12_tell v2 x76 x77 x78)) fun x79 => z_b (z_vr 13 v2 (p_X12_thrown v2)) fun x80 => if x80 = x75 then (if ¬ x75 = 0 then (p_L_law_b871 r23 v0 v1 v2 v3 v4)
  else (z_b (z_aL v3 0) fun x81 => if (lg_cmp x81 (Int32.toInt64 x79)) = 0 then (p_L_law_b871 r23 v0 v1 v2 v3 v4)
  else (z_rz 0)))
  else (z_rz 0)
def p_L_law_b927 (r23 : Option Nat → Option Nat → Option Nat → Option Nat → Int32 → ZM Int32) (v0 : Option Nat) (v1 : Option Nat) (v2 : Option Nat) (v3 : Option Nat) (v4 : Int32) : ZM Int32 :=
  p_L_law_b1892 r23 v0 v1 v2 v3 v4
def p_L_law_b874 (r23 : Option Nat → Option Nat → Option Nat → Option Nat → Int32 → ZM Int32) (v0 : Option Nat) (v1 : Option Nat) (v2 : Option Nat) (v3 : Option Nat) (v4 : Int32) : ZM Int32 :=
  z_b (z_sA v0 (v4 + 1)) fun x82 => z_b (p_L_item v1 x82 v3) fun x83 => z_b (z_sA v0 (v4 + 1)) fun x84 => z_b (z_vr 13 v2 (p_X12_item v2 x84)) fun x85 => z_b (z_vr 13 v2 (p_X12_thrown v2)) fun x86 => if x86 = x83 then (if ¬ x83 = 0 then (p_L_law_b927 r23 v0 v1 v2 v3 v4)
  else (z_b (z_aL v3 0) fun x87 => if (lg_cmp x87 (Int32.toInt64 x85)) = 0 then (p_L_law_b927 r23 v0 v1 v2 v3 v4)
  else (z_rz 0)))
  else (z_rz 0)
def p_L_law_b983 (r23 : Option Nat → Option Nat → Option Nat → Option Nat → Int32 → ZM Int32) (v0 : Option Nat) (v1 : Option Nat) (v2 : Option Nat) (v3 : Option Nat) (v4 : Int32) : ZM Int32 :=
  p_L_law_b1892 r23 v0 v1 v2 v3 v4
def p_L_law_b930 (r23 : Option Nat → Option Nat → Option Nat → Option Nat → Int32 → ZM Int32) (v0 : Option Nat) (v1 : Option Nat) (v2 : Option Nat) (v3 : Option Nat) (v4 : Int32) : ZM Int32 :=
  z_b (z_sA v0 (v4 + 1)) fun x88 => z_b (p_L_style v1 x88 v3) fun x89 => z_b (z_sA v0 (v4 + 1)) fun x90 => z_b (z_vr 13 v2 (p_X12_style v2 x90)) fun x91 => z_b (z_vr 13 v2 (p_X12_thrown v2)) fun x92 => if x92 = x89 then (if ¬ x89 = 0 then (p_L_law_b983 r23 v0 v1 v2 v3 v4)
  else (z_b (z_aL v3 0) fun x93 => if (lg_cmp x93 (Int32.toInt64 x91)) = 0 then (p_L_law_b983 r23 v0 v1 v2 v3 v4)
  else (z_rz 0)))
  else (z_rz 0)
def p_L_law_b1053 (r23 : Option Nat → Option Nat → Option Nat → Option Nat → Int32 → ZM Int32) (v0 : Option Nat) (v1 : Option Nat) (v2 : Option Nat) (v3 : Option Nat) (v4 : Int32) : ZM Int32 :=
  p_L_law_b1892 r23 v0 v1 v2 v3 v4
def p_L_law_b986 (r23 : Option Nat → Option Nat → Option Nat → Option Nat → Int32 → ZM Int32) (v0 : Option Nat) (v1 : Option Nat) (v2 : Option Nat) (v3 : Option Nat) (v4 : Int32) : ZM Int32 :=
  z_b (z_sA v0 (v4 + 1)) fun x94 => z_b (z_sA v0 (v4 + 2)) fun x95 => z_b (p_L_put v1 x94 ((Int32.toUInt32 x95 % 65536).toInt32) v3) fun x96 => z_b (z_sA v0 (v4 + 1)) fun x97 => z_b (z_sA v0 (v4 + 2)) fun x98 => z_b (z_vr 13 v2 (p_X12_put v2 x97 ((Int32.toUInt32 x98 % 65536).toInt32))) fun x99 => z_b (z_vr 13 v2 (p_X12_thrown v2)) fun x100 => if x100 = x96 then (if ¬ x96 = 0 then (p_L_law_b1053 r23 v0 v1 v2 v3 v4)
  else (z_b (z_aL v3 0) fun x101 => if (lg_cmp x101 (Int32.toInt64 x99)) = 0 then (p_L_law_b1053 r23 v0 v1 v2 v3 v4)
  else (z_rz 0)))
  else (z_rz 0)
def p_L_law_b1109 (r23 : Option Nat → Option Nat → Option Nat → Option Nat → Int32 → ZM Int32) (v0 : Option Nat) (v1 : Option Nat) (v2 : Option Nat) (v3 : Option Nat) (v4 : Int32) : ZM Int32 :=
  p_L_law_b1892 r23 v0 v1 v2 v3 v4
def p_L_law_b1056 (r23 : Option Nat → Option Nat → Option Nat → Option Nat → Int32 → ZM Int32) (v0 : Option Nat) (v1 : Option Nat) (v2 : Option Nat) (v3 : Option Nat) (v4 : Int32) : ZM Int32 :=
  z_b (z_sA v0 (v4 + 1)) fun x102 => z_b (p_L_take v1 x102 v3) fun x103 => z_b (z_sA v0 (v4 + 1)) fun x104 => z_b (z_vr 13 v2 (p_X12_take v2 x104)) fun x105 => z_b (z_vr 13 v2 (p_X12_thrown v2)) fun x106 => if x106 = x103 then (if ¬ x103 = 0 then (p_L_law_b1109 r23 v0 v1 v2 v3 v4)
  else (z_b (z_aL v3 0) fun x107 => if (lg_cmp x107 (Int32.toInt64 x105)) = 0 then (p_L_law_b1109 r23 v0 v1 v2 v3 v4)
  else (z_rz 0)))
  else (z_rz 0)
def p_L_law_b1112 (r23 : Option Nat → Option Nat → Option Nat → Option Nat → Int32 → ZM Int32) (v0 : Option Nat) (v1 : Option Nat) (v2 : Option Nat) (v3 : Option Nat) (v4 : Int32) : ZM Int32 :=
  z_b (z_vr 12 v1 (p_X11_correct v1)) fun x108 => z_b (z_vr 13 v2 (p_X12_correct v2)) fun x109 => if x108 = x109 then (p_L_law_b1892 r23 v0 v1 v2 v3 v4)
  else (z_rz 0)
def p_L_law_b1125 (r23 : Option Nat → Option Nat → Option Nat → Option Nat → Int32 → ZM Int32) (v0 : Option Nat) (v1 : Option Nat) (v2 : Option Nat) (v3 : Option Nat) (v4 : Int32) : ZM Int32 :=
  z_b (z_vr 12 v1 (p_X11_length v1)) fun x110 => z_b (z_vr 13 v2 (p_X12_length v2)) fun x111 => if x110 = x111 then (p_L_law_b1892 r23 v0 v1 v2 v3 v4)
  else (z_rz 0)
def p_L_law_b1191 (r23 : Option Nat → Option Nat → Option Nat → Option Nat → Int32 → ZM Int32) (v0 : Option Nat) (v1 : Option Nat) (v2 : Option Nat) (v3 : Option Nat) (v4 : Int32) : ZM Int32 :=
  p_L_law_b1892 r23 v0 v1 v2 v3 v4
def p_L_law_b1138 (r23 : Option Nat → Option Nat → Option Nat → Option Nat → Int32 → ZM Int32) (v0 : Option Nat) (v1 : Option Nat) (v2 : Option Nat) (v3 : Option Nat) (v4 : Int32) : ZM Int32 :=
  z_b (z_sA v0 (v4 + 1)) fun x112 => z_b (p_L_signAt v1 x112 v3) fun x113 => z_b (z_sA v0 (v4 + 1)) fun x114 => z_b (z_vr 13 v2 (p_X12_signAt v2 x114)) fun x115 => z_b (z_vr 13 v2 (p_X12_thrown v2)) fun x116 => if x116 = x113 then (if ¬ x113 = 0 then (p_L_law_b1191 r23 v0 v1 v2 v3 v4)
  else (z_b (z_aL v3 0) fun x117 => if (lg_cmp x117 (Int32.toInt64 x115)) = 0 then (p_L_law_b1191 r23 v0 v1 v2 v3 v4)
  else (z_rz 0)))
  else (z_rz 0)
def p_L_law_b1194 (r23 : Option Nat → Option Nat → Option Nat → Option Nat → Int32 → ZM Int32) (v0 : Option Nat) (v1 : Option Nat) (v2 : Option Nat) (v3 : Option Nat) (v4 : Int32) : ZM Int32 :=
  z_b (z_vr 12 v1 (p_X11_words v1)) fun x118 => z_b (z_vr 13 v2 (p_X12_words v2)) fun x119 => if x118 = x119 then (p_L_law_b1892 r23 v0 v1 v2 v3 v4)
  else (z_rz 0)
def p_L_law_b1260 (r23 : Option Nat → Option Nat → Option Nat → Option Nat → Int32 → ZM Int32) (v0 : Option Nat) (v1 : Option Nat) (v2 : Option Nat) (v3 : Option Nat) (v4 : Int32) : ZM Int32 :=
  p_L_law_b1892 r23 v0 v1 v2 v3 v4
def p_L_law_b1207 (r23 : Option Nat → Option Nat → Option Nat → Option Nat → Int32 → ZM Int32) (v0 : Option Nat) (v1 : Option Nat) (v2 : Option Nat) (v3 : Option Nat) (v4 : Int32) : ZM Int32 :=
  z_b (z_sA v0 (v4 + 1)) fun x120 => z_b (p_L_wordAt v1 x120 v3) fun x121 => z_b (z_sA v0 (v4 + 1)) fun x122 => z_b (z_vr 13 v2 (p_X12_wordAt v2 x122)) fun x123 => z_b (z_vr 13 v2 (p_X12_thrown v2)) fun x124 => if x124 = x121 then (if ¬ x121 = 0 then (p_L_law_b1260 r23 v0 v1 v2 v3 v4)
  else (z_b (z_aL v3 0) fun x125 => if (lg_cmp x125 (Int32.toInt64 x123)) = 0 then (p_L_law_b1260 r23 v0 v1 v2 v3 v4)
  else (z_rz 0)))
  else (z_rz 0)
def p_L_law_b1323 (r23 : Option Nat → Option Nat → Option Nat → Option Nat → Int32 → ZM Int32) (v0 : Option Nat) (v1 : Option Nat) (v2 : Option Nat) (v3 : Option Nat) (v4 : Int32) : ZM Int32 :=
  p_L_law_b1892 r23 v0 v1 v2 v3 v4
def p_L_law_b1317 (r23 : Option Nat → Option Nat → Option Nat → Option Nat → Int32 → ZM Int32) (v0 : Option Nat) (v1 : Option Nat) (v2 : Option Nat) (v3 : Option Nat) (v4 : Int32) (s0 : Int64) (s1 : Int64) : ZM Int32 :=
  if (lg_cmp s0 s1) = 0 then (p_L_law_b1323 r23 v0 v1 v2 v3 v4)
  else (z_rz 0)
def p_L_law_b1263 (r23 : Option Nat → Option Nat → Option Nat → Option Nat → Int32 → ZM Int32) (v0 : Option Nat) (v1 : Option Nat) (v2 : Option Nat) (v3 : Option Nat) (v4 : Int32) : ZM Int32 :=
  z_b (z_sA v0 (v4 + 1)) fun x126 => z_b (p_L_isRight v1 x126 v3) fun x127 => z_b (z_sA v0 (v4 + 1)) fun x128 => z_b (z_vr 13 v2 (p_X12_isRight v2 x128)) fun x129 => z_b (z_vr 13 v2 (p_X12_thrown v2)) fun x130 => if x130 = x127 then (if ¬ x127 = 0 then (p_L_law_b1323 r23 v0 v1 v2 v3 v4)
  else (z_b (z_aL v3 0) fun x131 => if x129 = 0 then (p_L_law_b1317 r23 v0 v1 v2 v3 v4 x131 0)
  else (p_L_law_b1317 r23 v0 v1 v2 v3 v4 x131 1)))
  else (z_rz 0)
def p_L_law_b1379 (r23 : Option Nat → Option Nat → Option Nat → Option Nat → Int32 → ZM Int32) (v0 : Option Nat) (v1 : Option Nat) (v2 : Option Nat) (v3 : Option Nat) (v4 : Int32) : ZM Int32 :=
  p_L_law_b1892 r23 v0 v1 v2 v3 v4
def p_L_law_b1326 (r23 : Option Nat → Option Nat → Option Nat → Option Nat → Int32 → ZM Int32) (v0 : Option Nat) (v1 : Option Nat) (v2 : Option Nat) (v3 : Option Nat) (v4 : Int32) : ZM Int32 :=
  z_b (z_sA v0 (v4 + 1)) fun x132 => z_b (p_L_readings v1 x132 v3) fun x133 => z_b (z_sA v0 (v4 + 1)) fun x134 => z_b (z_vr 13 v2 (p_X12_readings v2 x134)) fun x135 => z_b (z_vr 13 v2 (p_X12_thrown v2)) fun x136 => if x136 = x133 then (if ¬ x133 = 0 then (p_L_law_b1379 r23 v0 v1 v2 v3 v4)
  else (z_b (z_aL v3 0) fun x137 => if (lg_cmp x137 (Int32.toInt64 x135)) = 0 then (p_L_law_b1379 r23 v0 v1 v2 v3 v4)
  else (z_rz 0)))
  else (z_rz 0)
def p_L_law_b1435 (r23 : Option Nat → Option Nat → Option Nat → Option Nat → Int32 → ZM Int32) (v0 : Option Nat) (v1 : Option Nat) (v2 : Option Nat) (v3 : Option Nat) (v4 : Int32) : ZM Int32 :=
  p_L_law_b1892 r23 v0 v1 v2 v3 v4
def p_L_law_b1382 (r23 : Option Nat → Option Nat → Option Nat → Option Nat → Int32 → ZM Int32) (v0 : Option Nat) (v1 : Option Nat) (v2 : Option Nat) (v3 : Option Nat) (v4 : Int32) : ZM Int32 :=
  z_b (z_sA v0 (v4 + 1)) fun x138 => z_b (p_L_reading v1 x138 v3) fun x139 => z_b (z_sA v0 (v4 + 1)) fun x140 => z_b (z_vr 13 v2 (p_X12_reading v2 x140)) fun x141 => z_b (z_vr 13 v2 (p_X12_thrown v2)) fun x142 => if x142 = x139 then (if ¬ x139 = 0 then (p_L_law_b1435 r23 v0 v1 v2 v3 v4)
  else (z_b (z_aL v3 0) fun x143 => if (lg_cmp x143 (Int32.toInt64 x141)) = 0 then (p_L_law_b1435 r23 v0 v1 v2 v3 v4)
  else (z_rz 0)))
  else (z_rz 0)
def p_L_law_b1491 (r23 : Option Nat → Option Nat → Option Nat → Option Nat → Int32 → ZM Int32) (v0 : Option Nat) (v1 : Option Nat) (v2 : Option Nat) (v3 : Option Nat) (v4 : Int32) : ZM Int32 :=
  p_L_law_b1892 r23 v0 v1 v2 v3 v4
def p_L_law_b1438 (r23 : Option Nat → Option Nat → Option Nat → Option Nat → Int32 → ZM Int32) (v0 : Option Nat) (v1 : Option Nat) (v2 : Option Nat) (v3 : Option Nat) (v4 : Int32) : ZM Int32 :=
  z_b (z_sA v0 (v4 + 1)) fun x144 => z_b (p_L_split v1 x144 v3) fun x145 => z_b (z_sA v0 (v4 + 1)) fun x146 => z_b (z_vr 13 v2 (p_X12_split v2 x146)) fun x147 => z_b (z_vr 13 v2 (p_X12_thrown v2)) fun x148 => if x148 = x145 then (if ¬ x145 = 0 then (p_L_law_b1491 r23 v0 v1 v2 v3 v4)
  else (z_b (z_aL v3 0) fun x149 => if (lg_cmp x149 (Int32.toInt64 x147)) = 0 then (p_L_law_b1491 r23 v0 v1 v2 v3 v4)
  else (z_rz 0)))
  else (z_rz 0)
def p_L_law_b1494 (r23 : Option Nat → Option Nat → Option Nat → Option Nat → Int32 → ZM Int32) (v0 : Option Nat) (v1 : Option Nat) (v2 : Option Nat) (v3 : Option Nat) (v4 : Int32) : ZM Int32 :=
  z_b (z_vr 12 v1 (p_X11_mistakes v1)) fun x150 => z_b (z_vr 13 v2 (p_X12_mistakes v2)) fun x151 => if x150 = x151 then (p_L_law_b1892 r23 v0 v1 v2 v3 v4)
  else (z_rz 0)
def p_L_law_b1560 (r23 : Option Nat → Option Nat → Option Nat → Option Nat → Int32 → ZM Int32) (v0 : Option Nat) (v1 : Option Nat) (v2 : Option Nat) (v3 : Option Nat) (v4 : Int32) : ZM Int32 :=
  p_L_law_b1892 r23 v0 v1 v2 v3 v4
def p_L_law_b1507 (r23 : Option Nat → Option Nat → Option Nat → Option Nat → Int32 → ZM Int32) (v0 : Option Nat) (v1 : Option Nat) (v2 : Option Nat) (v3 : Option Nat) (v4 : Int32) : ZM Int32 :=
  z_b (z_sA v0 (v4 + 1)) fun x152 => z_b (p_L_mistakeKind v1 x152 v3) fun x153 => z_b (z_sA v0 (v4 + 1)) fun x154 => z_b (z_vr 13 v2 (p_X12_mistakeKind v2 x154)) fun x155 => z_b (z_vr 13 v2 (p_X12_thrown v2)) fun x156 => if x156 = x153 then (if ¬ x153 = 0 then (p_L_law_b1560 r23 v0 v1 v2 v3 v4)
  else (z_b (z_aL v3 0) fun x157 => if (lg_cmp x157 (Int32.toInt64 x155)) = 0 then (p_L_law_b1560 r23 v0 v1 v2 v3 v4)
  else (z_rz 0)))
  else (z_rz 0)
def p_L_law_b1616 (r23 : Option Nat → Option Nat → Option Nat → Option Nat → Int32 → ZM Int32) (v0 : Option Nat) (v1 : Option Nat) (v2 : Option Nat) (v3 : Option Nat) (v4 : Int32) : ZM Int32 :=
  p_L_law_b1892 r23 v0 v1 v2 v3 v4
def p_L_law_b1563 (r23 : Option Nat → Option Nat → Option Nat → Option Nat → Int32 → ZM Int32) (v0 : Option Nat) (v1 : Option Nat) (v2 : Option Nat) (v3 : Option Nat) (v4 : Int32) : ZM Int32 :=
  z_b (z_sA v0 (v4 + 1)) fun x158 => z_b (p_L_mistakeAt v1 x158 v3) fun x159 => z_b (z_sA v0 (v4 + 1)) fun x160 => z_b (z_vr 13 v2 (p_X12_mistakeAt v2 x160)) fun x161 => z_b (z_vr 13 v2 (p_X12_thrown v2)) fun x162 => if x162 = x159 then (if ¬ x159 = 0 then (p_L_law_b1616 r23 v0 v1 v2 v3 v4)
  else (z_b (z_aL v3 0) fun x163 => if (lg_cmp x163 (Int32.toInt64 x161)) = 0 then (p_L_law_b1616 r23 v0 v1 v2 v3 v4)
  else (z_rz 0)))
  else (z_rz 0)
def p_L_law_b1672 (r23 : Option Nat → Option Nat → Option Nat → Option Nat → Int32 → ZM Int32) (v0 : Option Nat) (v1 : Option Nat) (v2 : Option Nat) (v3 : Option Nat) (v4 : Int32) : ZM Int32 :=
  p_L_law_b1892 r23 v0 v1 v2 v3 v4
def p_L_law_b1619 (r23 : Option Nat → Option Nat → Option Nat → Option Nat → Int32 → ZM Int32) (v0 : Option Nat) (v1 : Option Nat) (v2 : Option Nat) (v3 : Option Nat) (v4 : Int32) : ZM Int32 :=
  z_b (z_sA v0 (v4 + 1)) fun x164 => z_b (p_L_suggestions v1 x164 v3) fun x165 => z_b (z_sA v0 (v4 + 1)) fun x166 => z_b (z_vr 13 v2 (p_X12_suggestions v2 x166)) fun x167 => z_b (z_vr 13 v2 (p_X12_thrown v2)) fun x168 => if x168 = x165 then (if ¬ x165 = 0 then (p_L_law_b1672 r23 v0 v1 v2 v3 v4)
  else (z_b (z_aL v3 0) fun x169 => if (lg_cmp x169 (Int32.toInt64 x167)) = 0 then (p_L_law_b1672 r23 v0 v1 v2 v3 v4)
  else (z_rz 0)))
  else (z_rz 0)
def p_L_law_b1728 (r23 : Option Nat → Option Nat → Option Nat → Option Nat → Int32 → ZM Int32) (v0 : Option Nat) (v1 : Option Nat) (v2 : Option Nat) (v3 : Option Nat) (v4 : Int32) : ZM Int32 :=
  p_L_law_b1892 r23 v0 v1 v2 v3 v4
def p_L_law_b1675 (r23 : Option Nat → Option Nat → Option Nat → Option Nat → Int32 → ZM Int32) (v0 : Option Nat) (v1 : Option Nat) (v2 : Option Nat) (v3 : Option Nat) (v4 : Int32) : ZM Int32 :=
  z_b (z_sA v0 (v4 + 1)) fun x170 => z_b (p_L_suggestionsByAll v1 x170 v3) fun x171 => z_b (z_sA v0 (v4 + 1)) fun x172 => z_b (z_vr 13 v2 (p_X12_suggestionsByAll v2 x172)) fun x173 => z_b (z_vr 13 v2 (p_X12_thrown v2)) fun x174 => if x174 = x171 then (if ¬ x171 = 0 then (p_L_law_b1728 r23 v0 v1 v2 v3 v4)
  else (z_b (z_aL v3 0) fun x175 => if (lg_cmp x175 (Int32.toInt64 x173)) = 0 then (p_L_law_b1728 r23 v0 v1 v2 v3 v4)
  else (z_rz 0)))
  else (z_rz 0)
def p_L_law_b1796 (r23 : Option Nat → Option Nat → Option Nat → Option Nat → Int32 → ZM Int32) (v0 : Option Nat) (v1 : Option Nat) (v2 : Option Nat) (v3 : Option Nat) (v4 : Int32) : ZM Int32 :=
  p_L_law_b1892 r23 v0 v1 v2 v3 v4
def p_L_law_b1731 (r23 : Option Nat → Option Nat → Option Nat → Option Nat → Int32 → ZM Int32) (v0 : Option Nat) (v1 : Option Nat) (v2 : Option Nat) (v3 : Option Nat) (v4 : Int32) : ZM Int32 :=
  z_b (z_sA v0 (v4 + 1)) fun x176 => z_b (z_sA v0 (v4 + 2)) fun x177 => z_b (p_L_cost v1 x176 x177 v3) fun x178 => z_b (z_sA v0 (v4 + 1)) fun x179 => z_b (z_sA v0 (v4 + 2)) fun x180 => z_b (z_vr 13 v2 (p_X12_cost v2 x179 x180)) fun x181 => z_b (z_vr 13 v2 (p_X12_thrown v2)) fun x182 => if x182 = x178 then (if ¬ x178 = 0 then (p_L_law_b1796 r23 v0 v1 v2 v3 v4)
  else (z_b (z_aL v3 0) fun x183 => if (lg_cmp x183 (Int32.toInt64 x181)) = 0 then (p_L_law_b1796 r23 v0 v1 v2 v3 v4)
  else (z_rz 0)))
  else (z_rz 0)
def p_L_law_b1876 (r23 : Option Nat → Option Nat → Option Nat → Option Nat → Int32 → ZM Int32) (v0 : Option Nat) (v1 : Option Nat) (v2 : Option Nat) (v3 : Option Nat) (v4 : Int32) : ZM Int32 :=
  p_L_law_b1892 r23 v0 v1 v2 v3 v4
def p_L_law_b1799 (r23 : Option Nat → Option Nat → Option Nat → Option Nat → Int32 → ZM Int32) (v0 : Option Nat) (v1 : Option Nat) (v2 : Option Nat) (v3 : Option Nat) (v4 : Int32) : ZM Int32 :=
  z_b (z_sA v0 (v4 + 1)) fun x184 => z_b (z_sA v0 (v4 + 2)) fun x185 => z_b (z_sA v0 (v4 + 3)) fun x186 => z_b (p_L_suggested v1 x184 x185 x186 v3) fun x187 => z_b (z_sA v0 (v4 + 1)) fun x188 => z_b (z_sA v0 (v4 + 2)) fun x189 => z_b (z_sA v0 (v4 + 3)) fun x190 => z_b (z_vr 13 v2 (p_X12_suggested v2 x188 x189 x190)) fun x191 => z_b (z_vr 13 v2 (p_X12_thrown v2)) fun x192 => if x192 = x187 then (if ¬ x187 = 0 then (p_L_law_b1876 r23 v0 v1 v2 v3 v4)
  else (z_b (z_aL v3 0) fun x193 => if (lg_cmp x193 (Int32.toInt64 x191)) = 0 then (p_L_law_b1876 r23 v0 v1 v2 v3 v4)
  else (z_rz 0)))
  else (z_rz 0)
def p_L_law_b1879 (r23 : Option Nat → Option Nat → Option Nat → Option Nat → Int32 → ZM Int32) (v0 : Option Nat) (v1 : Option Nat) (v2 : Option Nat) (v3 : Option Nat) (v4 : Int32) : ZM Int32 :=
  z_b (z_vr 12 v1 (p_X11_made v1)) fun x194 => z_b (z_vr 13 v2 (p_X12_made v2)) fun x195 => if x194 = x195 then (p_L_law_b1892 r23 v0 v1 v2 v3 v4)
  else (z_rz 0)
def p_L_law_c23 (r23 : Option Nat → Option Nat → Option Nat → Option Nat → Int32 → ZM Int32) (v0 : Option Nat) (v1 : Option Nat) (v2 : Option Nat) (v3 : Option Nat) (v4 : Int32) : ZM Int32 :=
  z_b (z_sN v0) fun x196 => if (x196 - 7) < v4 then (z_rz 1)
  else (z_b (z_sA v0 v4) fun x197 => z_sw (x197 &&& 31) 30 (fun j => match j with
    | 0 => p_L_law_b180 r23 v0 v1 v2 v3 v4
    | 1 => p_L_law_b238 r23 v0 v1 v2 v3 v4
    | 2 => p_L_law_b251 r23 v0 v1 v2 v3 v4
    | 3 => p_L_law_b343 r23 v0 v1 v2 v3 v4
    | 4 => p_L_law_b479 r23 v0 v1 v2 v3 v4
    | 5 => p_L_law_b547 r23 v0 v1 v2 v3 v4
    | 6 => p_L_law_b626 r23 v0 v1 v2 v3 v4
    | 7 => p_L_law_b694 r23 v0 v1 v2 v3 v4
    | 8 => p_L_law_b738 r23 v0 v1 v2 v3 v4
    | 9 => p_L_law_b794 r23 v0 v1 v2 v3 v4
    | 10 => p_L_law_b874 r23 v0 v1 v2 v3 v4
    | 11 => p_L_law_b930 r23 v0 v1 v2 v3 v4
    | 12 => p_L_law_b986 r23 v0 v1 v2 v3 v4
    | 13 => p_L_law_b1056 r23 v0 v1 v2 v3 v4
    | 14 => p_L_law_b1112 r23 v0 v1 v2 v3 v4
    | 15 => p_L_law_b1125 r23 v0 v1 v2 v3 v4
    | 16 => p_L_law_b1138 r23 v0 v1 v2 v3 v4
    | 17 => p_L_law_b1194 r23 v0 v1 v2 v3 v4
    | 18 => p_L_law_b1207 r23 v0 v1 v2 v3 v4
    | 19 => p_L_law_b1263 r23 v0 v1 v2 v3 v4
    | 20 => p_L_law_b1326 r23 v0 v1 v2 v3 v4
    | 21 => p_L_law_b1382 r23 v0 v1 v2 v3 v4
    | 22 => p_L_law_b1438 r23 v0 v1 v2 v3 v4
    | 23 => p_L_law_b1494 r23 v0 v1 v2 v3 v4
    | 24 => p_L_law_b1507 r23 v0 v1 v2 v3 v4
    | 25 => p_L_law_b1563 r23 v0 v1 v2 v3 v4
    | 26 => p_L_law_b1619 r23 v0 v1 v2 v3 v4
    | 27 => p_L_law_b1675 r23 v0 v1 v2 v3 v4
    | 28 => p_L_law_b1731 r23 v0 v1 v2 v3 v4
    | 29 => p_L_law_b1799 r23 v0 v1 v2 v3 v4
    | 30 => p_L_law_b1879 r23 v0 v1 v2 v3 v4
    | _ => z_fl) (p_L_law_b1892 r23 v0 v1 v2 v3 v4))
def p_L_law_l23 : Nat → Option Nat → Option Nat → Option Nat → Option Nat → Int32 → ZM Int32
  | 0, _, _, _, _, _ => z_fl
  | n + 1, v0, v1, v2, v3, v4 => p_L_law_c23 (p_L_law_l23 n) v0 v1 v2 v3 v4
def p_L_law (v0 : Option Nat) : ZM Int32 :=
  z_b (z_nO 12 13) fun x198 => z_b (z_ii x198 (p_X11_init x198)) fun _ => z_b (z_nO 13 59) fun x199 => z_b (z_ii x199 (p_X12_init x199)) fun _ => z_b (z_nA 2 1) fun x200 => p_L_law_l23 zFuel v0 x198 x199 x200 0
abbrev M_L_law (l : Launch) (nm : String) (tb : List ExceptionTableEntry) : ZMe := (l, "SpellScribeLaw", cL_law, 7, 14, 548, (some .boolean), nm, tb)
set_option maxRecDepth 20000 in
theorem sim_L_law_b1892 (l : Launch) (nm : String) (tb : List ExceptionTableEntry) (hfl : l.stackTraces = false) (r23 : Option Nat → Option Nat → Option Nat → Option Nat → Int32 → ZM Int32) (hr23 : ∀ (v0 : Option Nat) (v1 : Option Nat) (v2 : Option Nat) (v3 : Option Nat) (v4 : Int32), Sim (M_L_law l nm tb) (zFin zcI) 23 [(0, .inr (.inr v0)), (1, .inr (.inr v1)), (2, .inr (.inr v2)), (3, .inr (.inr v3)), (4, .inl v4)] [] (r23 v0 v1 v2 v3 v4)) (v0 : Option Nat) (v1 : Option Nat) (v2 : Option Nat) (v3 : Option Nat) (v4 : Int32) : Sim (M_L_law l nm tb) (zFin zcI) 1892 [(0, .inr (.inr v0)), (1, .inr (.inr v1)), (2, .inr (.inr v2)), (3, .inr (.inr v3)), (4, .inl v4)] [] (p_L_law_b1892 r23 v0 v1 v2 v3 v4) := by
  unfold p_L_law_b1892
  refine s_n0 (fun y1 hy1 => ?_)
  refine s_iinc (j := 4) (v := y1) (d := 7) (lv' := [(4, .inl y1), (0, .inr (.inr v0)), (1, .inr (.inr v1)), (2, .inr (.inr v2)), (3, .inr (.inr v3))]) dL_law_1892 rfl (by decide) hy1 (Nat.le_of_ble_eq_true rfl) rfl ?_
  refine s_goto (tgt := 23) dL_law_1895 (by decide) ?_
  exact Sim.sub [1, 2, 3, 4, 0] rfl (hr23 v0 v1 v2 v3 y1)
set_option maxRecDepth 20000 in
theorem sim_L_law_b235 (l : Launch) (nm : String) (tb : List ExceptionTableEntry) (hfl : l.stackTraces = false) (r23 : Option Nat → Option Nat → Option Nat → Option Nat → Int32 → ZM Int32) (hr23 : ∀ (v0 : Option Nat) (v1 : Option Nat) (v2 : Option Nat) (v3 : Option Nat) (v4 : Int32), Sim (M_L_law l nm tb) (zFin zcI) 23 [(0, .inr (.inr v0)), (1, .inr (.inr v1)), (2, .inr (.inr v2)), (3, .inr (.inr v3)), (4, .inl v4)] [] (r23 v0 v1 v2 v3 v4)) (v0 : Option Nat) (v1 : Option Nat) (v2 : Option Nat) (v3 : Option Nat) (v4 : Int32) : Sim (M_L_law l nm tb) (zFin zcI) 235 [(0, .inr (.inr v0)), (1, .inr (.inr v1)), (2, .inr (.inr v2)), (3, .inr (.inr v3)), (4, .inl v4)] [] (p_L_law_b235 r23 v0 v1 v2 v3 v4) := by
  unfold p_L_law_b235
  refine s_goto (tgt := 1892) dL_law_235 (by decide) ?_
  exact Sim.sub [0, 1, 2, 3, 4] rfl (sim_L_law_b1892 l nm tb hfl r23 hr23 v0 v1 v2 v3 v4)
set_option maxRecDepth 20000 in
theorem sim_L_law_b180 (l : Launch) (nm : String) (tb : List ExceptionTableEntry) (hfl : l.stackTraces = false) (r23 : Option Nat → Option Nat → Option Nat → Option Nat → Int32 → ZM Int32) (hr23 : ∀ (v0 : Option Nat) (v1 : Option Nat) (v2 : Option Nat) (v3 : Option Nat) (v4 : Int32), Sim (M_L_law l nm tb) (zFin zcI) 23 [(0, .inr (.inr v0)), (1, .inr (.inr v1)), (2, .inr (.inr v2)), (3, .inr (.inr v3)), (4, .inl v4)] [] (r23 v0 v1 v2 v3 v4)) (v0 : Option Nat) (v1 : Option Nat) (v2 : Option Nat) (v3 : Option Nat) (v4 : Int32) : Sim (M_L_law l nm tb) (zFin zcI) 180 [(0, .inr (.inr v0)), (1, .inr (.inr v1)), (2, .inr (.inr v2)), (3, .inr (.inr v3)), (4, .inl v4)] [] (p_L_law_b180 r23 v0 v1 v2 v3 v4) := by
  unfold p_L_law_b180
  refine s_aloadn (j := 1) dL_law_180 rfl ?_
  refine s_aloadn (j := 0) dL_law_181 rfl ?_
  refine s_iload (j := 4) dL_law_182 rfl ?_
  refine s_iconst (v := 1) dL_law_184 (by decide) ?_
  refine s_iadd dL_law_185 ?_
  refine s_scA dL_law_186 (fun x2 => ?_)
  refine s_i2c dL_law_187 ?_
  refine s_aloadn (j := 3) dL_law_188 rfl ?_
  refine s_cSH (rest := []) (met_L_letter l hfl v1 ((Int32.toUInt32 x2 % 65536).toInt32) v3) mthh_L_letter rfl dL_law_189 w_702 w_703 ⟨Nat.le_of_ble_eq_true rfl, Nat.le_of_ble_eq_true rfl⟩ (Nat.le_of_ble_eq_true rfl) rfl (fun x3 => ?_)
  refine s_istore (lv' := [(5, .inl x3), (0, .inr (.inr v0)), (1, .inr (.inr v1)), (2, .inr (.inr v2)), (3, .inr (.inr v3)), (4, .inl v4)]) dL_law_192 (Nat.le_of_ble_eq_true rfl) rfl ?_
  refine s_aloadn (j := 3) dL_law_194 rfl ?_
  refine s_aloadn (j := 1) dL_law_195 rfl ?_
  refine s_iload (j := 5) dL_law_196 rfl ?_
  refine s_iconst (v := 1) dL_law_198 (by decide) ?_
  refine s_iadd dL_law_199 ?_
  refine s_scA dL_law_200 (fun x4 => ?_)
  refine s_i2c dL_law_201 ?_
  refine s_cVI (rest := []) (met_X12_letter l v2 ((Int32.toUInt32 x4 % 65536).toInt32)) cls_13 mth_X12_letter rfl dL_law_202 w_1531 w_1532 w_1533 ⟨Nat.le_of_ble_eq_true rfl, Nat.le_of_ble_eq_true rfl⟩ (Nat.le_of_ble_eq_true rfl) rfl (fun x5 => ?_)
  refine s_istore (lv' := [(6, .inl x5), (5, .inl x3), (0, .inr (.inr v0)), (1, .inr (.inr v1)), (2, .inr (.inr v2)), (3, .inr (.inr v3)), (4, .inl v4)]) dL_law_205 (Nat.le_of_ble_eq_true rfl) rfl ?_
  refine s_aloadn (j := 4) dL_law_207 rfl ?_
  refine s_cVI (rest := []) (met_X12_thrown l v2) cls_13 mth_X12_thrown rfl dL_law_208 w_1527 w_1528 w_1529 ⟨Nat.le_of_ble_eq_true rfl, Nat.le_of_ble_eq_true rfl⟩ (Nat.le_of_ble_eq_true rfl) rfl (fun x6 => ?_)
  refine s_iload (j := 1) dL_law_211 rfl ?_
  refine s_icmp_eq (tgt := 218) dL_law_213 (by decide) ?_ ?_
  · refine s_iload (j := 1) dL_law_218 rfl ?_
    refine s_if_ne (tgt := 235) dL_law_220 (by decide) ?_ ?_
    · exact Sim.sub [2, 3, 4, 5, 6] rfl (sim_L_law_b235 l nm tb hfl r23 hr23 v0 v1 v2 v3 v4)
    · refine s_aloadn (j := 5) dL_law_223 rfl ?_
      refine s_iconst (v := 0) dL_law_224 (by decide) ?_
      refine s_lald dL_law_225 (fun x7 => ?_)
      refine s_iload (j := 0) dL_law_226 rfl ?_
      refine s_i2l dL_law_228 ?_
      refine s_lcmp dL_law_229 ?_
      refine s_if_eq (tgt := 235) dL_law_230 (by decide) ?_ ?_
      · exact Sim.sub [2, 3, 4, 5, 6] rfl (sim_L_law_b235 l nm tb hfl r23 hr23 v0 v1 v2 v3 v4)
      · refine s_iconst (v := 0) dL_law_233 (by decide) ?_
        exact s_zret dL_law_234 rfl
  · refine s_iconst (v := 0) dL_law_216 (by decide) ?_
    exact s_zret dL_law_217 rfl
set_option maxRecDepth 20000 in
theorem sim_L_law_b238 (l : Launch) (nm : String) (tb : List ExceptionTableEntry) (hfl : l.stackTraces = false) (r23 : Option Nat → Option Nat → Option Nat → Option Nat → Int32 → ZM Int32) (hr23 : ∀ (v0 : Option Nat) (v1 : Option Nat) (v2 : Option Nat) (v3 : Option Nat) (v4 : Int32), Sim (M_L_law l nm tb) (zFin zcI) 23 [(0, .inr (.inr v0)), (1, .inr (.inr v1)), (2, .inr (.inr v2)), (3, .inr (.inr v3)), (4, .inl v4)] [] (r23 v0 v1 v2 v3 v4)) (v0 : Option Nat) (v1 : Option Nat) (v2 : Option Nat) (v3 : Option Nat) (v4 : Int32) : Sim (M_L_law l nm tb) (zFin zcI) 238 [(0, .inr (.inr v0)), (1, .inr (.inr v1)), (2, .inr (.inr v2)), (3, .inr (.inr v3)), (4, .inl v4)] [] (p_L_law_b238 r23 v0 v1 v2 v3 v4) := by
  unfold p_L_law_b238
  refine s_aloadn (j := 1) dL_law_238 rfl ?_
  refine s_cVI (rest := []) (met_X11_scrap l v1) cls_12 mth_X11_scrap rfl dL_law_239 w_319 w_320 w_321 ⟨Nat.le_of_ble_eq_true rfl, Nat.le_of_ble_eq_true rfl⟩ (Nat.le_of_ble_eq_true rfl) rfl (fun x8 => ?_)
  refine s_aloadn (j := 2) dL_law_242 rfl ?_
  refine s_cVI (rest := [.inl x8]) (met_X12_scrap l v2) cls_13 mth_X12_scrap rfl dL_law_243 w_1541 w_1542 w_1543 ⟨Nat.le_of_ble_eq_true rfl, Nat.le_of_ble_eq_true rfl⟩ (Nat.le_of_ble_eq_true rfl) rfl (fun x9 => ?_)
  refine s_icmp_eq (tgt := 1892) dL_law_246 (by decide) ?_ ?_
  · exact Sim.sub [0, 1, 2, 3, 4] rfl (sim_L_law_b1892 l nm tb hfl r23 hr23 v0 v1 v2 v3 v4)
  · refine s_iconst (v := 0) dL_law_249 (by decide) ?_
    exact s_zret dL_law_250 rfl
set_option maxRecDepth 20000 in
theorem sim_L_law_b340 (l : Launch) (nm : String) (tb : List ExceptionTableEntry) (hfl : l.stackTraces = false) (r23 : Option Nat → Option Nat → Option Nat → Option Nat → Int32 → ZM Int32) (hr23 : ∀ (v0 : Option Nat) (v1 : Option Nat) (v2 : Option Nat) (v3 : Option Nat) (v4 : Int32), Sim (M_L_law l nm tb) (zFin zcI) 23 [(0, .inr (.inr v0)), (1, .inr (.inr v1)), (2, .inr (.inr v2)), (3, .inr (.inr v3)), (4, .inl v4)] [] (r23 v0 v1 v2 v3 v4)) (v0 : Option Nat) (v1 : Option Nat) (v2 : Option Nat) (v3 : Option Nat) (v4 : Int32) : Sim (M_L_law l nm tb) (zFin zcI) 340 [(0, .inr (.inr v0)), (1, .inr (.inr v1)), (2, .inr (.inr v2)), (3, .inr (.inr v3)), (4, .inl v4)] [] (p_L_law_b340 r23 v0 v1 v2 v3 v4) := by
  unfold p_L_law_b340
  refine s_goto (tgt := 1892) dL_law_340 (by decide) ?_
  exact Sim.sub [0, 1, 2, 3, 4] rfl (sim_L_law_b1892 l nm tb hfl r23 hr23 v0 v1 v2 v3 v4)
set_option maxRecDepth 20000 in
theorem sim_L_law_b251 (l : Launch) (nm : String) (tb : List ExceptionTableEntry) (hfl : l.stackTraces = false) (r23 : Option Nat → Option Nat → Option Nat → Option Nat → Int32 → ZM Int32) (hr23 : ∀ (v0 : Option Nat) (v1 : Option Nat) (v2 : Option Nat) (v3 : Option Nat) (v4 : Int32), Sim (M_L_law l nm tb) (zFin zcI) 23 [(0, .inr (.inr v0)), (1, .inr (.inr v1)), (2, .inr (.inr v2)), (3, .inr (.inr v3)), (4, .inl v4)] [] (r23 v0 v1 v2 v3 v4)) (v0 : Option Nat) (v1 : Option Nat) (v2 : Option Nat) (v3 : Option Nat) (v4 : Int32) : Sim (M_L_law l nm tb) (zFin zcI) 251 [(0, .inr (.inr v0)), (1, .inr (.inr v1)), (2, .inr (.inr v2)), (3, .inr (.inr v3)), (4, .inl v4)] [] (p_L_law_b251 r23 v0 v1 v2 v3 v4) := by
  unfold p_L_law_b251
  refine s_aloadn (j := 1) dL_law_251 rfl ?_
  refine s_aloadn (j := 0) dL_law_252 rfl ?_
  refine s_iload (j := 4) dL_law_253 rfl ?_
  refine s_iconst (v := 1) dL_law_255 (by decide) ?_
  refine s_iadd dL_law_256 ?_
  refine s_scA dL_law_257 (fun x10 => ?_)
  refine s_aloadn (j := 0) dL_law_258 rfl ?_
  refine s_iload (j := 4) dL_law_259 rfl ?_
  refine s_iconst (v := 2) dL_law_261 (by decide) ?_
  refine s_iadd dL_law_262 ?_
  refine s_scA dL_law_263 (fun x11 => ?_)
  refine s_aloadn (j := 0) dL_law_264 rfl ?_
  refine s_iload (j := 4) dL_law_265 rfl ?_
  refine s_iconst (v := 3) dL_law_267 (by decide) ?_
  refine s_iadd dL_law_268 ?_
  refine s_scA dL_law_269 (fun x12 => ?_)
  refine s_aloadn (j := 0) dL_law_270 rfl ?_
  refine s_iload (j := 4) dL_law_271 rfl ?_
  refine s_iconst (v := 4) dL_law_273 (by decide) ?_
  refine s_iadd dL_law_274 ?_
  refine s_scA dL_law_275 (fun x13 => ?_)
  refine s_aloadn (j := 3) dL_law_276 rfl ?_
  refine s_cSH (rest := []) (met_L_stem l hfl v1 x10 x11 x12 x13 v3) mthh_L_stem rfl dL_law_277 w_797 w_798 ⟨Nat.le_of_ble_eq_true rfl, Nat.le_of_ble_eq_true rfl⟩ (Nat.le_of_ble_eq_true rfl) rfl (fun x14 => ?_)
  refine s_istore (lv' := [(5, .inl x14), (0, .inr (.inr v0)), (1, .inr (.inr v1)), (2, .inr (.inr v2)), (3, .inr (.inr v3)), (4, .inl v4)]) dL_law_280 (Nat.le_of_ble_eq_true rfl) rfl ?_
  refine s_aloadn (j := 3) dL_law_282 rfl ?_
  refine s_aloadn (j := 1) dL_law_283 rfl ?_
  refine s_iload (j := 5) dL_law_284 rfl ?_
  refine s_iconst (v := 1) dL_law_286 (by decide) ?_
  refine s_iadd dL_law_287 ?_
  refine s_scA dL_law_288 (fun x15 => ?_)
  refine s_aloadn (j := 1) dL_law_289 rfl ?_
  refine s_iload (j := 5) dL_law_290 rfl ?_
  refine s_iconst (v := 2) dL_law_292 (by decide) ?_
  refine s_iadd dL_law_293 ?_
  refine s_scA dL_law_294 (fun x16 => ?_)
  refine s_aloadn (j := 1) dL_law_295 rfl ?_
  refine s_iload (j := 5) dL_law_296 rfl ?_
  refine s_iconst (v := 3) dL_law_298 (by decide) ?_
  refine s_iadd dL_law_299 ?_
  refine s_scA dL_law_300 (fun x17 => ?_)
  refine s_aloadn (j := 1) dL_law_301 rfl ?_
  refine s_iload (j := 5) dL_law_302 rfl ?_
  refine s_iconst (v := 4) dL_law_304 (by decide) ?_
  refine s_iadd dL_law_305 ?_
  refine s_scA dL_law_306 (fun x18 => ?_)
  refine s_cVI (rest := []) (met_X12_stem l v2 x15 x16 x17 x18) cls_13 mth_X12_stem rfl dL_law_307 w_1545 w_1546 w_1547 ⟨Nat.le_of_ble_eq_true rfl, Nat.le_of_ble_eq_true rfl⟩ (Nat.le_of_ble_eq_true rfl) rfl (fun x19 => ?_)
  refine s_istore (lv' := [(6, .inl x19), (5, .inl x14), (0, .inr (.inr v0)), (1, .inr (.inr v1)), (2, .inr (.inr v2)), (3, .inr (.inr v3)), (4, .inl v4)]) dL_law_310 (Nat.le_of_ble_eq_true rfl) rfl ?_
  refine s_aloadn (j := 4) dL_law_312 rfl ?_
  refine s_cVI (rest := []) (met_X12_thrown l v2) cls_13 mth_X12_thrown rfl dL_law_313 w_1527 w_1528 w_1529 ⟨Nat.le_of_ble_eq_true rfl, Nat.le_of_ble_eq_true rfl⟩ (Nat.le_of_ble_eq_true rfl) rfl (fun x20 => ?_)
  refine s_iload (j := 1) dL_law_316 rfl ?_
  refine s_icmp_eq (tgt := 323) dL_law_318 (by decide) ?_ ?_
  · refine s_iload (j := 1) dL_law_323 rfl ?_
    refine s_if_ne (tgt := 340) dL_law_325 (by decide) ?_ ?_
    · exact Sim.sub [2, 3, 4, 5, 6] rfl (sim_L_law_b340 l nm tb hfl r23 hr23 v0 v1 v2 v3 v4)
    · refine s_aloadn (j := 5) dL_law_328 rfl ?_
      refine s_iconst (v := 0) dL_law_329 (by decide) ?_
      refine s_lald dL_law_330 (fun x21 => ?_)
      refine s_iload (j := 0) dL_law_331 rfl ?_
      refine s_i2l dL_law_333 ?_
      refine s_lcmp dL_law_334 ?_
      refine s_if_eq (tgt := 340) dL_law_335 (by decide) ?_ ?_
      · exact Sim.sub [2, 3, 4, 5, 6] rfl (sim_L_law_b340 l nm tb hfl r23 hr23 v0 v1 v2 v3 v4)
      · refine s_iconst (v := 0) dL_law_338 (by decide) ?_
        exact s_zret dL_law_339 rfl
  · refine s_iconst (v := 0) dL_law_321 (by decide) ?_
    exact s_zret dL_law_322 rfl
set_option maxRecDepth 20000 in
theorem sim_L_law_b476 (l : Launch) (nm : String) (tb : List ExceptionTableEntry) (hfl : l.stackTraces = false) (r23 : Option Nat → Option Nat → Option Nat → Option Nat → Int32 → ZM Int32) (hr23 : ∀ (v0 : Option Nat) (v1 : Option Nat) (v2 : Option Nat) (v3 : Option Nat) (v4 : Int32), Sim (M_L_law l nm tb) (zFin zcI) 23 [(0, .inr (.inr v0)), (1, .inr (.inr v1)), (2, .inr (.inr v2)), (3, .inr (.inr v3)), (4, .inl v4)] [] (r23 v0 v1 v2 v3 v4)) (v0 : Option Nat) (v1 : Option Nat) (v2 : Option Nat) (v3 : Option Nat) (v4 : Int32) : Sim (M_L_law l nm tb) (zFin zcI) 476 [(0, .inr (.inr v0)), (1, .inr (.inr v1)), (2, .inr (.inr v2)), (3, .inr (.inr v3)), (4, .inl v4)] [] (p_L_law_b476 r23 v0 v1 v2 v3 v4) := by
  unfold p_L_law_b476
  refine s_goto (tgt := 1892) dL_law_476 (by decide) ?_
  exact Sim.sub [0, 1, 2, 3, 4] rfl (sim_L_law_b1892 l nm tb hfl r23 hr23 v0 v1 v2 v3 v4)
set_option maxRecDepth 20000 in
theorem sim_L_law_b417 (l : Launch) (nm : String) (tb : List ExceptionTableEntry) (hfl : l.stackTraces = false) (r23 : Option Nat → Option Nat → Option Nat → Option Nat → Int32 → ZM Int32) (hr23 : ∀ (v0 : Option Nat) (v1 : Option Nat) (v2 : Option Nat) (v3 : Option Nat) (v4 : Int32), Sim (M_L_law l nm tb) (zFin zcI) 23 [(0, .inr (.inr v0)), (1, .inr (.inr v1)), (2, .inr (.inr v2)), (3, .inr (.inr v3)), (4, .inl v4)] [] (r23 v0 v1 v2 v3 v4)) (v0 : Option Nat) (v1 : Option Nat) (v2 : Option Nat) (v3 : Option Nat) (v4 : Int32) (v5 : Int32) (s0 : Option Nat) (s1 : Int32) (s2 : Int32) : Sim (M_L_law l nm tb) (zFin zcI) 417 [(0, .inr (.inr v0)), (1, .inr (.inr v1)), (2, .inr (.inr v2)), (3, .inr (.inr v3)), (4, .inl v4), (5, .inl v5)] [.inl s2, .inl s1, .inr (.inr s0)] (p_L_law_b417 r23 v0 v1 v2 v3 v4 v5 s0 s1 s2) := by
  unfold p_L_law_b417
  refine s_aloadn (j := 0) dL_law_417 rfl ?_
  refine s_iload (j := 4) dL_law_418 rfl ?_
  refine s_iconst (v := 3) dL_law_420 (by decide) ?_
  refine s_iadd dL_law_421 ?_
  refine s_scA dL_law_422 (fun x22 => ?_)
  refine s_aloadn (j := 0) dL_law_423 rfl ?_
  refine s_iload (j := 4) dL_law_424 rfl ?_
  refine s_iconst (v := 4) dL_law_426 (by decide) ?_
  refine s_iadd dL_law_427 ?_
  refine s_scA dL_law_428 (fun x23 => ?_)
  refine s_i2c dL_law_429 ?_
  refine s_aloadn (j := 0) dL_law_430 rfl ?_
  refine s_iload (j := 4) dL_law_431 rfl ?_
  refine s_iconst (v := 5) dL_law_433 (by decide) ?_
  refine s_iadd dL_law_434 ?_
  refine s_scA dL_law_435 (fun x24 => ?_)
  refine s_aloadn (j := 0) dL_law_436 rfl ?_
  refine s_iload (j := 4) dL_law_437 rfl ?_
  refine s_bipush (v := 6) dL_law_439 (by decide) ?_
  refine s_iadd dL_law_441 ?_
  refine s_scA dL_law_442 (fun x25 => ?_)
  refine s_cVI (rest := []) (met_X12_rule l s0 s1 s2 x22 ((Int32.toUInt32 x23 % 65536).toInt32) x24 x25) cls_13 mth_X12_rule rfl dL_law_443 w_1549 w_1550 w_1551 ⟨Nat.le_of_ble_eq_true rfl, Nat.le_of_ble_eq_true rfl⟩ (Nat.le_of_ble_eq_true rfl) rfl (fun x26 => ?_)
  refine s_istore (lv' := [(6, .inl x26), (0, .inr (.inr v0)), (1, .inr (.inr v1)), (2, .inr (.inr v2)), (3, .inr (.inr v3)), (4, .inl v4), (5, .inl v5)]) dL_law_446 (Nat.le_of_ble_eq_true rfl) rfl ?_
  refine s_aloadn (j := 3) dL_law_448 rfl ?_
  refine s_cVI (rest := []) (met_X12_thrown l v2) cls_13 mth_X12_thrown rfl dL_law_449 w_1527 w_1528 w_1529 ⟨Nat.le_of_ble_eq_true rfl, Nat.le_of_ble_eq_true rfl⟩ (Nat.le_of_ble_eq_true rfl) rfl (fun x27 => ?_)
  refine s_iload (j := 6) dL_law_452 rfl ?_
  refine s_icmp_eq (tgt := 459) dL_law_454 (by decide) ?_ ?_
  · refine s_iload (j := 6) dL_law_459 rfl ?_
    refine s_if_ne (tgt := 476) dL_law_461 (by decide) ?_ ?_
    · exact Sim.sub [1, 2, 3, 4, 5] rfl (sim_L_law_b476 l nm tb hfl r23 hr23 v0 v1 v2 v3 v4)
    · refine s_aloadn (j := 4) dL_law_464 rfl ?_
      refine s_iconst (v := 0) dL_law_465 (by decide) ?_
      refine s_lald dL_law_466 (fun x28 => ?_)
      refine s_iload (j := 0) dL_law_467 rfl ?_
      refine s_i2l dL_law_469 ?_
      refine s_lcmp dL_law_470 ?_
      refine s_if_eq (tgt := 476) dL_law_471 (by decide) ?_ ?_
      · exact Sim.sub [1, 2, 3, 4, 5] rfl (sim_L_law_b476 l nm tb hfl r23 hr23 v0 v1 v2 v3 v4)
      · refine s_iconst (v := 0) dL_law_474 (by decide) ?_
        exact s_zret dL_law_475 rfl
  · refine s_iconst (v := 0) dL_law_457 (by decide) ?_
    exact s_zret dL_law_458 rfl
set_option maxRecDepth 20000 in
theorem sim_L_law_b364 (l : Launch) (nm : String) (tb : List ExceptionTableEntry) (hfl : l.stackTraces = false) (r23 : Option Nat → Option Nat → Option Nat → Option Nat → Int32 → ZM Int32) (hr23 : ∀ (v0 : Option Nat) (v1 : Option Nat) (v2 : Option Nat) (v3 : Option Nat) (v4 : Int32), Sim (M_L_law l nm tb) (zFin zcI) 23 [(0, .inr (.inr v0)), (1, .inr (.inr v1)), (2, .inr (.inr v2)), (3, .inr (.inr v3)), (4, .inl v4)] [] (r23 v0 v1 v2 v3 v4)) (v0 : Option Nat) (v1 : Option Nat) (v2 : Option Nat) (v3 : Option Nat) (v4 : Int32) (s0 : Option Nat) (s1 : Int32) (s2 : Int32) : Sim (M_L_law l nm tb) (zFin zcI) 364 [(0, .inr (.inr v0)), (1, .inr (.inr v1)), (2, .inr (.inr v2)), (3, .inr (.inr v3)), (4, .inl v4)] [.inl s2, .inl s1, .inr (.inr s0)] (p_L_law_b364 r23 v0 v1 v2 v3 v4 s0 s1 s2) := by
  unfold p_L_law_b364
  refine s_aloadn (j := 0) dL_law_364 rfl ?_
  refine s_iload (j := 4) dL_law_365 rfl ?_
  refine s_iconst (v := 3) dL_law_367 (by decide) ?_
  refine s_iadd dL_law_368 ?_
  refine s_scA dL_law_369 (fun x29 => ?_)
  refine s_aloadn (j := 0) dL_law_370 rfl ?_
  refine s_iload (j := 4) dL_law_371 rfl ?_
  refine s_iconst (v := 4) dL_law_373 (by decide) ?_
  refine s_iadd dL_law_374 ?_
  refine s_scA dL_law_375 (fun x30 => ?_)
  refine s_i2c dL_law_376 ?_
  refine s_aloadn (j := 0) dL_law_377 rfl ?_
  refine s_iload (j := 4) dL_law_378 rfl ?_
  refine s_iconst (v := 5) dL_law_380 (by decide) ?_
  refine s_iadd dL_law_381 ?_
  refine s_scA dL_law_382 (fun x31 => ?_)
  refine s_aloadn (j := 0) dL_law_383 rfl ?_
  refine s_iload (j := 4) dL_law_384 rfl ?_
  refine s_bipush (v := 6) dL_law_386 (by decide) ?_
  refine s_iadd dL_law_388 ?_
  refine s_scA dL_law_389 (fun x32 => ?_)
  refine s_aloadn (j := 3) dL_law_390 rfl ?_
  refine s_cSH (rest := []) (met_L_rule l hfl s0 s1 s2 x29 ((Int32.toUInt32 x30 % 65536).toInt32) x31 x32 v3) mthh_L_rule rfl dL_law_391 w_978 w_979 ⟨Nat.le_of_ble_eq_true rfl, Nat.le_of_ble_eq_true rfl⟩ (Nat.le_of_ble_eq_true rfl) rfl (fun x33 => ?_)
  refine s_istore (lv' := [(5, .inl x33), (0, .inr (.inr v0)), (1, .inr (.inr v1)), (2, .inr (.inr v2)), (3, .inr (.inr v3)), (4, .inl v4)]) dL_law_394 (Nat.le_of_ble_eq_true rfl) rfl ?_
  refine s_aloadn (j := 3) dL_law_396 rfl ?_
  refine s_aloadn (j := 1) dL_law_397 rfl ?_
  refine s_iload (j := 5) dL_law_398 rfl ?_
  refine s_iconst (v := 1) dL_law_400 (by decide) ?_
  refine s_iadd dL_law_401 ?_
  refine s_scA dL_law_402 (fun x34 => ?_)
  refine s_aloadn (j := 1) dL_law_403 rfl ?_
  refine s_iload (j := 5) dL_law_404 rfl ?_
  refine s_iconst (v := 2) dL_law_406 (by decide) ?_
  refine s_iadd dL_law_407 ?_
  refine s_scA dL_law_408 (fun x35 => ?_)
  refine s_if_eq (tgt := 416) dL_law_409 (by decide) ?_ ?_
  · refine s_iconst (v := 0) dL_law_416 (by decide) ?_
    exact Sim.sub [1, 2, 3, 4, 5, 0] rfl (sim_L_law_b417 l nm tb hfl r23 hr23 v0 v1 v2 v3 v4 x33 v2 x34 0)
  · refine s_iconst (v := 1) dL_law_412 (by decide) ?_
    refine s_goto (tgt := 417) dL_law_413 (by decide) ?_
    exact Sim.sub [1, 2, 3, 4, 5, 0] rfl (sim_L_law_b417 l nm tb hfl r23 hr23 v0 v1 v2 v3 v4 x33 v2 x34 1)
set_option maxRecDepth 20000 in
theorem sim_L_law_b343 (l : Launch) (nm : String) (tb : List ExceptionTableEntry) (hfl : l.stackTraces = false) (r23 : Option Nat → Option Nat → Option Nat → Option Nat → Int32 → ZM Int32) (hr23 : ∀ (v0 : Option Nat) (v1 : Option Nat) (v2 : Option Nat) (v3 : Option Nat) (v4 : Int32), Sim (M_L_law l nm tb) (zFin zcI) 23 [(0, .inr (.inr v0)), (1, .inr (.inr v1)), (2, .inr (.inr v2)), (3, .inr (.inr v3)), (4, .inl v4)] [] (r23 v0 v1 v2 v3 v4)) (v0 : Option Nat) (v1 : Option Nat) (v2 : Option Nat) (v3 : Option Nat) (v4 : Int32) : Sim (M_L_law l nm tb) (zFin zcI) 343 [(0, .inr (.inr v0)), (1, .inr (.inr v1)), (2, .inr (.inr v2)), (3, .inr (.inr v3)), (4, .inl v4)] [] (p_L_law_b343 r23 v0 v1 v2 v3 v4) := by
  unfold p_L_law_b343
  refine s_aloadn (j := 1) dL_law_343 rfl ?_
  refine s_aloadn (j := 0) dL_law_344 rfl ?_
  refine s_iload (j := 4) dL_law_345 rfl ?_
  refine s_iconst (v := 1) dL_law_347 (by decide) ?_
  refine s_iadd dL_law_348 ?_
  refine s_scA dL_law_349 (fun x36 => ?_)
  refine s_aloadn (j := 0) dL_law_350 rfl ?_
  refine s_iload (j := 4) dL_law_351 rfl ?_
  refine s_iconst (v := 2) dL_law_353 (by decide) ?_
  refine s_iadd dL_law_354 ?_
  refine s_scA dL_law_355 (fun x37 => ?_)
  refine s_if_eq (tgt := 363) dL_law_356 (by decide) ?_ ?_
  · refine s_iconst (v := 0) dL_law_363 (by decide) ?_
    exact Sim.sub [0, 1, 2, 3, 4] rfl (sim_L_law_b364 l nm tb hfl r23 hr23 v0 v1 v2 v3 v4 v1 x36 0)
  · refine s_iconst (v := 1) dL_law_359 (by decide) ?_
    refine s_goto (tgt := 364) dL_law_360 (by decide) ?_
    exact Sim.sub [0, 1, 2, 3, 4] rfl (sim_L_law_b364 l nm tb hfl r23 hr23 v0 v1 v2 v3 v4 v1 x36 1)
set_option maxRecDepth 20000 in
theorem sim_L_law_b544 (l : Launch) (nm : String) (tb : List ExceptionTableEntry) (hfl : l.stackTraces = false) (r23 : Option Nat → Option Nat → Option Nat → Option Nat → Int32 → ZM Int32) (hr23 : ∀ (v0 : Option Nat) (v1 : Option Nat) (v2 : Option Nat) (v3 : Option Nat) (v4 : Int32), Sim (M_L_law l nm tb) (zFin zcI) 23 [(0, .inr (.inr v0)), (1, .inr (.inr v1)), (2, .inr (.inr v2)), (3, .inr (.inr v3)), (4, .inl v4)] [] (r23 v0 v1 v2 v3 v4)) (v0 : Option Nat) (v1 : Option Nat) (v2 : Option Nat) (v3 : Option Nat) (v4 : Int32) : Sim (M_L_law l nm tb) (zFin zcI) 544 [(0, .inr (.inr v0)), (1, .inr (.inr v1)), (2, .inr (.inr v2)), (3, .inr (.inr v3)), (4, .inl v4)] [] (p_L_law_b544 r23 v0 v1 v2 v3 v4) := by
  unfold p_L_law_b544
  refine s_goto (tgt := 1892) dL_law_544 (by decide) ?_
  exact Sim.sub [0, 1, 2, 3, 4] rfl (sim_L_law_b1892 l nm tb hfl r23 hr23 v0 v1 v2 v3 v4)
set_option maxRecDepth 20000 in
theorem sim_L_law_b479 (l : Launch) (nm : String) (tb : List ExceptionTableEntry) (hfl : l.stackTraces = false) (r23 : Option Nat → Option Nat → Option Nat → Option Nat → Int32 → ZM Int32) (hr23 : ∀ (v0 : Option Nat) (v1 : Option Nat) (v2 : Option Nat) (v3 : Option Nat) (v4 : Int32), Sim (M_L_law l nm tb) (zFin zcI) 23 [(0, .inr (.inr v0)), (1, .inr (.inr v1)), (2, .inr (.inr v2)), (3, .inr (.inr v3)), (4, .inl v4)] [] (r23 v0 v1 v2 v3 v4)) (v0 : Option Nat) (v1 : Option Nat) (v2 : Option Nat) (v3 : Option Nat) (v4 : Int32) : Sim (M_L_law l nm tb) (zFin zcI) 479 [(0, .inr (.inr v0)), (1, .inr (.inr v1)), (2, .inr (.inr v2)), (3, .inr (.inr v3)), (4, .inl v4)] [] (p_L_law_b479 r23 v0 v1 v2 v3 v4) := by
  unfold p_L_law_b479
  refine s_aloadn (j := 1) dL_law_479 rfl ?_
  refine s_aloadn (j := 0) dL_law_480 rfl ?_
  refine s_iload (j := 4) dL_law_481 rfl ?_
  refine s_iconst (v := 1) dL_law_483 (by decide) ?_
  refine s_iadd dL_law_484 ?_
  refine s_scA dL_law_485 (fun x38 => ?_)
  refine s_aloadn (j := 0) dL_law_486 rfl ?_
  refine s_iload (j := 4) dL_law_487 rfl ?_
  refine s_iconst (v := 2) dL_law_489 (by decide) ?_
  refine s_iadd dL_law_490 ?_
  refine s_scA dL_law_491 (fun x39 => ?_)
  refine s_aloadn (j := 3) dL_law_492 rfl ?_
  refine s_cSH (rest := []) (met_L_more l hfl v1 x38 x39 v3) mthh_L_more rfl dL_law_493 w_1028 w_1029 ⟨Nat.le_of_ble_eq_true rfl, Nat.le_of_ble_eq_true rfl⟩ (Nat.le_of_ble_eq_true rfl) rfl (fun x40 => ?_)
  refine s_istore (lv' := [(5, .inl x40), (0, .inr (.inr v0)), (1, .inr (.inr v1)), (2, .inr (.inr v2)), (3, .inr (.inr v3)), (4, .inl v4)]) dL_law_496 (Nat.le_of_ble_eq_true rfl) rfl ?_
  refine s_aloadn (j := 3) dL_law_498 rfl ?_
  refine s_aloadn (j := 1) dL_law_499 rfl ?_
  refine s_iload (j := 5) dL_law_500 rfl ?_
  refine s_iconst (v := 1) dL_law_502 (by decide) ?_
  refine s_iadd dL_law_503 ?_
  refine s_scA dL_law_504 (fun x41 => ?_)
  refine s_aloadn (j := 1) dL_law_505 rfl ?_
  refine s_iload (j := 5) dL_law_506 rfl ?_
  refine s_iconst (v := 2) dL_law_508 (by decide) ?_
  refine s_iadd dL_law_509 ?_
  refine s_scA dL_law_510 (fun x42 => ?_)
  refine s_cVI (rest := []) (met_X12_more l v2 x41 x42) cls_13 mth_X12_more rfl dL_law_511 w_1553 w_1554 w_1555 ⟨Nat.le_of_ble_eq_true rfl, Nat.le_of_ble_eq_true rfl⟩ (Nat.le_of_ble_eq_true rfl) rfl (fun x43 => ?_)
  refine s_istore (lv' := [(6, .inl x43), (5, .inl x40), (0, .inr (.inr v0)), (1, .inr (.inr v1)), (2, .inr (.inr v2)), (3, .inr (.inr v3)), (4, .inl v4)]) dL_law_514 (Nat.le_of_ble_eq_true rfl) rfl ?_
  refine s_aloadn (j := 4) dL_law_516 rfl ?_
  refine s_cVI (rest := []) (met_X12_thrown l v2) cls_13 mth_X12_thrown rfl dL_law_517 w_1527 w_1528 w_1529 ⟨Nat.le_of_ble_eq_true rfl, Nat.le_of_ble_eq_true rfl⟩ (Nat.le_of_ble_eq_true rfl) rfl (fun x44 => ?_)
  refine s_iload (j := 1) dL_law_520 rfl ?_
  refine s_icmp_eq (tgt := 527) dL_law_522 (by decide) ?_ ?_
  · refine s_iload (j := 1) dL_law_527 rfl ?_
    refine s_if_ne (tgt := 544) dL_law_529 (by decide) ?_ ?_
    · exact Sim.sub [2, 3, 4, 5, 6] rfl (sim_L_law_b544 l nm tb hfl r23 hr23 v0 v1 v2 v3 v4)
    · refine s_aloadn (j := 5) dL_law_532 rfl ?_
      refine s_iconst (v := 0) dL_law_533 (by decide) ?_
      refine s_lald dL_law_534 (fun x45 => ?_)
      refine s_iload (j := 0) dL_law_535 rfl ?_
      refine s_i2l dL_law_537 ?_
      refine s_lcmp dL_law_538 ?_
      refine s_if_eq (tgt := 544) dL_law_539 (by decide) ?_ ?_
      · exact Sim.sub [2, 3, 4, 5, 6] rfl (sim_L_law_b544 l nm tb hfl r23 hr23 v0 v1 v2 v3 v4)
      · refine s_iconst (v := 0) dL_law_542 (by decide) ?_
        exact s_zret dL_law_543 rfl
  · refine s_iconst (v := 0) dL_law_525 (by decide) ?_
    exact s_zret dL_law_526 rfl
set_option maxRecDepth 20000 in
theorem sim_L_law_b623 (l : Launch) (nm : String) (tb : List ExceptionTableEntry) (hfl : l.stackTraces = false) (r23 : Option Nat → Option Nat → Option Nat → Option Nat → Int32 → ZM Int32) (hr23 : ∀ (v0 : Option Nat) (v1 : Option Nat) (v2 : Option Nat) (v3 : Option Nat) (v4 : Int32), Sim (M_L_law l nm tb) (zFin zcI) 23 [(0, .inr (.inr v0)), (1, .inr (.inr v1)), (2, .inr (.inr v2)), (3, .inr (.inr v3)), (4, .inl v4)] [] (r23 v0 v1 v2 v3 v4)) (v0 : Option Nat) (v1 : Option Nat) (v2 : Option Nat) (v3 : Option Nat) (v4 : Int32) : Sim (M_L_law l nm tb) (zFin zcI) 623 [(0, .inr (.inr v0)), (1, .inr (.inr v1)), (2, .inr (.inr v2)), (3, .inr (.inr v3)), (4, .inl v4)] [] (p_L_law_b623 r23 v0 v1 v2 v3 v4) := by
  unfold p_L_law_b623
  refine s_goto (tgt := 1892) dL_law_623 (by decide) ?_
  exact Sim.sub [0, 1, 2, 3, 4] rfl (sim_L_law_b1892 l nm tb hfl r23 hr23 v0 v1 v2 v3 v4)
set_option maxRecDepth 20000 in
theorem sim_L_law_b617 (l : Launch) (nm : String) (tb : List ExceptionTableEntry) (hfl : l.stackTraces = false) (r23 : Option Nat → Option Nat → Option Nat → Option Nat → Int32 → ZM Int32) (hr23 : ∀ (v0 : Option Nat) (v1 : Option Nat) (v2 : Option Nat) (v3 : Option Nat) (v4 : Int32), Sim (M_L_law l nm tb) (zFin zcI) 23 [(0, .inr (.inr v0)), (1, .inr (.inr v1)), (2, .inr (.inr v2)), (3, .inr (.inr v3)), (4, .inl v4)] [] (r23 v0 v1 v2 v3 v4)) (v0 : Option Nat) (v1 : Option Nat) (v2 : Option Nat) (v3 : Option Nat) (v4 : Int32) (s0 : Int64) (s1 : Int64) : Sim (M_L_law l nm tb) (zFin zcI) 617 [(0, .inr (.inr v0)), (1, .inr (.inr v1)), (2, .inr (.inr v2)), (3, .inr (.inr v3)), (4, .inl v4)] [.inr (.inl s1), .inr (.inl s0)] (p_L_law_b617 r23 v0 v1 v2 v3 v4 s0 s1) := by
  unfold p_L_law_b617
  refine s_lcmp dL_law_617 ?_
  refine s_if_eq (tgt := 623) dL_law_618 (by decide) ?_ ?_
  · exact Sim.sub [0, 1, 2, 3, 4] rfl (sim_L_law_b623 l nm tb hfl r23 hr23 v0 v1 v2 v3 v4)
  · refine s_iconst (v := 0) dL_law_621 (by decide) ?_
    exact s_zret dL_law_622 rfl
set_option maxRecDepth 20000 in
theorem sim_L_law_b547 (l : Launch) (nm : String) (tb : List ExceptionTableEntry) (hfl : l.stackTraces = false) (r23 : Option Nat → Option Nat → Option Nat → Option Nat → Int32 → ZM Int32) (hr23 : ∀ (v0 : Option Nat) (v1 : Option Nat) (v2 : Option Nat) (v3 : Option Nat) (v4 : Int32), Sim (M_L_law l nm tb) (zFin zcI) 23 [(0, .inr (.inr v0)), (1, .inr (.inr v1)), (2, .inr (.inr v2)), (3, .inr (.inr v3)), (4, .inl v4)] [] (r23 v0 v1 v2 v3 v4)) (v0 : Option Nat) (v1 : Option Nat) (v2 : Option Nat) (v3 : Option Nat) (v4 : Int32) : Sim (M_L_law l nm tb) (zFin zcI) 547 [(0, .inr (.inr v0)), (1, .inr (.inr v1)), (2, .inr (.inr v2)), (3, .inr (.inr v3)), (4, .inl v4)] [] (p_L_law_b547 r23 v0 v1 v2 v3 v4) := by
  unfold p_L_law_b547
  refine s_aloadn (j := 1) dL_law_547 rfl ?_
  refine s_aloadn (j := 0) dL_law_548 rfl ?_
  refine s_iload (j := 4) dL_law_549 rfl ?_
  refine s_iconst (v := 1) dL_law_551 (by decide) ?_
  refine s_iadd dL_law_552 ?_
  refine s_scA dL_law_553 (fun x46 => ?_)
  refine s_i2c dL_law_554 ?_
  refine s_aloadn (j := 0) dL_law_555 rfl ?_
  refine s_iload (j := 4) dL_law_556 rfl ?_
  refine s_iconst (v := 2) dL_law_558 (by decide) ?_
  refine s_iadd dL_law_559 ?_
  refine s_scA dL_law_560 (fun x47 => ?_)
  refine s_i2c dL_law_561 ?_
  refine s_aloadn (j := 3) dL_law_562 rfl ?_
  refine s_cSH (rest := []) (met_L_sound l hfl v1 ((Int32.toUInt32 x46 % 65536).toInt32) ((Int32.toUInt32 x47 % 65536).toInt32) v3) mthh_L_sound rfl dL_law_563 w_1059 w_1060 ⟨Nat.le_of_ble_eq_true rfl, Nat.le_of_ble_eq_true rfl⟩ (Nat.le_of_ble_eq_true rfl) rfl (fun x48 => ?_)
  refine s_istore (lv' := [(5, .inl x48), (0, .inr (.inr v0)), (1, .inr (.inr v1)), (2, .inr (.inr v2)), (3, .inr (.inr v3)), (4, .inl v4)]) dL_law_566 (Nat.le_of_ble_eq_true rfl) rfl ?_
  refine s_aloadn (j := 3) dL_law_568 rfl ?_
  refine s_aloadn (j := 1) dL_law_569 rfl ?_
  refine s_iload (j := 5) dL_law_570 rfl ?_
  refine s_iconst (v := 1) dL_law_572 (by decide) ?_
  refine s_iadd dL_law_573 ?_
  refine s_scA dL_law_574 (fun x49 => ?_)
  refine s_i2c dL_law_575 ?_
  refine s_aloadn (j := 1) dL_law_576 rfl ?_
  refine s_iload (j := 5) dL_law_577 rfl ?_
  refine s_iconst (v := 2) dL_law_579 (by decide) ?_
  refine s_iadd dL_law_580 ?_
  refine s_scA dL_law_581 (fun x50 => ?_)
  refine s_i2c dL_law_582 ?_
  refine s_cVI (rest := []) (met_X12_sound l v2 ((Int32.toUInt32 x49 % 65536).toInt32) ((Int32.toUInt32 x50 % 65536).toInt32)) cls_13 mth_X12_sound rfl dL_law_583 w_1557 w_1558 w_1559 ⟨Nat.le_of_ble_eq_true rfl, Nat.le_of_ble_eq_true rfl⟩ (Nat.le_of_ble_eq_true rfl) rfl (fun x51 => ?_)
  refine s_istore (lv' := [(6, .inl x51), (5, .inl x48), (0, .inr (.inr v0)), (1, .inr (.inr v1)), (2, .inr (.inr v2)), (3, .inr (.inr v3)), (4, .inl v4)]) dL_law_586 (Nat.le_of_ble_eq_true rfl) rfl ?_
  refine s_aloadn (j := 4) dL_law_588 rfl ?_
  refine s_cVI (rest := []) (met_X12_thrown l v2) cls_13 mth_X12_thrown rfl dL_law_589 w_1527 w_1528 w_1529 ⟨Nat.le_of_ble_eq_true rfl, Nat.le_of_ble_eq_true rfl⟩ (Nat.le_of_ble_eq_true rfl) rfl (fun x52 => ?_)
  refine s_iload (j := 1) dL_law_592 rfl ?_
  refine s_icmp_eq (tgt := 599) dL_law_594 (by decide) ?_ ?_
  · refine s_iload (j := 1) dL_law_599 rfl ?_
    refine s_if_ne (tgt := 623) dL_law_601 (by decide) ?_ ?_
    · exact Sim.sub [2, 3, 4, 5, 6] rfl (sim_L_law_b623 l nm tb hfl r23 hr23 v0 v1 v2 v3 v4)
    · refine s_aloadn (j := 5) dL_law_604 rfl ?_
      refine s_iconst (v := 0) dL_law_605 (by decide) ?_
      refine s_lald dL_law_606 (fun x53 => ?_)
      refine s_iload (j := 0) dL_law_607 rfl ?_
      refine s_if_eq (tgt := 616) dL_law_609 (by decide) ?_ ?_
      · refine s_lconst (v := 0) dL_law_616 (by decide) ?_
        exact Sim.sub [2, 3, 4, 5, 6] rfl (sim_L_law_b617 l nm tb hfl r23 hr23 v0 v1 v2 v3 v4 x53 0)
      · refine s_lconst (v := 1) dL_law_612 (by decide) ?_
        refine s_goto (tgt := 617) dL_law_613 (by decide) ?_
        exact Sim.sub [2, 3, 4, 5, 6] rfl (sim_L_law_b617 l nm tb hfl r23 hr23 v0 v1 v2 v3 v4 x53 1)
  · refine s_iconst (v := 0) dL_law_597 (by decide) ?_
    exact s_zret dL_law_598 rfl
set_option maxRecDepth 20000 in
theorem sim_L_law_b691 (l : Launch) (nm : String) (tb : List ExceptionTableEntry) (hfl : l.stackTraces = false) (r23 : Option Nat → Option Nat → Option Nat → Option Nat → Int32 → ZM Int32) (hr23 : ∀ (v0 : Option Nat) (v1 : Option Nat) (v2 : Option Nat) (v3 : Option Nat) (v4 : Int32), Sim (M_L_law l nm tb) (zFin zcI) 23 [(0, .inr (.inr v0)), (1, .inr (.inr v1)), (2, .inr (.inr v2)), (3, .inr (.inr v3)), (4, .inl v4)] [] (r23 v0 v1 v2 v3 v4)) (v0 : Option Nat) (v1 : Option Nat) (v2 : Option Nat) (v3 : Option Nat) (v4 : Int32) : Sim (M_L_law l nm tb) (zFin zcI) 691 [(0, .inr (.inr v0)), (1, .inr (.inr v1)), (2, .inr (.inr v2)), (3, .inr (.inr v3)), (4, .inl v4)] [] (p_L_law_b691 r23 v0 v1 v2 v3 v4) := by
  unfold p_L_law_b691
  refine s_goto (tgt := 1892) dL_law_691 (by decide) ?_
  exact Sim.sub [0, 1, 2, 3, 4] rfl (sim_L_law_b1892 l nm tb hfl r23 hr23 v0 v1 v2 v3 v4)
set_option maxRecDepth 20000 in
theorem sim_L_law_b626 (l : Launch) (nm : String) (tb : List ExceptionTableEntry) (hfl : l.stackTraces = false) (r23 : Option Nat → Option Nat → Option Nat → Option Nat → Int32 → ZM Int32) (hr23 : ∀ (v0 : Option Nat) (v1 : Option Nat) (v2 : Option Nat) (v3 : Option Nat) (v4 : Int32), Sim (M_L_law l nm tb) (zFin zcI) 23 [(0, .inr (.inr v0)), (1, .inr (.inr v1)), (2, .inr (.inr v2)), (3, .inr (.inr v3)), (4, .inl v4)] [] (r23 v0 v1 v2 v3 v4)) (v0 : Option Nat) (v1 : Option Nat) (v2 : Option Nat) (v3 : Option Nat) (v4 : Int32) : Sim (M_L_law l nm tb) (zFin zcI) 626 [(0, .inr (.inr v0)), (1, .inr (.inr v1)), (2, .inr (.inr v2)), (3, .inr (.inr v3)), (4, .inl v4)] [] (p_L_law_b626 r23 v0 v1 v2 v3 v4) := by
  unfold p_L_law_b626
  refine s_aloadn (j := 1) dL_law_626 rfl ?_
  refine s_aloadn (j := 0) dL_law_627 rfl ?_
  refine s_iload (j := 4) dL_law_628 rfl ?_
  refine s_iconst (v := 1) dL_law_630 (by decide) ?_
  refine s_iadd dL_law_631 ?_
  refine s_scA dL_law_632 (fun x54 => ?_)
  refine s_aloadn (j := 0) dL_law_633 rfl ?_
  refine s_iload (j := 4) dL_law_634 rfl ?_
  refine s_iconst (v := 2) dL_law_636 (by decide) ?_
  refine s_iadd dL_law_637 ?_
  refine s_scA dL_law_638 (fun x55 => ?_)
  refine s_aloadn (j := 3) dL_law_639 rfl ?_
  refine s_cSH (rest := []) (met_L_own l hfl v1 x54 x55 v3) mthh_L_own rfl dL_law_640 w_1071 w_1072 ⟨Nat.le_of_ble_eq_true rfl, Nat.le_of_ble_eq_true rfl⟩ (Nat.le_of_ble_eq_true rfl) rfl (fun x56 => ?_)
  refine s_istore (lv' := [(5, .inl x56), (0, .inr (.inr v0)), (1, .inr (.inr v1)), (2, .inr (.inr v2)), (3, .inr (.inr v3)), (4, .inl v4)]) dL_law_643 (Nat.le_of_ble_eq_true rfl) rfl ?_
  refine s_aloadn (j := 3) dL_law_645 rfl ?_
  refine s_aloadn (j := 1) dL_law_646 rfl ?_
  refine s_iload (j := 5) dL_law_647 rfl ?_
  refine s_iconst (v := 1) dL_law_649 (by decide) ?_
  refine s_iadd dL_law_650 ?_
  refine s_scA dL_law_651 (fun x57 => ?_)
  refine s_aloadn (j := 1) dL_law_652 rfl ?_
  refine s_iload (j := 5) dL_law_653 rfl ?_
  refine s_iconst (v := 2) dL_law_655 (by decide) ?_
  refine s_iadd dL_law_656 ?_
  refine s_scA dL_law_657 (fun x58 => ?_)
  refine s_cVI (rest := []) (met_X12_own l v2 x57 x58) cls_13 mth_X12_own rfl dL_law_658 w_1561 w_1562 w_1563 ⟨Nat.le_of_ble_eq_true rfl, Nat.le_of_ble_eq_true rfl⟩ (Nat.le_of_ble_eq_true rfl) rfl (fun x59 => ?_)
  refine s_istore (lv' := [(6, .inl x59), (5, .inl x56), (0, .inr (.inr v0)), (1, .inr (.inr v1)), (2, .inr (.inr v2)), (3, .inr (.inr v3)), (4, .inl v4)]) dL_law_661 (Nat.le_of_ble_eq_true rfl) rfl ?_
  refine s_aloadn (j := 4) dL_law_663 rfl ?_
  refine s_cVI (rest := []) (met_X12_thrown l v2) cls_13 mth_X12_thrown rfl dL_law_664 w_1527 w_1528 w_1529 ⟨Nat.le_of_ble_eq_true rfl, Nat.le_of_ble_eq_true rfl⟩ (Nat.le_of_ble_eq_true rfl) rfl (fun x60 => ?_)
  refine s_iload (j := 1) dL_law_667 rfl ?_
  refine s_icmp_eq (tgt := 674) dL_law_669 (by decide) ?_ ?_
  · refine s_iload (j := 1) dL_law_674 rfl ?_
    refine s_if_ne (tgt := 691) dL_law_676 (by decide) ?_ ?_
    · exact Sim.sub [2, 3, 4, 5, 6] rfl (sim_L_law_b691 l nm tb hfl r23 hr23 v0 v1 v2 v3 v4)
    · refine s_aloadn (j := 5) dL_law_679 rfl ?_
      refine s_iconst (v := 0) dL_law_680 (by decide) ?_
      refine s_lald dL_law_681 (fun x61 => ?_)
      refine s_iload (j := 0) dL_law_682 rfl ?_
      refine s_i2l dL_law_684 ?_
      refine s_lcmp dL_law_685 ?_
      refine s_if_eq (tgt := 691) dL_law_686 (by decide) ?_ ?_
      · exact Sim.sub [2, 3, 4, 5, 6] rfl (sim_L_law_b691 l nm tb hfl r23 hr23 v0 v1 v2 v3 v4)
      · refine s_iconst (v := 0) dL_law_689 (by decide) ?_
        exact s_zret dL_law_690 rfl
  · refine s_iconst (v := 0) dL_law_672 (by decide) ?_
    exact s_zret dL_law_673 rfl
set_option maxRecDepth 20000 in
theorem sim_L_law_b735 (l : Launch) (nm : String) (tb : List ExceptionTableEntry) (hfl : l.stackTraces = false) (r23 : Option Nat → Option Nat → Option Nat → Option Nat → Int32 → ZM Int32) (hr23 : ∀ (v0 : Option Nat) (v1 : Option Nat) (v2 : Option Nat) (v3 : Option Nat) (v4 : Int32), Sim (M_L_law l nm tb) (zFin zcI) 23 [(0, .inr (.inr v0)), (1, .inr (.inr v1)), (2, .inr (.inr v2)), (3, .inr (.inr v3)), (4, .inl v4)] [] (r23 v0 v1 v2 v3 v4)) (v0 : Option Nat) (v1 : Option Nat) (v2 : Option Nat) (v3 : Option Nat) (v4 : Int32) : Sim (M_L_law l nm tb) (zFin zcI) 735 [(0, .inr (.inr v0)), (1, .inr (.inr v1)), (2, .inr (.inr v2)), (3, .inr (.inr v3)), (4, .inl v4)] [] (p_L_law_b735 r23 v0 v1 v2 v3 v4) := by
  unfold p_L_law_b735
  refine s_goto (tgt := 1892) dL_law_735 (by decide) ?_
  exact Sim.sub [0, 1, 2, 3, 4] rfl (sim_L_law_b1892 l nm tb hfl r23 hr23 v0 v1 v2 v3 v4)
set_option maxRecDepth 20000 in
theorem sim_L_law_b694 (l : Launch) (nm : String) (tb : List ExceptionTableEntry) (hfl : l.stackTraces = false) (r23 : Option Nat → Option Nat → Option Nat → Option Nat → Int32 → ZM Int32) (hr23 : ∀ (v0 : Option Nat) (v1 : Option Nat) (v2 : Option Nat) (v3 : Option Nat) (v4 : Int32), Sim (M_L_law l nm tb) (zFin zcI) 23 [(0, .inr (.inr v0)), (1, .inr (.inr v1)), (2, .inr (.inr v2)), (3, .inr (.inr v3)), (4, .inl v4)] [] (r23 v0 v1 v2 v3 v4)) (v0 : Option Nat) (v1 : Option Nat) (v2 : Option Nat) (v3 : Option Nat) (v4 : Int32) : Sim (M_L_law l nm tb) (zFin zcI) 694 [(0, .inr (.inr v0)), (1, .inr (.inr v1)), (2, .inr (.inr v2)), (3, .inr (.inr v3)), (4, .inl v4)] [] (p_L_law_b694 r23 v0 v1 v2 v3 v4) := by
  unfold p_L_law_b694
  refine s_aloadn (j := 1) dL_law_694 rfl ?_
  refine s_aloadn (j := 3) dL_law_695 rfl ?_
  refine s_cSH (rest := []) (met_L_bar l hfl v1 v3) mthh_L_bar rfl dL_law_696 w_1098 w_1099 ⟨Nat.le_of_ble_eq_true rfl, Nat.le_of_ble_eq_true rfl⟩ (Nat.le_of_ble_eq_true rfl) rfl (fun x62 => ?_)
  refine s_istore (lv' := [(5, .inl x62), (0, .inr (.inr v0)), (1, .inr (.inr v1)), (2, .inr (.inr v2)), (3, .inr (.inr v3)), (4, .inl v4)]) dL_law_699 (Nat.le_of_ble_eq_true rfl) rfl ?_
  refine s_aloadn (j := 3) dL_law_701 rfl ?_
  refine s_cVI (rest := []) (met_X12_bar l v2) cls_13 mth_X12_bar rfl dL_law_702 w_1577 w_1578 w_1579 ⟨Nat.le_of_ble_eq_true rfl, Nat.le_of_ble_eq_true rfl⟩ (Nat.le_of_ble_eq_true rfl) rfl (fun x63 => ?_)
  refine s_istore (lv' := [(6, .inl x63), (5, .inl x62), (0, .inr (.inr v0)), (1, .inr (.inr v1)), (2, .inr (.inr v2)), (3, .inr (.inr v3)), (4, .inl v4)]) dL_law_705 (Nat.le_of_ble_eq_true rfl) rfl ?_
  refine s_aloadn (j := 4) dL_law_707 rfl ?_
  refine s_cVI (rest := []) (met_X12_thrown l v2) cls_13 mth_X12_thrown rfl dL_law_708 w_1527 w_1528 w_1529 ⟨Nat.le_of_ble_eq_true rfl, Nat.le_of_ble_eq_true rfl⟩ (Nat.le_of_ble_eq_true rfl) rfl (fun x64 => ?_)
  refine s_iload (j := 1) dL_law_711 rfl ?_
  refine s_icmp_eq (tgt := 718) dL_law_713 (by decide) ?_ ?_
  · refine s_iload (j := 1) dL_law_718 rfl ?_
    refine s_if_ne (tgt := 735) dL_law_720 (by decide) ?_ ?_
    · exact Sim.sub [2, 3, 4, 5, 6] rfl (sim_L_law_b735 l nm tb hfl r23 hr23 v0 v1 v2 v3 v4)
    · refine s_aloadn (j := 5) dL_law_723 rfl ?_
      refine s_iconst (v := 0) dL_law_724 (by decide) ?_
      refine s_lald dL_law_725 (fun x65 => ?_)
      refine s_iload (j := 0) dL_law_726 rfl ?_
      refine s_i2l dL_law_728 ?_
      refine s_lcmp dL_law_729 ?_
      refine s_if_eq (tgt := 735) dL_law_730 (by decide) ?_ ?_
      · exact Sim.sub [2, 3, 4, 5, 6] rfl (sim_L_law_b735 l nm tb hfl r23 hr23 v0 v1 v2 v3 v4)
      · refine s_iconst (v := 0) dL_law_733 (by decide) ?_
        exact s_zret dL_law_734 rfl
  · refine s_iconst (v := 0) dL_law_716 (by decide) ?_
    exact s_zret dL_law_717 rfl
set_option maxRecDepth 20000 in
theorem sim_L_law_b791 (l : Launch) (nm : String) (tb : List ExceptionTableEntry) (hfl : l.stackTraces = false) (r23 : Option Nat → Option Nat → Option Nat → Option Nat → Int32 → ZM Int32) (hr23 : ∀ (v0 : Option Nat) (v1 : Option Nat) (v2 : Option Nat) (v3 : Option Nat) (v4 : Int32), Sim (M_L_law l nm tb) (zFin zcI) 23 [(0, .inr (.inr v0)), (1, .inr (.inr v1)), (2, .inr (.inr v2)), (3, .inr (.inr v3)), (4, .inl v4)] [] (r23 v0 v1 v2 v3 v4)) (v0 : Option Nat) (v1 : Option Nat) (v2 : Option Nat) (v3 : Option Nat) (v4 : Int32) : Sim (M_L_law l nm tb) (zFin zcI) 791 [(0, .inr (.inr v0)), (1, .inr (.inr v1)), (2, .inr (.inr v2)), (3, .inr (.inr v3)), (4, .inl v4)] [] (p_L_law_b791 r23 v0 v1 v2 v3 v4) := by
  unfold p_L_law_b791
  refine s_goto (tgt := 1892) dL_law_791 (by decide) ?_
  exact Sim.sub [0, 1, 2, 3, 4] rfl (sim_L_law_b1892 l nm tb hfl r23 hr23 v0 v1 v2 v3 v4)
set_option maxRecDepth 20000 in
theorem sim_L_law_b738 (l : Launch) (nm : String) (tb : List ExceptionTableEntry) (hfl : l.stackTraces = false) (r23 : Option Nat → Option Nat → Option Nat → Option Nat → Int32 → ZM Int32) (hr23 : ∀ (v0 : Option Nat) (v1 : Option Nat) (v2 : Option Nat) (v3 : Option Nat) (v4 : Int32), Sim (M_L_law l nm tb) (zFin zcI) 23 [(0, .inr (.inr v0)), (1, .inr (.inr v1)), (2, .inr (.inr v2)), (3, .inr (.inr v3)), (4, .inl v4)] [] (r23 v0 v1 v2 v3 v4)) (v0 : Option Nat) (v1 : Option Nat) (v2 : Option Nat) (v3 : Option Nat) (v4 : Int32) : Sim (M_L_law l nm tb) (zFin zcI) 738 [(0, .inr (.inr v0)), (1, .inr (.inr v1)), (2, .inr (.inr v2)), (3, .inr (.inr v3)), (4, .inl v4)] [] (p_L_law_b738 r23 v0 v1 v2 v3 v4) := by
  unfold p_L_law_b738
  refine s_aloadn (j := 1) dL_law_738 rfl ?_
  refine s_aloadn (j := 0) dL_law_739 rfl ?_
  refine s_iload (j := 4) dL_law_740 rfl ?_
  refine s_iconst (v := 1) dL_law_742 (by decide) ?_
  refine s_iadd dL_law_743 ?_
  refine s_scA dL_law_744 (fun x66 => ?_)
  refine s_aloadn (j := 3) dL_law_745 rfl ?_
  refine s_cSH (rest := []) (met_L_ignore l hfl v1 x66 v3) mthh_L_ignore rfl dL_law_746 w_1118 w_1119 ⟨Nat.le_of_ble_eq_true rfl, Nat.le_of_ble_eq_true rfl⟩ (Nat.le_of_ble_eq_true rfl) rfl (fun x67 => ?_)
  refine s_istore (lv' := [(5, .inl x67), (0, .inr (.inr v0)), (1, .inr (.inr v1)), (2, .inr (.inr v2)), (3, .inr (.inr v3)), (4, .inl v4)]) dL_law_749 (Nat.le_of_ble_eq_true rfl) rfl ?_
  refine s_aloadn (j := 3) dL_law_751 rfl ?_
  refine s_aloadn (j := 1) dL_law_752 rfl ?_
  refine s_iload (j := 5) dL_law_753 rfl ?_
  refine s_iconst (v := 1) dL_law_755 (by decide) ?_
  refine s_iadd dL_law_756 ?_
  refine s_scA dL_law_757 (fun x68 => ?_)
  refine s_cVI (rest := []) (met_X12_ignore l v2 x68) cls_13 mth_X12_ignore rfl dL_law_758 w_1581 w_1582 w_1583 ⟨Nat.le_of_ble_eq_true rfl, Nat.le_of_ble_eq_true rfl⟩ (Nat.le_of_ble_eq_true rfl) rfl (fun x69 => ?_)
  refine s_istore (lv' := [(6, .inl x69), (5, .inl x67), (0, .inr (.inr v0)), (1, .inr (.inr v1)), (2, .inr (.inr v2)), (3, .inr (.inr v3)), (4, .inl v4)]) dL_law_761 (Nat.le_of_ble_eq_true rfl) rfl ?_
  refine s_aloadn (j := 4) dL_law_763 rfl ?_
  refine s_cVI (rest := []) (met_X12_thrown l v2) cls_13 mth_X12_thrown rfl dL_law_764 w_1527 w_1528 w_1529 ⟨Nat.le_of_ble_eq_true rfl, Nat.le_of_ble_eq_true rfl⟩ (Nat.le_of_ble_eq_true rfl) rfl (fun x70 => ?_)
  refine s_iload (j := 1) dL_law_767 rfl ?_
  refine s_icmp_eq (tgt := 774) dL_law_769 (by decide) ?_ ?_
  · refine s_iload (j := 1) dL_law_774 rfl ?_
    refine s_if_ne (tgt := 791) dL_law_776 (by decide) ?_ ?_
    · exact Sim.sub [2, 3, 4, 5, 6] rfl (sim_L_law_b791 l nm tb hfl r23 hr23 v0 v1 v2 v3 v4)
    · refine s_aloadn (j := 5) dL_law_779 rfl ?_
      refine s_iconst (v := 0) dL_law_780 (by decide) ?_
      refine s_lald dL_law_781 (fun x71 => ?_)
      refine s_iload (j := 0) dL_law_782 rfl ?_
      refine s_i2l dL_law_784 ?_
      refine s_lcmp dL_law_785 ?_
      refine s_if_eq (tgt := 791) dL_law_786 (by decide) ?_ ?_
      · exact Sim.sub [2, 3, 4, 5, 6] rfl (sim_L_law_b791 l nm tb hfl r23 hr23 v0 v1 v2 v3 v4)
      · refine s_iconst (v := 0) dL_law_789 (by decide) ?_
        exact s_zret dL_law_790 rfl
  · refine s_iconst (v := 0) dL_law_772 (by decide) ?_
    exact s_zret dL_law_773 rfl
set_option maxRecDepth 20000 in
theorem sim_L_law_b871 (l : Launch) (nm : String) (tb : List ExceptionTableEntry) (hfl : l.stackTraces = false) (r23 : Option Nat → Option Nat → Option Nat → Option Nat → Int32 → ZM Int32) (hr23 : ∀ (v0 : Option Nat) (v1 : Option Nat) (v2 : Option Nat) (v3 : Option Nat) (v4 : Int32), Sim (M_L_law l nm tb) (zFin zcI) 23 [(0, .inr (.inr v0)), (1, .inr (.inr v1)), (2, .inr (.inr v2)), (3, .inr (.inr v3)), (4, .inl v4)] [] (r23 v0 v1 v2 v3 v4)) (v0 : Option Nat) (v1 : Option Nat) (v2 : Option Nat) (v3 : Option Nat) (v4 : Int32) : Sim (M_L_law l nm tb) (zFin zcI) 871 [(0, .inr (.inr v0)), (1, .inr (.inr v1)), (2, .inr (.inr v2)), (3, .inr (.inr v3)), (4, .inl v4)] [] (p_L_law_b871 r23 v0 v1 v2 v3 v4) := by
  unfold p_L_law_b871
  refine s_goto (tgt := 1892) dL_law_871 (by decide) ?_
  exact Sim.sub [0, 1, 2, 3, 4] rfl (sim_L_law_b1892 l nm tb hfl r23 hr23 v0 v1 v2 v3 v4)
set_option maxRecDepth 20000 in
theorem sim_L_law_b794 (l : Launch) (nm : String) (tb : List ExceptionTableEntry) (hfl : l.stackTraces = false) (r23 : Option Nat → Option Nat → Option Nat → Option Nat → Int32 → ZM Int32) (hr23 : ∀ (v0 : Option Nat) (v1 : Option Nat) (v2 : Option Nat) (v3 : Option Nat) (v4 : Int32), Sim (M_L_law l nm tb) (zFin zcI) 23 [(0, .inr (.inr v0)), (1, .inr (.inr v1)), (2, .inr (.inr v2)), (3, .inr (.inr v3)), (4, .inl v4)] [] (r23 v0 v1 v2 v3 v4)) (v0 : Option Nat) (v1 : Option Nat) (v2 : Option Nat) (v3 : Option Nat) (v4 : Int32) : Sim (M_L_law l nm tb) (zFin zcI) 794 [(0, .inr (.inr v0)), (1, .inr (.inr v1)), (2, .inr (.inr v2)), (3, .inr (.inr v3)), (4, .inl v4)] [] (p_L_law_b794 r23 v0 v1 v2 v3 v4) := by
  unfold p_L_law_b794
  refine s_aloadn (j := 1) dL_law_794 rfl ?_
  refine s_aloadn (j := 0) dL_law_795 rfl ?_
  refine s_iload (j := 4) dL_law_796 rfl ?_
  refine s_iconst (v := 1) dL_law_798 (by decide) ?_
  refine s_iadd dL_law_799 ?_
  refine s_scA dL_law_800 (fun x72 => ?_)
  refine s_aloadn (j := 0) dL_law_801 rfl ?_
  refine s_iload (j := 4) dL_law_802 rfl ?_
  refine s_iconst (v := 2) dL_law_804 (by decide) ?_
  refine s_iadd dL_law_805 ?_
  refine s_scA dL_law_806 (fun x73 => ?_)
  refine s_aloadn (j := 0) dL_law_807 rfl ?_
  refine s_iload (j := 4) dL_law_808 rfl ?_
  refine s_iconst (v := 3) dL_law_810 (by decide) ?_
  refine s_iadd dL_law_811 ?_
  refine s_scA dL_law_812 (fun x74 => ?_)
  refine s_aloadn (j := 3) dL_law_813 rfl ?_
  refine s_cSH (rest := []) (met_L_tell l hfl v1 x72 x73 x74 v3) mthh_L_tell rfl dL_law_814 w_1135 w_1136 ⟨Nat.le_of_ble_eq_true rfl, Nat.le_of_ble_eq_true rfl⟩ (Nat.le_of_ble_eq_true rfl) rfl (fun x75 => ?_)
  refine s_istore (lv' := [(5, .inl x75), (0, .inr (.inr v0)), (1, .inr (.inr v1)), (2, .inr (.inr v2)), (3, .inr (.inr v3)), (4, .inl v4)]) dL_law_817 (Nat.le_of_ble_eq_true rfl) rfl ?_
  refine s_aloadn (j := 3) dL_law_819 rfl ?_
  refine s_aloadn (j := 1) dL_law_820 rfl ?_
  refine s_iload (j := 5) dL_law_821 rfl ?_
  refine s_iconst (v := 1) dL_law_823 (by decide) ?_
  refine s_iadd dL_law_824 ?_
  refine s_scA dL_law_825 (fun x76 => ?_)
  refine s_aloadn (j := 1) dL_law_826 rfl ?_
  refine s_iload (j := 5) dL_law_827 rfl ?_
  refine s_iconst (v := 2) dL_law_829 (by decide) ?_
  refine s_iadd dL_law_830 ?_
  refine s_scA dL_law_831 (fun x77 => ?_)
  refine s_aloadn (j := 1) dL_law_832 rfl ?_
  refine s_iload (j := 5) dL_law_833 rfl ?_
  refine s_iconst (v := 3) dL_law_835 (by decide) ?_
  refine s_iadd dL_law_836 ?_
  refine s_scA dL_law_837 (fun x78 => ?_)
  refine s_cVI (rest := []) (met_X12_tell l v2 x76 x77 x78) cls_13 mth_X12_tell rfl dL_law_838 w_1682 w_1683 w_1684 ⟨Nat.le_of_ble_eq_true rfl, Nat.le_of_ble_eq_true rfl⟩ (Nat.le_of_ble_eq_true rfl) rfl (fun x79 => ?_)
  refine s_istore (lv' := [(6, .inl x79), (5, .inl x75), (0, .inr (.inr v0)), (1, .inr (.inr v1)), (2, .inr (.inr v2)), (3, .inr (.inr v3)), (4, .inl v4)]) dL_law_841 (Nat.le_of_ble_eq_true rfl) rfl ?_
  refine s_aloadn (j := 4) dL_law_843 rfl ?_
  refine s_cVI (rest := []) (met_X12_thrown l v2) cls_13 mth_X12_thrown rfl dL_law_844 w_1527 w_1528 w_1529 ⟨Nat.le_of_ble_eq_true rfl, Nat.le_of_ble_eq_true rfl⟩ (Nat.le_of_ble_eq_true rfl) rfl (fun x80 => ?_)
  refine s_iload (j := 1) dL_law_847 rfl ?_
  refine s_icmp_eq (tgt := 854) dL_law_849 (by decide) ?_ ?_
  · refine s_iload (j := 1) dL_law_854 rfl ?_
    refine s_if_ne (tgt := 871) dL_law_856 (by decide) ?_ ?_
    · exact Sim.sub [2, 3, 4, 5, 6] rfl (sim_L_law_b871 l nm tb hfl r23 hr23 v0 v1 v2 v3 v4)
    · refine s_aloadn (j := 5) dL_law_859 rfl ?_
      refine s_iconst (v := 0) dL_law_860 (by decide) ?_
      refine s_lald dL_law_861 (fun x81 => ?_)
      refine s_iload (j := 0) dL_law_862 rfl ?_
      refine s_i2l dL_law_864 ?_
      refine s_lcmp dL_law_865 ?_
      refine s_if_eq (tgt := 871) dL_law_866 (by decide) ?_ ?_
      · exact Sim.sub [2, 3, 4, 5, 6] rfl (sim_L_law_b871 l nm tb hfl r23 hr23 v0 v1 v2 v3 v4)
      · refine s_iconst (v := 0) dL_law_869 (by decide) ?_
        exact s_zret dL_law_870 rfl
  · refine s_iconst (v := 0) dL_law_852 (by decide) ?_
    exact s_zret dL_law_853 rfl
set_option maxRecDepth 20000 in
theorem sim_L_law_b927 (l : Launch) (nm : String) (tb : List ExceptionTableEntry) (hfl : l.stackTraces = false) (r23 : Option Nat → Option Nat → Option Nat → Option Nat → Int32 → ZM Int32) (hr23 : ∀ (v0 : Option Nat) (v1 : Option Nat) (v2 : Option Nat) (v3 : Option Nat) (v4 : Int32), Sim (M_L_law l nm tb) (zFin zcI) 23 [(0, .inr (.inr v0)), (1, .inr (.inr v1)), (2, .inr (.inr v2)), (3, .inr (.inr v3)), (4, .inl v4)] [] (r23 v0 v1 v2 v3 v4)) (v0 : Option Nat) (v1 : Option Nat) (v2 : Option Nat) (v3 : Option Nat) (v4 : Int32) : Sim (M_L_law l nm tb) (zFin zcI) 927 [(0, .inr (.inr v0)), (1, .inr (.inr v1)), (2, .inr (.inr v2)), (3, .inr (.inr v3)), (4, .inl v4)] [] (p_L_law_b927 r23 v0 v1 v2 v3 v4) := by
  unfold p_L_law_b927
  refine s_goto (tgt := 1892) dL_law_927 (by decide) ?_
  exact Sim.sub [0, 1, 2, 3, 4] rfl (sim_L_law_b1892 l nm tb hfl r23 hr23 v0 v1 v2 v3 v4)
set_option maxRecDepth 20000 in
theorem sim_L_law_b874 (l : Launch) (nm : String) (tb : List ExceptionTableEntry) (hfl : l.stackTraces = false) (r23 : Option Nat → Option Nat → Option Nat → Option Nat → Int32 → ZM Int32) (hr23 : ∀ (v0 : Option Nat) (v1 : Option Nat) (v2 : Option Nat) (v3 : Option Nat) (v4 : Int32), Sim (M_L_law l nm tb) (zFin zcI) 23 [(0, .inr (.inr v0)), (1, .inr (.inr v1)), (2, .inr (.inr v2)), (3, .inr (.inr v3)), (4, .inl v4)] [] (r23 v0 v1 v2 v3 v4)) (v0 : Option Nat) (v1 : Option Nat) (v2 : Option Nat) (v3 : Option Nat) (v4 : Int32) : Sim (M_L_law l nm tb) (zFin zcI) 874 [(0, .inr (.inr v0)), (1, .inr (.inr v1)), (2, .inr (.inr v2)), (3, .inr (.inr v3)), (4, .inl v4)] [] (p_L_law_b874 r23 v0 v1 v2 v3 v4) := by
  unfold p_L_law_b874
  refine s_aloadn (j := 1) dL_law_874 rfl ?_
  refine s_aloadn (j := 0) dL_law_875 rfl ?_
  refine s_iload (j := 4) dL_law_876 rfl ?_
  refine s_iconst (v := 1) dL_law_878 (by decide) ?_
  refine s_iadd dL_law_879 ?_
  refine s_scA dL_law_880 (fun x82 => ?_)
  refine s_aloadn (j := 3) dL_law_881 rfl ?_
  refine s_cSH (rest := []) (met_L_item l hfl v1 x82 v3) mthh_L_item rfl dL_law_882 w_1147 w_1148 ⟨Nat.le_of_ble_eq_true rfl, Nat.le_of_ble_eq_true rfl⟩ (Nat.le_of_ble_eq_true rfl) rfl (fun x83 => ?_)
  refine s_istore (lv' := [(5, .inl x83), (0, .inr (.inr v0)), (1, .inr (.inr v1)), (2, .inr (.inr v2)), (3, .inr (.inr v3)), (4, .inl v4)]) dL_law_885 (Nat.le_of_ble_eq_true rfl) rfl ?_
  refine s_aloadn (j := 3) dL_law_887 rfl ?_
  refine s_aloadn (j := 1) dL_law_888 rfl ?_
  refine s_iload (j := 5) dL_law_889 rfl ?_
  refine s_iconst (v := 1) dL_law_891 (by decide) ?_
  refine s_iadd dL_law_892 ?_
  refine s_scA dL_law_893 (fun x84 => ?_)
  refine s_cVI (rest := []) (met_X12_item l v2 x84) cls_13 mth_X12_item rfl dL_law_894 w_1686 w_1687 w_1688 ⟨Nat.le_of_ble_eq_true rfl, Nat.le_of_ble_eq_true rfl⟩ (Nat.le_of_ble_eq_true rfl) rfl (fun x85 => ?_)
  refine s_istore (lv' := [(6, .inl x85), (5, .inl x83), (0, .inr (.inr v0)), (1, .inr (.inr v1)), (2, .inr (.inr v2)), (3, .inr (.inr v3)), (4, .inl v4)]) dL_law_897 (Nat.le_of_ble_eq_true rfl) rfl ?_
  refine s_aloadn (j := 4) dL_law_899 rfl ?_
  refine s_cVI (rest := []) (met_X12_thrown l v2) cls_13 mth_X12_thrown rfl dL_law_900 w_1527 w_1528 w_1529 ⟨Nat.le_of_ble_eq_true rfl, Nat.le_of_ble_eq_true rfl⟩ (Nat.le_of_ble_eq_true rfl) rfl (fun x86 => ?_)
  refine s_iload (j := 1) dL_law_903 rfl ?_
  refine s_icmp_eq (tgt := 910) dL_law_905 (by decide) ?_ ?_
  · refine s_iload (j := 1) dL_law_910 rfl ?_
    refine s_if_ne (tgt := 927) dL_law_912 (by decide) ?_ ?_
    · exact Sim.sub [2, 3, 4, 5, 6] rfl (sim_L_law_b927 l nm tb hfl r23 hr23 v0 v1 v2 v3 v4)
    · refine s_aloadn (j := 5) dL_law_915 rfl ?_
      refine s_iconst (v := 0) dL_law_916 (by decide) ?_
      refine s_lald dL_law_917 (fun x87 => ?_)
      refine s_iload (j := 0) dL_law_918 rfl ?_
      refine s_i2l dL_law_920 ?_
      refine s_lcmp dL_law_921 ?_
      refine s_if_eq (tgt := 927) dL_law_922 (by decide) ?_ ?_
      · exact Sim.sub [2, 3, 4, 5, 6] rfl (sim_L_law_b927 l nm tb hfl r23 hr23 v0 v1 v2 v3 v4)
      · refine s_iconst (v := 0) dL_law_925 (by decide) ?_
        exact s_zret dL_law_926 rfl
  · refine s_iconst (v := 0) dL_law_908 (by decide) ?_
    exact s_zret dL_law_909 rfl
set_option maxRecDepth 20000 in
theorem sim_L_law_b983 (l : Launch) (nm : String) (tb : List ExceptionTableEntry) (hfl : l.stackTraces = false) (r23 : Option Nat → Option Nat → Option Nat → Option Nat → Int32 → ZM Int32) (hr23 : ∀ (v0 : Option Nat) (v1 : Option Nat) (v2 : Option Nat) (v3 : Option Nat) (v4 : Int32), Sim (M_L_law l nm tb) (zFin zcI) 23 [(0, .inr (.inr v0)), (1, .inr (.inr v1)), (2, .inr (.inr v2)), (3, .inr (.inr v3)), (4, .inl v4)] [] (r23 v0 v1 v2 v3 v4)) (v0 : Option Nat) (v1 : Option Nat) (v2 : Option Nat) (v3 : Option Nat) (v4 : Int32) : Sim (M_L_law l nm tb) (zFin zcI) 983 [(0, .inr (.inr v0)), (1, .inr (.inr v1)), (2, .inr (.inr v2)), (3, .inr (.inr v3)), (4, .inl v4)] [] (p_L_law_b983 r23 v0 v1 v2 v3 v4) := by
  unfold p_L_law_b983
  refine s_goto (tgt := 1892) dL_law_983 (by decide) ?_
  exact Sim.sub [0, 1, 2, 3, 4] rfl (sim_L_law_b1892 l nm tb hfl r23 hr23 v0 v1 v2 v3 v4)
set_option maxRecDepth 20000 in
theorem sim_L_law_b930 (l : Launch) (nm : String) (tb : List ExceptionTableEntry) (hfl : l.stackTraces = false) (r23 : Option Nat → Option Nat → Option Nat → Option Nat → Int32 → ZM Int32) (hr23 : ∀ (v0 : Option Nat) (v1 : Option Nat) (v2 : Option Nat) (v3 : Option Nat) (v4 : Int32), Sim (M_L_law l nm tb) (zFin zcI) 23 [(0, .inr (.inr v0)), (1, .inr (.inr v1)), (2, .inr (.inr v2)), (3, .inr (.inr v3)), (4, .inl v4)] [] (r23 v0 v1 v2 v3 v4)) (v0 : Option Nat) (v1 : Option Nat) (v2 : Option Nat) (v3 : Option Nat) (v4 : Int32) : Sim (M_L_law l nm tb) (zFin zcI) 930 [(0, .inr (.inr v0)), (1, .inr (.inr v1)), (2, .inr (.inr v2)), (3, .inr (.inr v3)), (4, .inl v4)] [] (p_L_law_b930 r23 v0 v1 v2 v3 v4) := by
  unfold p_L_law_b930
  refine s_aloadn (j := 1) dL_law_930 rfl ?_
  refine s_aloadn (j := 0) dL_law_931 rfl ?_
  refine s_iload (j := 4) dL_law_932 rfl ?_
  refine s_iconst (v := 1) dL_law_934 (by decide) ?_
  refine s_iadd dL_law_935 ?_
  refine s_scA dL_law_936 (fun x88 => ?_)
  refine s_aloadn (j := 3) dL_law_937 rfl ?_
  refine s_cSH (rest := []) (met_L_style l hfl v1 x88 v3) mthh_L_style rfl dL_law_938 w_1161 w_1162 ⟨Nat.le_of_ble_eq_true rfl, Nat.le_of_ble_eq_true rfl⟩ (Nat.le_of_ble_eq_true rfl) rfl (fun x89 => ?_)
  refine s_istore (lv' := [(5, .inl x89), (0, .inr (.inr v0)), (1, .inr (.inr v1)), (2, .inr (.inr v2)), (3, .inr (.inr v3)), (4, .inl v4)]) dL_law_941 (Nat.le_of_ble_eq_true rfl) rfl ?_
  refine s_aloadn (j := 3) dL_law_943 rfl ?_
  refine s_aloadn (j := 1) dL_law_944 rfl ?_
  refine s_iload (j := 5) dL_law_945 rfl ?_
  refine s_iconst (v := 1) dL_law_947 (by decide) ?_
  refine s_iadd dL_law_948 ?_
  refine s_scA dL_law_949 (fun x90 => ?_)
  refine s_cVI (rest := []) (met_X12_style l v2 x90) cls_13 mth_X12_style rfl dL_law_950 w_1690 w_1691 w_1692 ⟨Nat.le_of_ble_eq_true rfl, Nat.le_of_ble_eq_true rfl⟩ (Nat.le_of_ble_eq_true rfl) rfl (fun x91 => ?_)
  refine s_istore (lv' := [(6, .inl x91), (5, .inl x89), (0, .inr (.inr v0)), (1, .inr (.inr v1)), (2, .inr (.inr v2)), (3, .inr (.inr v3)), (4, .inl v4)]) dL_law_953 (Nat.le_of_ble_eq_true rfl) rfl ?_
  refine s_aloadn (j := 4) dL_law_955 rfl ?_
  refine s_cVI (rest := []) (met_X12_thrown l v2) cls_13 mth_X12_thrown rfl dL_law_956 w_1527 w_1528 w_1529 ⟨Nat.le_of_ble_eq_true rfl, Nat.le_of_ble_eq_true rfl⟩ (Nat.le_of_ble_eq_true rfl) rfl (fun x92 => ?_)
  refine s_iload (j := 1) dL_law_959 rfl ?_
  refine s_icmp_eq (tgt := 966) dL_law_961 (by decide) ?_ ?_
  · refine s_iload (j := 1) dL_law_966 rfl ?_
    refine s_if_ne (tgt := 983) dL_law_968 (by decide) ?_ ?_
    · exact Sim.sub [2, 3, 4, 5, 6] rfl (sim_L_law_b983 l nm tb hfl r23 hr23 v0 v1 v2 v3 v4)
    · refine s_aloadn (j := 5) dL_law_971 rfl ?_
      refine s_iconst (v := 0) dL_law_972 (by decide) ?_
      refine s_lald dL_law_973 (fun x93 => ?_)
      refine s_iload (j := 0) dL_law_974 rfl ?_
      refine s_i2l dL_law_976 ?_
      refine s_lcmp dL_law_977 ?_
      refine s_if_eq (tgt := 983) dL_law_978 (by decide) ?_ ?_
      · exact Sim.sub [2, 3, 4, 5, 6] rfl (sim_L_law_b983 l nm tb hfl r23 hr23 v0 v1 v2 v3 v4)
      · refine s_iconst (v := 0) dL_law_981 (by decide) ?_
        exact s_zret dL_law_982 rfl
  · refine s_iconst (v := 0) dL_law_964 (by decide) ?_
    exact s_zret dL_law_965 rfl
set_option maxRecDepth 20000 in
theorem sim_L_law_b1053 (l : Launch) (nm : String) (tb : List ExceptionTableEntry) (hfl : l.stackTraces = false) (r23 : Option Nat → Option Nat → Option Nat → Option Nat → Int32 → ZM Int32) (hr23 : ∀ (v0 : Option Nat) (v1 : Option Nat) (v2 : Option Nat) (v3 : Option Nat) (v4 : Int32), Sim (M_L_law l nm tb) (zFin zcI) 23 [(0, .inr (.inr v0)), (1, .inr (.inr v1)), (2, .inr (.inr v2)), (3, .inr (.inr v3)), (4, .inl v4)] [] (r23 v0 v1 v2 v3 v4)) (v0 : Option Nat) (v1 : Option Nat) (v2 : Option Nat) (v3 : Option Nat) (v4 : Int32) : Sim (M_L_law l nm tb) (zFin zcI) 1053 [(0, .inr (.inr v0)), (1, .inr (.inr v1)), (2, .inr (.inr v2)), (3, .inr (.inr v3)), (4, .inl v4)] [] (p_L_law_b1053 r23 v0 v1 v2 v3 v4) := by
  unfold p_L_law_b1053
  refine s_goto (tgt := 1892) dL_law_1053 (by decide) ?_
  exact Sim.sub [0, 1, 2, 3, 4] rfl (sim_L_law_b1892 l nm tb hfl r23 hr23 v0 v1 v2 v3 v4)
set_option maxRecDepth 20000 in
theorem sim_L_law_b986 (l : Launch) (nm : String) (tb : List ExceptionTableEntry) (hfl : l.stackTraces = false) (r23 : Option Nat → Option Nat → Option Nat → Option Nat → Int32 → ZM Int32) (hr23 : ∀ (v0 : Option Nat) (v1 : Option Nat) (v2 : Option Nat) (v3 : Option Nat) (v4 : Int32), Sim (M_L_law l nm tb) (zFin zcI) 23 [(0, .inr (.inr v0)), (1, .inr (.inr v1)), (2, .inr (.inr v2)), (3, .inr (.inr v3)), (4, .inl v4)] [] (r23 v0 v1 v2 v3 v4)) (v0 : Option Nat) (v1 : Option Nat) (v2 : Option Nat) (v3 : Option Nat) (v4 : Int32) : Sim (M_L_law l nm tb) (zFin zcI) 986 [(0, .inr (.inr v0)), (1, .inr (.inr v1)), (2, .inr (.inr v2)), (3, .inr (.inr v3)), (4, .inl v4)] [] (p_L_law_b986 r23 v0 v1 v2 v3 v4) := by
  unfold p_L_law_b986
  refine s_aloadn (j := 1) dL_law_986 rfl ?_
  refine s_aloadn (j := 0) dL_law_987 rfl ?_
  refine s_iload (j := 4) dL_law_988 rfl ?_
  refine s_iconst (v := 1) dL_law_990 (by decide) ?_
  refine s_iadd dL_law_991 ?_
  refine s_scA dL_law_992 (fun x94 => ?_)
  refine s_aloadn (j := 0) dL_law_993 rfl ?_
  refine s_iload (j := 4) dL_law_994 rfl ?_
  refine s_iconst (v := 2) dL_law_996 (by decide) ?_
  refine s_iadd dL_law_997 ?_
  refine s_scA dL_law_998 (fun x95 => ?_)
  refine s_i2c dL_law_999 ?_
  refine s_aloadn (j := 3) dL_law_1000 rfl ?_
  refine s_cSH (rest := []) (met_L_put l hfl v1 x94 ((Int32.toUInt32 x95 % 65536).toInt32) v3) mthh_L_put rfl dL_law_1001 w_1176 w_1177 ⟨Nat.le_of_ble_eq_true rfl, Nat.le_of_ble_eq_true rfl⟩ (Nat.le_of_ble_eq_true rfl) rfl (fun x96 => ?_)
  refine s_istore (lv' := [(5, .inl x96), (0, .inr (.inr v0)), (1, .inr (.inr v1)), (2, .inr (.inr v2)), (3, .inr (.inr v3)), (4, .inl v4)]) dL_law_1004 (Nat.le_of_ble_eq_true rfl) rfl ?_
  refine s_aloadn (j := 3) dL_law_1006 rfl ?_
  refine s_aloadn (j := 1) dL_law_1007 rfl ?_
  refine s_iload (j := 5) dL_law_1008 rfl ?_
  refine s_iconst (v := 1) dL_law_1010 (by decide) ?_
  refine s_iadd dL_law_1011 ?_
  refine s_scA dL_law_1012 (fun x97 => ?_)
  refine s_aloadn (j := 1) dL_law_1013 rfl ?_
  refine s_iload (j := 5) dL_law_1014 rfl ?_
  refine s_iconst (v := 2) dL_law_1016 (by decide) ?_
  refine s_iadd dL_law_1017 ?_
  refine s_scA dL_law_1018 (fun x98 => ?_)
  refine s_i2c dL_law_1019 ?_
  refine s_cVI (rest := []) (met_X12_put l v2 x97 ((Int32.toUInt32 x98 % 65536).toInt32)) cls_13 mth_X12_put rfl dL_law_1020 w_1694 w_1695 w_1696 ⟨Nat.le_of_ble_eq_true rfl, Nat.le_of_ble_eq_true rfl⟩ (Nat.le_of_ble_eq_true rfl) rfl (fun x99 => ?_)
  refine s_istore (lv' := [(6, .inl x99), (5, .inl x96), (0, .inr (.inr v0)), (1, .inr (.inr v1)), (2, .inr (.inr v2)), (3, .inr (.inr v3)), (4, .inl v4)]) dL_law_1023 (Nat.le_of_ble_eq_true rfl) rfl ?_
  refine s_aloadn (j := 4) dL_law_1025 rfl ?_
  refine s_cVI (rest := []) (met_X12_thrown l v2) cls_13 mth_X12_thrown rfl dL_law_1026 w_1527 w_1528 w_1529 ⟨Nat.le_of_ble_eq_true rfl, Nat.le_of_ble_eq_true rfl⟩ (Nat.le_of_ble_eq_true rfl) rfl (fun x100 => ?_)
  refine s_iload (j := 1) dL_law_1029 rfl ?_
  refine s_icmp_eq (tgt := 1036) dL_law_1031 (by decide) ?_ ?_
  · refine s_iload (j := 1) dL_law_1036 rfl ?_
    refine s_if_ne (tgt := 1053) dL_law_1038 (by decide) ?_ ?_
    · exact Sim.sub [2, 3, 4, 5, 6] rfl (sim_L_law_b1053 l nm tb hfl r23 hr23 v0 v1 v2 v3 v4)
    · refine s_aloadn (j := 5) dL_law_1041 rfl ?_
      refine s_iconst (v := 0) dL_law_1042 (by decide) ?_
      refine s_lald dL_law_1043 (fun x101 => ?_)
      refine s_iload (j := 0) dL_law_1044 rfl ?_
      refine s_i2l dL_law_1046 ?_
      refine s_lcmp dL_law_1047 ?_
      refine s_if_eq (tgt := 1053) dL_law_1048 (by decide) ?_ ?_
      · exact Sim.sub [2, 3, 4, 5, 6] rfl (sim_L_law_b1053 l nm tb hfl r23 hr23 v0 v1 v2 v3 v4)
      · refine s_iconst (v := 0) dL_law_1051 (by decide) ?_
        exact s_zret dL_law_1052 rfl
  · refine s_iconst (v := 0) dL_law_1034 (by decide) ?_
    exact s_zret dL_law_1035 rfl
set_option maxRecDepth 20000 in
theorem sim_L_law_b1109 (l : Launch) (nm : String) (tb : List ExceptionTableEntry) (hfl : l.stackTraces = false) (r23 : Option Nat → Option Nat → Option Nat → Option Nat → Int32 → ZM Int32) (hr23 : ∀ (v0 : Option Nat) (v1 : Option Nat) (v2 : Option Nat) (v3 : Option Nat) (v4 : Int32), Sim (M_L_law l nm tb) (zFin zcI) 23 [(0, .inr (.inr v0)), (1, .inr (.inr v1)), (2, .inr (.inr v2)), (3, .inr (.inr v3)), (4, .inl v4)] [] (r23 v0 v1 v2 v3 v4)) (v0 : Option Nat) (v1 : Option Nat) (v2 : Option Nat) (v3 : Option Nat) (v4 : Int32) : Sim (M_L_law l nm tb) (zFin zcI) 1109 [(0, .inr (.inr v0)), (1, .inr (.inr v1)), (2, .inr (.inr v2)), (3, .inr (.inr v3)), (4, .inl v4)] [] (p_L_law_b1109 r23 v0 v1 v2 v3 v4) := by
  unfold p_L_law_b1109
  refine s_goto (tgt := 1892) dL_law_1109 (by decide) ?_
  exact Sim.sub [0, 1, 2, 3, 4] rfl (sim_L_law_b1892 l nm tb hfl r23 hr23 v0 v1 v2 v3 v4)
set_option maxRecDepth 20000 in
theorem sim_L_law_b1056 (l : Launch) (nm : String) (tb : List ExceptionTableEntry) (hfl : l.stackTraces = false) (r23 : Option Nat → Option Nat → Option Nat → Option Nat → Int32 → ZM Int32) (hr23 : ∀ (v0 : Option Nat) (v1 : Option Nat) (v2 : Option Nat) (v3 : Option Nat) (v4 : Int32), Sim (M_L_law l nm tb) (zFin zcI) 23 [(0, .inr (.inr v0)), (1, .inr (.inr v1)), (2, .inr (.inr v2)), (3, .inr (.inr v3)), (4, .inl v4)] [] (r23 v0 v1 v2 v3 v4)) (v0 : Option Nat) (v1 : Option Nat) (v2 : Option Nat) (v3 : Option Nat) (v4 : Int32) : Sim (M_L_law l nm tb) (zFin zcI) 1056 [(0, .inr (.inr v0)), (1, .inr (.inr v1)), (2, .inr (.inr v2)), (3, .inr (.inr v3)), (4, .inl v4)] [] (p_L_law_b1056 r23 v0 v1 v2 v3 v4) := by
  unfold p_L_law_b1056
  refine s_aloadn (j := 1) dL_law_1056 rfl ?_
  refine s_aloadn (j := 0) dL_law_1057 rfl ?_
  refine s_iload (j := 4) dL_law_1058 rfl ?_
  refine s_iconst (v := 1) dL_law_1060 (by decide) ?_
  refine s_iadd dL_law_1061 ?_
  refine s_scA dL_law_1062 (fun x102 => ?_)
  refine s_aloadn (j := 3) dL_law_1063 rfl ?_
  refine s_cSH (rest := []) (met_L_take l hfl v1 x102 v3) mthh_L_take rfl dL_law_1064 w_1211 w_1212 ⟨Nat.le_of_ble_eq_true rfl, Nat.le_of_ble_eq_true rfl⟩ (Nat.le_of_ble_eq_true rfl) rfl (fun x103 => ?_)
  refine s_istore (lv' := [(5, .inl x103), (0, .inr (.inr v0)), (1, .inr (.inr v1)), (2, .inr (.inr v2)), (3, .inr (.inr v3)), (4, .inl v4)]) dL_law_1067 (Nat.le_of_ble_eq_true rfl) rfl ?_
  refine s_aloadn (j := 3) dL_law_1069 rfl ?_
  refine s_aloadn (j := 1) dL_law_1070 rfl ?_
  refine s_iload (j := 5) dL_law_1071 rfl ?_
  refine s_iconst (v := 1) dL_law_1073 (by decide) ?_
  refine s_iadd dL_law_1074 ?_
  refine s_scA dL_law_1075 (fun x104 => ?_)
  refine s_cVI (rest := []) (met_X12_take l v2 x104) cls_13 mth_X12_take rfl dL_law_1076 w_1713 w_1714 w_1715 ⟨Nat.le_of_ble_eq_true rfl, Nat.le_of_ble_eq_true rfl⟩ (Nat.le_of_ble_eq_true rfl) rfl (fun x105 => ?_)
  refine s_istore (lv' := [(6, .inl x105), (5, .inl x103), (0, .inr (.inr v0)), (1, .inr (.inr v1)), (2, .inr (.inr v2)), (3, .inr (.inr v3)), (4, .inl v4)]) dL_law_1079 (Nat.le_of_ble_eq_true rfl) rfl ?_
  refine s_aloadn (j := 4) dL_law_1081 rfl ?_
  refine s_cVI (rest := []) (met_X12_thrown l v2) cls_13 mth_X12_thrown rfl dL_law_1082 w_1527 w_1528 w_1529 ⟨Nat.le_of_ble_eq_true rfl, Nat.le_of_ble_eq_true rfl⟩ (Nat.le_of_ble_eq_true rfl) rfl (fun x106 => ?_)
  refine s_iload (j := 1) dL_law_1085 rfl ?_
  refine s_icmp_eq (tgt := 1092) dL_law_1087 (by decide) ?_ ?_
  · refine s_iload (j := 1) dL_law_1092 rfl ?_
    refine s_if_ne (tgt := 1109) dL_law_1094 (by decide) ?_ ?_
    · exact Sim.sub [2, 3, 4, 5, 6] rfl (sim_L_law_b1109 l nm tb hfl r23 hr23 v0 v1 v2 v3 v4)
    · refine s_aloadn (j := 5) dL_law_1097 rfl ?_
      refine s_iconst (v := 0) dL_law_1098 (by decide) ?_
      refine s_lald dL_law_1099 (fun x107 => ?_)
      refine s_iload (j := 0) dL_law_1100 rfl ?_
      refine s_i2l dL_law_1102 ?_
      refine s_lcmp dL_law_1103 ?_
      refine s_if_eq (tgt := 1109) dL_law_1104 (by decide) ?_ ?_
      · exact Sim.sub [2, 3, 4, 5, 6] rfl (sim_L_law_b1109 l nm tb hfl r23 hr23 v0 v1 v2 v3 v4)
      · refine s_iconst (v := 0) dL_law_1107 (by decide) ?_
        exact s_zret dL_law_1108 rfl
  · refine s_iconst (v := 0) dL_law_1090 (by decide) ?_
    exact s_zret dL_law_1091 rfl
set_option maxRecDepth 20000 in
theorem sim_L_law_b1112 (l : Launch) (nm : String) (tb : List ExceptionTableEntry) (hfl : l.stackTraces = false) (r23 : Option Nat → Option Nat → Option Nat → Option Nat → Int32 → ZM Int32) (hr23 : ∀ (v0 : Option Nat) (v1 : Option Nat) (v2 : Option Nat) (v3 : Option Nat) (v4 : Int32), Sim (M_L_law l nm tb) (zFin zcI) 23 [(0, .inr (.inr v0)), (1, .inr (.inr v1)), (2, .inr (.inr v2)), (3, .inr (.inr v3)), (4, .inl v4)] [] (r23 v0 v1 v2 v3 v4)) (v0 : Option Nat) (v1 : Option Nat) (v2 : Option Nat) (v3 : Option Nat) (v4 : Int32) : Sim (M_L_law l nm tb) (zFin zcI) 1112 [(0, .inr (.inr v0)), (1, .inr (.inr v1)), (2, .inr (.inr v2)), (3, .inr (.inr v3)), (4, .inl v4)] [] (p_L_law_b1112 r23 v0 v1 v2 v3 v4) := by
  unfold p_L_law_b1112
  refine s_aloadn (j := 1) dL_law_1112 rfl ?_
  refine s_cVI (rest := []) (met_X11_correct l v1) cls_12 mth_X11_correct rfl dL_law_1113 w_330 w_331 w_332 ⟨Nat.le_of_ble_eq_true rfl, Nat.le_of_ble_eq_true rfl⟩ (Nat.le_of_ble_eq_true rfl) rfl (fun x108 => ?_)
  refine s_aloadn (j := 2) dL_law_1116 rfl ?_
  refine s_cVI (rest := [.inl x108]) (met_X12_correct l v2) cls_13 mth_X12_correct rfl dL_law_1117 w_1717 w_1718 w_1719 ⟨Nat.le_of_ble_eq_true rfl, Nat.le_of_ble_eq_true rfl⟩ (Nat.le_of_ble_eq_true rfl) rfl (fun x109 => ?_)
  refine s_icmp_eq (tgt := 1892) dL_law_1120 (by decide) ?_ ?_
  · exact Sim.sub [0, 1, 2, 3, 4] rfl (sim_L_law_b1892 l nm tb hfl r23 hr23 v0 v1 v2 v3 v4)
  · refine s_iconst (v := 0) dL_law_1123 (by decide) ?_
    exact s_zret dL_law_1124 rfl
set_option maxRecDepth 20000 in
theorem sim_L_law_b1125 (l : Launch) (nm : String) (tb : List ExceptionTableEntry) (hfl : l.stackTraces = false) (r23 : Option Nat → Option Nat → Option Nat → Option Nat → Int32 → ZM Int32) (hr23 : ∀ (v0 : Option Nat) (v1 : Option Nat) (v2 : Option Nat) (v3 : Option Nat) (v4 : Int32), Sim (M_L_law l nm tb) (zFin zcI) 23 [(0, .inr (.inr v0)), (1, .inr (.inr v1)), (2, .inr (.inr v2)), (3, .inr (.inr v3)), (4, .inl v4)] [] (r23 v0 v1 v2 v3 v4)) (v0 : Option Nat) (v1 : Option Nat) (v2 : Option Nat) (v3 : Option Nat) (v4 : Int32) : Sim (M_L_law l nm tb) (zFin zcI) 1125 [(0, .inr (.inr v0)), (1, .inr (.inr v1)), (2, .inr (.inr v2)), (3, .inr (.inr v3)), (4, .inl v4)] [] (p_L_law_b1125 r23 v0 v1 v2 v3 v4) := by
  unfold p_L_law_b1125
  refine s_aloadn (j := 1) dL_law_1125 rfl ?_
  refine s_cVI (rest := []) (met_X11_length l v1) cls_12 mth_X11_length rfl dL_law_1126 w_677 w_678 w_679 ⟨Nat.le_of_ble_eq_true rfl, Nat.le_of_ble_eq_true rfl⟩ (Nat.le_of_ble_eq_true rfl) rfl (fun x110 => ?_)
  refine s_aloadn (j := 2) dL_law_1129 rfl ?_
  refine s_cVI (rest := [.inl x110]) (met_X12_length l v2) cls_13 mth_X12_length rfl dL_law_1130 w_1759 w_1760 w_1761 ⟨Nat.le_of_ble_eq_true rfl, Nat.le_of_ble_eq_true rfl⟩ (Nat.le_of_ble_eq_true rfl) rfl (fun x111 => ?_)
  refine s_icmp_eq (tgt := 1892) dL_law_1133 (by decide) ?_ ?_
  · exact Sim.sub [0, 1, 2, 3, 4] rfl (sim_L_law_b1892 l nm tb hfl r23 hr23 v0 v1 v2 v3 v4)
  · refine s_iconst (v := 0) dL_law_1136 (by decide) ?_
    exact s_zret dL_law_1137 rfl
set_option maxRecDepth 20000 in
theorem sim_L_law_b1191 (l : Launch) (nm : String) (tb : List ExceptionTableEntry) (hfl : l.stackTraces = false) (r23 : Option Nat → Option Nat → Option Nat → Option Nat → Int32 → ZM Int32) (hr23 : ∀ (v0 : Option Nat) (v1 : Option Nat) (v2 : Option Nat) (v3 : Option Nat) (v4 : Int32), Sim (M_L_law l nm tb) (zFin zcI) 23 [(0, .inr (.inr v0)), (1, .inr (.inr v1)), (2, .inr (.inr v2)), (3, .inr (.inr v3)), (4, .inl v4)] [] (r23 v0 v1 v2 v3 v4)) (v0 : Option Nat) (v1 : Option Nat) (v2 : Option Nat) (v3 : Option Nat) (v4 : Int32) : Sim (M_L_law l nm tb) (zFin zcI) 1191 [(0, .inr (.inr v0)), (1, .inr (.inr v1)), (2, .inr (.inr v2)), (3, .inr (.inr v3)), (4, .inl v4)] [] (p_L_law_b1191 r23 v0 v1 v2 v3 v4) := by
  unfold p_L_law_b1191
  refine s_goto (tgt := 1892) dL_law_1191 (by decide) ?_
  exact Sim.sub [0, 1, 2, 3, 4] rfl (sim_L_law_b1892 l nm tb hfl r23 hr23 v0 v1 v2 v3 v4)
set_option maxRecDepth 20000 in
theorem sim_L_law_b1138 (l : Launch) (nm : String) (tb : List ExceptionTableEntry) (hfl : l.stackTraces = false) (r23 : Option Nat → Option Nat → Option Nat → Option Nat → Int32 → ZM Int32) (hr23 : ∀ (v0 : Option Nat) (v1 : Option Nat) (v2 : Option Nat) (v3 : Option Nat) (v4 : Int32), Sim (M_L_law l nm tb) (zFin zcI) 23 [(0, .inr (.inr v0)), (1, .inr (.inr v1)), (2, .inr (.inr v2)), (3, .inr (.inr v3)), (4, .inl v4)] [] (r23 v0 v1 v2 v3 v4)) (v0 : Option Nat) (v1 : Option Nat) (v2 : Option Nat) (v3 : Option Nat) (v4 : Int32) : Sim (M_L_law l nm tb) (zFin zcI) 1138 [(0, .inr (.inr v0)), (1, .inr (.inr v1)), (2, .inr (.inr v2)), (3, .inr (.inr v3)), (4, .inl v4)] [] (p_L_law_b1138 r23 v0 v1 v2 v3 v4) := by
  unfold p_L_law_b1138
  refine s_aloadn (j := 1) dL_law_1138 rfl ?_
  refine s_aloadn (j := 0) dL_law_1139 rfl ?_
  refine s_iload (j := 4) dL_law_1140 rfl ?_
  refine s_iconst (v := 1) dL_law_1142 (by decide) ?_
  refine s_iadd dL_law_1143 ?_
  refine s_scA dL_law_1144 (fun x112 => ?_)
  refine s_aloadn (j := 3) dL_law_1145 rfl ?_
  refine s_cSH (rest := []) (met_L_signAt l hfl v1 x112 v3) mthh_L_signAt rfl dL_law_1146 w_1219 w_1220 ⟨Nat.le_of_ble_eq_true rfl, Nat.le_of_ble_eq_true rfl⟩ (Nat.le_of_ble_eq_true rfl) rfl (fun x113 => ?_)
  refine s_istore (lv' := [(5, .inl x113), (0, .inr (.inr v0)), (1, .inr (.inr v1)), (2, .inr (.inr v2)), (3, .inr (.inr v3)), (4, .inl v4)]) dL_law_1149 (Nat.le_of_ble_eq_true rfl) rfl ?_
  refine s_aloadn (j := 3) dL_law_1151 rfl ?_
  refine s_aloadn (j := 1) dL_law_1152 rfl ?_
  refine s_iload (j := 5) dL_law_1153 rfl ?_
  refine s_iconst (v := 1) dL_law_1155 (by decide) ?_
  refine s_iadd dL_law_1156 ?_
  refine s_scA dL_law_1157 (fun x114 => ?_)
  refine s_cVI (rest := []) (met_X12_signAt l v2 x114) cls_13 mth_X12_signAt rfl dL_law_1158 w_1763 w_1764 w_1765 ⟨Nat.le_of_ble_eq_true rfl, Nat.le_of_ble_eq_true rfl⟩ (Nat.le_of_ble_eq_true rfl) rfl (fun x115 => ?_)
  refine s_istore (lv' := [(6, .inl x115), (5, .inl x113), (0, .inr (.inr v0)), (1, .inr (.inr v1)), (2, .inr (.inr v2)), (3, .inr (.inr v3)), (4, .inl v4)]) dL_law_1161 (Nat.le_of_ble_eq_true rfl) rfl ?_
  refine s_aloadn (j := 4) dL_law_1163 rfl ?_
  refine s_cVI (rest := []) (met_X12_thrown l v2) cls_13 mth_X12_thrown rfl dL_law_1164 w_1527 w_1528 w_1529 ⟨Nat.le_of_ble_eq_true rfl, Nat.le_of_ble_eq_true rfl⟩ (Nat.le_of_ble_eq_true rfl) rfl (fun x116 => ?_)
  refine s_iload (j := 1) dL_law_1167 rfl ?_
  refine s_icmp_eq (tgt := 1174) dL_law_1169 (by decide) ?_ ?_
  · refine s_iload (j := 1) dL_law_1174 rfl ?_
    refine s_if_ne (tgt := 1191) dL_law_1176 (by decide) ?_ ?_
    · exact Sim.sub [2, 3, 4, 5, 6] rfl (sim_L_law_b1191 l nm tb hfl r23 hr23 v0 v1 v2 v3 v4)
    · refine s_aloadn (j := 5) dL_law_1179 rfl ?_
      refine s_iconst (v := 0) dL_law_1180 (by decide) ?_
      refine s_lald dL_law_1181 (fun x117 => ?_)
      refine s_iload (j := 0) dL_law_1182 rfl ?_
      refine s_i2l dL_law_1184 ?_
      refine s_lcmp dL_law_1185 ?_
      refine s_if_eq (tgt := 1191) dL_law_1186 (by decide) ?_ ?_
      · exact Sim.sub [2, 3, 4, 5, 6] rfl (sim_L_law_b1191 l nm tb hfl r23 hr23 v0 v1 v2 v3 v4)
      · refine s_iconst (v := 0) dL_law_1189 (by decide) ?_
        exact s_zret dL_law_1190 rfl
  · refine s_iconst (v := 0) dL_law_1172 (by decide) ?_
    exact s_zret dL_law_1173 rfl
set_option maxRecDepth 20000 in
theorem sim_L_law_b1194 (l : Launch) (nm : String) (tb : List ExceptionTableEntry) (hfl : l.stackTraces = false) (r23 : Option Nat → Option Nat → Option Nat → Option Nat → Int32 → ZM Int32) (hr23 : ∀ (v0 : Option Nat) (v1 : Option Nat) (v2 : Option Nat) (v3 : Option Nat) (v4 : Int32), Sim (M_L_law l nm tb) (zFin zcI) 23 [(0, .inr (.inr v0)), (1, .inr (.inr v1)), (2, .inr (.inr v2)), (3, .inr (.inr v3)), (4, .inl v4)] [] (r23 v0 v1 v2 v3 v4)) (v0 : Option Nat) (v1 : Option Nat) (v2 : Option Nat) (v3 : Option Nat) (v4 : Int32) : Sim (M_L_law l nm tb) (zFin zcI) 1194 [(0, .inr (.inr v0)), (1, .inr (.inr v1)), (2, .inr (.inr v2)), (3, .inr (.inr v3)), (4, .inl v4)] [] (p_L_law_b1194 r23 v0 v1 v2 v3 v4) := by
  unfold p_L_law_b1194
  refine s_aloadn (j := 1) dL_law_1194 rfl ?_
  refine s_cVI (rest := []) (met_X11_words l v1) cls_12 mth_X11_words rfl dL_law_1195 w_681 w_682 w_683 ⟨Nat.le_of_ble_eq_true rfl, Nat.le_of_ble_eq_true rfl⟩ (Nat.le_of_ble_eq_true rfl) rfl (fun x118 => ?_)
  refine s_aloadn (j := 2) dL_law_1198 rfl ?_
  refine s_cVI (rest := [.inl x118]) (met_X12_words l v2) cls_13 mth_X12_words rfl dL_law_1199 w_1767 w_1768 w_1769 ⟨Nat.le_of_ble_eq_true rfl, Nat.le_of_ble_eq_true rfl⟩ (Nat.le_of_ble_eq_true rfl) rfl (fun x119 => ?_)
  refine s_icmp_eq (tgt := 1892) dL_law_1202 (by decide) ?_ ?_
  · exact Sim.sub [0, 1, 2, 3, 4] rfl (sim_L_law_b1892 l nm tb hfl r23 hr23 v0 v1 v2 v3 v4)
  · refine s_iconst (v := 0) dL_law_1205 (by decide) ?_
    exact s_zret dL_law_1206 rfl
set_option maxRecDepth 20000 in
theorem sim_L_law_b1260 (l : Launch) (nm : String) (tb : List ExceptionTableEntry) (hfl : l.stackTraces = false) (r23 : Option Nat → Option Nat → Option Nat → Option Nat → Int32 → ZM Int32) (hr23 : ∀ (v0 : Option Nat) (v1 : Option Nat) (v2 : Option Nat) (v3 : Option Nat) (v4 : Int32), Sim (M_L_law l nm tb) (zFin zcI) 23 [(0, .inr (.inr v0)), (1, .inr (.inr v1)), (2, .inr (.inr v2)), (3, .inr (.inr v3)), (4, .inl v4)] [] (r23 v0 v1 v2 v3 v4)) (v0 : Option Nat) (v1 : Option Nat) (v2 : Option Nat) (v3 : Option Nat) (v4 : Int32) : Sim (M_L_law l nm tb) (zFin zcI) 1260 [(0, .inr (.inr v0)), (1, .inr (.inr v1)), (2, .inr (.inr v2)), (3, .inr (.inr v3)), (4, .inl v4)] [] (p_L_law_b1260 r23 v0 v1 v2 v3 v4) := by
  unfold p_L_law_b1260
  refine s_goto (tgt := 1892) dL_law_1260 (by decide) ?_
  exact Sim.sub [0, 1, 2, 3, 4] rfl (sim_L_law_b1892 l nm tb hfl r23 hr23 v0 v1 v2 v3 v4)
set_option maxRecDepth 20000 in
theorem sim_L_law_b1207 (l : Launch) (nm : String) (tb : List ExceptionTableEntry) (hfl : l.stackTraces = false) (r23 : Option Nat → Option Nat → Option Nat → Option Nat → Int32 → ZM Int32) (hr23 : ∀ (v0 : Option Nat) (v1 : Option Nat) (v2 : Option Nat) (v3 : Option Nat) (v4 : Int32), Sim (M_L_law l nm tb) (zFin zcI) 23 [(0, .inr (.inr v0)), (1, .inr (.inr v1)), (2, .inr (.inr v2)), (3, .inr (.inr v3)), (4, .inl v4)] [] (r23 v0 v1 v2 v3 v4)) (v0 : Option Nat) (v1 : Option Nat) (v2 : Option Nat) (v3 : Option Nat) (v4 : Int32) : Sim (M_L_law l nm tb) (zFin zcI) 1207 [(0, .inr (.inr v0)), (1, .inr (.inr v1)), (2, .inr (.inr v2)), (3, .inr (.inr v3)), (4, .inl v4)] [] (p_L_law_b1207 r23 v0 v1 v2 v3 v4) := by
  unfold p_L_law_b1207
  refine s_aloadn (j := 1) dL_law_1207 rfl ?_
  refine s_aloadn (j := 0) dL_law_1208 rfl ?_
  refine s_iload (j := 4) dL_law_1209 rfl ?_
  refine s_iconst (v := 1) dL_law_1211 (by decide) ?_
  refine s_iadd dL_law_1212 ?_
  refine s_scA dL_law_1213 (fun x120 => ?_)
  refine s_aloadn (j := 3) dL_law_1214 rfl ?_
  refine s_cSH (rest := []) (met_L_wordAt l hfl v1 x120 v3) mthh_L_wordAt rfl dL_law_1215 w_1227 w_1228 ⟨Nat.le_of_ble_eq_true rfl, Nat.le_of_ble_eq_true rfl⟩ (Nat.le_of_ble_eq_true rfl) rfl (fun x121 => ?_)
  refine s_istore (lv' := [(5, .inl x121), (0, .inr (.inr v0)), (1, .inr (.inr v1)), (2, .inr (.inr v2)), (3, .inr (.inr v3)), (4, .inl v4)]) dL_law_1218 (Nat.le_of_ble_eq_true rfl) rfl ?_
  refine s_aloadn (j := 3) dL_law_1220 rfl ?_
  refine s_aloadn (j := 1) dL_law_1221 rfl ?_
  refine s_iload (j := 5) dL_law_1222 rfl ?_
  refine s_iconst (v := 1) dL_law_1224 (by decide) ?_
  refine s_iadd dL_law_1225 ?_
  refine s_scA dL_law_1226 (fun x122 => ?_)
  refine s_cVI (rest := []) (met_X12_wordAt l v2 x122) cls_13 mth_X12_wordAt rfl dL_law_1227 w_1771 w_1772 w_1773 ⟨Nat.le_of_ble_eq_true rfl, Nat.le_of_ble_eq_true rfl⟩ (Nat.le_of_ble_eq_true rfl) rfl (fun x123 => ?_)
  refine s_istore (lv' := [(6, .inl x123), (5, .inl x121), (0, .inr (.inr v0)), (1, .inr (.inr v1)), (2, .inr (.inr v2)), (3, .inr (.inr v3)), (4, .inl v4)]) dL_law_1230 (Nat.le_of_ble_eq_true rfl) rfl ?_
  refine s_aloadn (j := 4) dL_law_1232 rfl ?_
  refine s_cVI (rest := []) (met_X12_thrown l v2) cls_13 mth_X12_thrown rfl dL_law_1233 w_1527 w_1528 w_1529 ⟨Nat.le_of_ble_eq_true rfl, Nat.le_of_ble_eq_true rfl⟩ (Nat.le_of_ble_eq_true rfl) rfl (fun x124 => ?_)
  refine s_iload (j := 1) dL_law_1236 rfl ?_
  refine s_icmp_eq (tgt := 1243) dL_law_1238 (by decide) ?_ ?_
  · refine s_iload (j := 1) dL_law_1243 rfl ?_
    refine s_if_ne (tgt := 1260) dL_law_1245 (by decide) ?_ ?_
    · exact Sim.sub [2, 3, 4, 5, 6] rfl (sim_L_law_b1260 l nm tb hfl r23 hr23 v0 v1 v2 v3 v4)
    · refine s_aloadn (j := 5) dL_law_1248 rfl ?_
      refine s_iconst (v := 0) dL_law_1249 (by decide) ?_
      refine s_lald dL_law_1250 (fun x125 => ?_)
      refine s_iload (j := 0) dL_law_1251 rfl ?_
      refine s_i2l dL_law_1253 ?_
      refine s_lcmp dL_law_1254 ?_
      refine s_if_eq (tgt := 1260) dL_law_1255 (by decide) ?_ ?_
      · exact Sim.sub [2, 3, 4, 5, 6] rfl (sim_L_law_b1260 l nm tb hfl r23 hr23 v0 v1 v2 v3 v4)
      · refine s_iconst (v := 0) dL_law_1258 (by decide) ?_
        exact s_zret dL_law_1259 rfl
  · refine s_iconst (v := 0) dL_law_1241 (by decide) ?_
    exact s_zret dL_law_1242 rfl
set_option maxRecDepth 20000 in
theorem sim_L_law_b1323 (l : Launch) (nm : String) (tb : List ExceptionTableEntry) (hfl : l.stackTraces = false) (r23 : Option Nat → Option Nat → Option Nat → Option Nat → Int32 → ZM Int32) (hr23 : ∀ (v0 : Option Nat) (v1 : Option Nat) (v2 : Option Nat) (v3 : Option Nat) (v4 : Int32), Sim (M_L_law l nm tb) (zFin zcI) 23 [(0, .inr (.inr v0)), (1, .inr (.inr v1)), (2, .inr (.inr v2)), (3, .inr (.inr v3)), (4, .inl v4)] [] (r23 v0 v1 v2 v3 v4)) (v0 : Option Nat) (v1 : Option Nat) (v2 : Option Nat) (v3 : Option Nat) (v4 : Int32) : Sim (M_L_law l nm tb) (zFin zcI) 1323 [(0, .inr (.inr v0)), (1, .inr (.inr v1)), (2, .inr (.inr v2)), (3, .inr (.inr v3)), (4, .inl v4)] [] (p_L_law_b1323 r23 v0 v1 v2 v3 v4) := by
  unfold p_L_law_b1323
  refine s_goto (tgt := 1892) dL_law_1323 (by decide) ?_
  exact Sim.sub [0, 1, 2, 3, 4] rfl (sim_L_law_b1892 l nm tb hfl r23 hr23 v0 v1 v2 v3 v4)
set_option maxRecDepth 20000 in
theorem sim_L_law_b1317 (l : Launch) (nm : String) (tb : List ExceptionTableEntry) (hfl : l.stackTraces = false) (r23 : Option Nat → Option Nat → Option Nat → Option Nat → Int32 → ZM Int32) (hr23 : ∀ (v0 : Option Nat) (v1 : Option Nat) (v2 : Option Nat) (v3 : Option Nat) (v4 : Int32), Sim (M_L_law l nm tb) (zFin zcI) 23 [(0, .inr (.inr v0)), (1, .inr (.inr v1)), (2, .inr (.inr v2)), (3, .inr (.inr v3)), (4, .inl v4)] [] (r23 v0 v1 v2 v3 v4)) (v0 : Option Nat) (v1 : Option Nat) (v2 : Option Nat) (v3 : Option Nat) (v4 : Int32) (s0 : Int64) (s1 : Int64) : Sim (M_L_law l nm tb) (zFin zcI) 1317 [(0, .inr (.inr v0)), (1, .inr (.inr v1)), (2, .inr (.inr v2)), (3, .inr (.inr v3)), (4, .inl v4)] [.inr (.inl s1), .inr (.inl s0)] (p_L_law_b1317 r23 v0 v1 v2 v3 v4 s0 s1) := by
  unfold p_L_law_b1317
  refine s_lcmp dL_law_1317 ?_
  refine s_if_eq (tgt := 1323) dL_law_1318 (by decide) ?_ ?_
  · exact Sim.sub [0, 1, 2, 3, 4] rfl (sim_L_law_b1323 l nm tb hfl r23 hr23 v0 v1 v2 v3 v4)
  · refine s_iconst (v := 0) dL_law_1321 (by decide) ?_
    exact s_zret dL_law_1322 rfl
set_option maxRecDepth 20000 in
theorem sim_L_law_b1263 (l : Launch) (nm : String) (tb : List ExceptionTableEntry) (hfl : l.stackTraces = false) (r23 : Option Nat → Option Nat → Option Nat → Option Nat → Int32 → ZM Int32) (hr23 : ∀ (v0 : Option Nat) (v1 : Option Nat) (v2 : Option Nat) (v3 : Option Nat) (v4 : Int32), Sim (M_L_law l nm tb) (zFin zcI) 23 [(0, .inr (.inr v0)), (1, .inr (.inr v1)), (2, .inr (.inr v2)), (3, .inr (.inr v3)), (4, .inl v4)] [] (r23 v0 v1 v2 v3 v4)) (v0 : Option Nat) (v1 : Option Nat) (v2 : Option Nat) (v3 : Option Nat) (v4 : Int32) : Sim (M_L_law l nm tb) (zFin zcI) 1263 [(0, .inr (.inr v0)), (1, .inr (.inr v1)), (2, .inr (.inr v2)), (3, .inr (.inr v3)), (4, .inl v4)] [] (p_L_law_b1263 r23 v0 v1 v2 v3 v4) := by
  unfold p_L_law_b1263
  refine s_aloadn (j := 1) dL_law_1263 rfl ?_
  refine s_aloadn (j := 0) dL_law_1264 rfl ?_
  refine s_iload (j := 4) dL_law_1265 rfl ?_
  refine s_iconst (v := 1) dL_law_1267 (by decide) ?_
  refine s_iadd dL_law_1268 ?_
  refine s_scA dL_law_1269 (fun x126 => ?_)
  refine s_aloadn (j := 3) dL_law_1270 rfl ?_
  refine s_cSH (rest := []) (met_L_isRight l hfl v1 x126 v3) mthh_L_isRight rfl dL_law_1271 w_1235 w_1236 ⟨Nat.le_of_ble_eq_true rfl, Nat.le_of_ble_eq_true rfl⟩ (Nat.le_of_ble_eq_true rfl) rfl (fun x127 => ?_)
  refine s_istore (lv' := [(5, .inl x127), (0, .inr (.inr v0)), (1, .inr (.inr v1)), (2, .inr (.inr v2)), (3, .inr (.inr v3)), (4, .inl v4)]) dL_law_1274 (Nat.le_of_ble_eq_true rfl) rfl ?_
  refine s_aloadn (j := 3) dL_law_1276 rfl ?_
  refine s_aloadn (j := 1) dL_law_1277 rfl ?_
  refine s_iload (j := 5) dL_law_1278 rfl ?_
  refine s_iconst (v := 1) dL_law_1280 (by decide) ?_
  refine s_iadd dL_law_1281 ?_
  refine s_scA dL_law_1282 (fun x128 => ?_)
  refine s_cVI (rest := []) (met_X12_isRight l v2 x128) cls_13 mth_X12_isRight rfl dL_law_1283 w_1775 w_1776 w_1777 ⟨Nat.le_of_ble_eq_true rfl, Nat.le_of_ble_eq_true rfl⟩ (Nat.le_of_ble_eq_true rfl) rfl (fun x129 => ?_)
  refine s_istore (lv' := [(6, .inl x129), (5, .inl x127), (0, .inr (.inr v0)), (1, .inr (.inr v1)), (2, .inr (.inr v2)), (3, .inr (.inr v3)), (4, .inl v4)]) dL_law_1286 (Nat.le_of_ble_eq_true rfl) rfl ?_
  refine s_aloadn (j := 4) dL_law_1288 rfl ?_
  refine s_cVI (rest := []) (met_X12_thrown l v2) cls_13 mth_X12_thrown rfl dL_law_1289 w_1527 w_1528 w_1529 ⟨Nat.le_of_ble_eq_true rfl, Nat.le_of_ble_eq_true rfl⟩ (Nat.le_of_ble_eq_true rfl) rfl (fun x130 => ?_)
  refine s_iload (j := 1) dL_law_1292 rfl ?_
  refine s_icmp_eq (tgt := 1299) dL_law_1294 (by decide) ?_ ?_
  · refine s_iload (j := 1) dL_law_1299 rfl ?_
    refine s_if_ne (tgt := 1323) dL_law_1301 (by decide) ?_ ?_
    · exact Sim.sub [2, 3, 4, 5, 6] rfl (sim_L_law_b1323 l nm tb hfl r23 hr23 v0 v1 v2 v3 v4)
    · refine s_aloadn (j := 5) dL_law_1304 rfl ?_
      refine s_iconst (v := 0) dL_law_1305 (by decide) ?_
      refine s_lald dL_law_1306 (fun x131 => ?_)
      refine s_iload (j := 0) dL_law_1307 rfl ?_
      refine s_if_eq (tgt := 1316) dL_law_1309 (by decide) ?_ ?_
      · refine s_lconst (v := 0) dL_law_1316 (by decide) ?_
        exact Sim.sub [2, 3, 4, 5, 6] rfl (sim_L_law_b1317 l nm tb hfl r23 hr23 v0 v1 v2 v3 v4 x131 0)
      · refine s_lconst (v := 1) dL_law_1312 (by decide) ?_
        refine s_goto (tgt := 1317) dL_law_1313 (by decide) ?_
        exact Sim.sub [2, 3, 4, 5, 6] rfl (sim_L_law_b1317 l nm tb hfl r23 hr23 v0 v1 v2 v3 v4 x131 1)
  · refine s_iconst (v := 0) dL_law_1297 (by decide) ?_
    exact s_zret dL_law_1298 rfl
set_option maxRecDepth 20000 in
theorem sim_L_law_b1379 (l : Launch) (nm : String) (tb : List ExceptionTableEntry) (hfl : l.stackTraces = false) (r23 : Option Nat → Option Nat → Option Nat → Option Nat → Int32 → ZM Int32) (hr23 : ∀ (v0 : Option Nat) (v1 : Option Nat) (v2 : Option Nat) (v3 : Option Nat) (v4 : Int32), Sim (M_L_law l nm tb) (zFin zcI) 23 [(0, .inr (.inr v0)), (1, .inr (.inr v1)), (2, .inr (.inr v2)), (3, .inr (.inr v3)), (4, .inl v4)] [] (r23 v0 v1 v2 v3 v4)) (v0 : Option Nat) (v1 : Option Nat) (v2 : Option Nat) (v3 : Option Nat) (v4 : Int32) : Sim (M_L_law l nm tb) (zFin zcI) 1379 [(0, .inr (.inr v0)), (1, .inr (.inr v1)), (2, .inr (.inr v2)), (3, .inr (.inr v3)), (4, .inl v4)] [] (p_L_law_b1379 r23 v0 v1 v2 v3 v4) := by
  unfold p_L_law_b1379
  refine s_goto (tgt := 1892) dL_law_1379 (by decide) ?_
  exact Sim.sub [0, 1, 2, 3, 4] rfl (sim_L_law_b1892 l nm tb hfl r23 hr23 v0 v1 v2 v3 v4)
set_option maxRecDepth 20000 in
theorem sim_L_law_b1326 (l : Launch) (nm : String) (tb : List ExceptionTableEntry) (hfl : l.stackTraces = false) (r23 : Option Nat → Option Nat → Option Nat → Option Nat → Int32 → ZM Int32) (hr23 : ∀ (v0 : Option Nat) (v1 : Option Nat) (v2 : Option Nat) (v3 : Option Nat) (v4 : Int32), Sim (M_L_law l nm tb) (zFin zcI) 23 [(0, .inr (.inr v0)), (1, .inr (.inr v1)), (2, .inr (.inr v2)), (3, .inr (.inr v3)), (4, .inl v4)] [] (r23 v0 v1 v2 v3 v4)) (v0 : Option Nat) (v1 : Option Nat) (v2 : Option Nat) (v3 : Option Nat) (v4 : Int32) : Sim (M_L_law l nm tb) (zFin zcI) 1326 [(0, .inr (.inr v0)), (1, .inr (.inr v1)), (2, .inr (.inr v2)), (3, .inr (.inr v3)), (4, .inl v4)] [] (p_L_law_b1326 r23 v0 v1 v2 v3 v4) := by
  unfold p_L_law_b1326
  refine s_aloadn (j := 1) dL_law_1326 rfl ?_
  refine s_aloadn (j := 0) dL_law_1327 rfl ?_
  refine s_iload (j := 4) dL_law_1328 rfl ?_
  refine s_iconst (v := 1) dL_law_1330 (by decide) ?_
  refine s_iadd dL_law_1331 ?_
  refine s_scA dL_law_1332 (fun x132 => ?_)
  refine s_aloadn (j := 3) dL_law_1333 rfl ?_
  refine s_cSH (rest := []) (met_L_readings l hfl v1 x132 v3) mthh_L_readings rfl dL_law_1334 w_1242 w_1243 ⟨Nat.le_of_ble_eq_true rfl, Nat.le_of_ble_eq_true rfl⟩ (Nat.le_of_ble_eq_true rfl) rfl (fun x133 => ?_)
  refine s_istore (lv' := [(5, .inl x133), (0, .inr (.inr v0)), (1, .inr (.inr v1)), (2, .inr (.inr v2)), (3, .inr (.inr v3)), (4, .inl v4)]) dL_law_1337 (Nat.le_of_ble_eq_true rfl) rfl ?_
  refine s_aloadn (j := 3) dL_law_1339 rfl ?_
  refine s_aloadn (j := 1) dL_law_1340 rfl ?_
  refine s_iload (j := 5) dL_law_1341 rfl ?_
  refine s_iconst (v := 1) dL_law_1343 (by decide) ?_
  refine s_iadd dL_law_1344 ?_
  refine s_scA dL_law_1345 (fun x134 => ?_)
  refine s_cVI (rest := []) (met_X12_readings l v2 x134) cls_13 mth_X12_readings rfl dL_law_1346 w_1779 w_1780 w_1781 ⟨Nat.le_of_ble_eq_true rfl, Nat.le_of_ble_eq_true rfl⟩ (Nat.le_of_ble_eq_true rfl) rfl (fun x135 => ?_)
  refine s_istore (lv' := [(6, .inl x135), (5, .inl x133), (0, .inr (.inr v0)), (1, .inr (.inr v1)), (2, .inr (.inr v2)), (3, .inr (.inr v3)), (4, .inl v4)]) dL_law_1349 (Nat.le_of_ble_eq_true rfl) rfl ?_
  refine s_aloadn (j := 4) dL_law_1351 rfl ?_
  refine s_cVI (rest := []) (met_X12_thrown l v2) cls_13 mth_X12_thrown rfl dL_law_1352 w_1527 w_1528 w_1529 ⟨Nat.le_of_ble_eq_true rfl, Nat.le_of_ble_eq_true rfl⟩ (Nat.le_of_ble_eq_true rfl) rfl (fun x136 => ?_)
  refine s_iload (j := 1) dL_law_1355 rfl ?_
  refine s_icmp_eq (tgt := 1362) dL_law_1357 (by decide) ?_ ?_
  · refine s_iload (j := 1) dL_law_1362 rfl ?_
    refine s_if_ne (tgt := 1379) dL_law_1364 (by decide) ?_ ?_
    · exact Sim.sub [2, 3, 4, 5, 6] rfl (sim_L_law_b1379 l nm tb hfl r23 hr23 v0 v1 v2 v3 v4)
    · refine s_aloadn (j := 5) dL_law_1367 rfl ?_
      refine s_iconst (v := 0) dL_law_1368 (by decide) ?_
      refine s_lald dL_law_1369 (fun x137 => ?_)
      refine s_iload (j := 0) dL_law_1370 rfl ?_
      refine s_i2l dL_law_1372 ?_
      refine s_lcmp dL_law_1373 ?_
      refine s_if_eq (tgt := 1379) dL_law_1374 (by decide) ?_ ?_
      · exact Sim.sub [2, 3, 4, 5, 6] rfl (sim_L_law_b1379 l nm tb hfl r23 hr23 v0 v1 v2 v3 v4)
      · refine s_iconst (v := 0) dL_law_1377 (by decide) ?_
        exact s_zret dL_law_1378 rfl
  · refine s_iconst (v := 0) dL_law_1360 (by decide) ?_
    exact s_zret dL_law_1361 rfl
set_option maxRecDepth 20000 in
theorem sim_L_law_b1435 (l : Launch) (nm : String) (tb : List ExceptionTableEntry) (hfl : l.stackTraces = false) (r23 : Option Nat → Option Nat → Option Nat → Option Nat → Int32 → ZM Int32) (hr23 : ∀ (v0 : Option Nat) (v1 : Option Nat) (v2 : Option Nat) (v3 : Option Nat) (v4 : Int32), Sim (M_L_law l nm tb) (zFin zcI) 23 [(0, .inr (.inr v0)), (1, .inr (.inr v1)), (2, .inr (.inr v2)), (3, .inr (.inr v3)), (4, .inl v4)] [] (r23 v0 v1 v2 v3 v4)) (v0 : Option Nat) (v1 : Option Nat) (v2 : Option Nat) (v3 : Option Nat) (v4 : Int32) : Sim (M_L_law l nm tb) (zFin zcI) 1435 [(0, .inr (.inr v0)), (1, .inr (.inr v1)), (2, .inr (.inr v2)), (3, .inr (.inr v3)), (4, .inl v4)] [] (p_L_law_b1435 r23 v0 v1 v2 v3 v4) := by
  unfold p_L_law_b1435
  refine s_goto (tgt := 1892) dL_law_1435 (by decide) ?_
  exact Sim.sub [0, 1, 2, 3, 4] rfl (sim_L_law_b1892 l nm tb hfl r23 hr23 v0 v1 v2 v3 v4)
set_option maxRecDepth 20000 in
theorem sim_L_law_b1382 (l : Launch) (nm : String) (tb : List ExceptionTableEntry) (hfl : l.stackTraces = false) (r23 : Option Nat → Option Nat → Option Nat → Option Nat → Int32 → ZM Int32) (hr23 : ∀ (v0 : Option Nat) (v1 : Option Nat) (v2 : Option Nat) (v3 : Option Nat) (v4 : Int32), Sim (M_L_law l nm tb) (zFin zcI) 23 [(0, .inr (.inr v0)), (1, .inr (.inr v1)), (2, .inr (.inr v2)), (3, .inr (.inr v3)), (4, .inl v4)] [] (r23 v0 v1 v2 v3 v4)) (v0 : Option Nat) (v1 : Option Nat) (v2 : Option Nat) (v3 : Option Nat) (v4 : Int32) : Sim (M_L_law l nm tb) (zFin zcI) 1382 [(0, .inr (.inr v0)), (1, .inr (.inr v1)), (2, .inr (.inr v2)), (3, .inr (.inr v3)), (4, .inl v4)] [] (p_L_law_b1382 r23 v0 v1 v2 v3 v4) := by
  unfold p_L_law_b1382
  refine s_aloadn (j := 1) dL_law_1382 rfl ?_
  refine s_aloadn (j := 0) dL_law_1383 rfl ?_
  refine s_iload (j := 4) dL_law_1384 rfl ?_
  refine s_iconst (v := 1) dL_law_1386 (by decide) ?_
  refine s_iadd dL_law_1387 ?_
  refine s_scA dL_law_1388 (fun x138 => ?_)
  refine s_aloadn (j := 3) dL_law_1389 rfl ?_
  refine s_cSH (rest := []) (met_L_reading l hfl v1 x138 v3) mthh_L_reading rfl dL_law_1390 w_1253 w_1254 ⟨Nat.le_of_ble_eq_true rfl, Nat.le_of_ble_eq_true rfl⟩ (Nat.le_of_ble_eq_true rfl) rfl (fun x139 => ?_)
  refine s_istore (lv' := [(5, .inl x139), (0, .inr (.inr v0)), (1, .inr (.inr v1)), (2, .inr (.inr v2)), (3, .inr (.inr v3)), (4, .inl v4)]) dL_law_1393 (Nat.le_of_ble_eq_true rfl) rfl ?_
  refine s_aloadn (j := 3) dL_law_1395 rfl ?_
  refine s_aloadn (j := 1) dL_law_1396 rfl ?_
  refine s_iload (j := 5) dL_law_1397 rfl ?_
  refine s_iconst (v := 1) dL_law_1399 (by decide) ?_
  refine s_iadd dL_law_1400 ?_
  refine s_scA dL_law_1401 (fun x140 => ?_)
  refine s_cVI (rest := []) (met_X12_reading l v2 x140) cls_13 mth_X12_reading rfl dL_law_1402 w_1783 w_1784 w_1785 ⟨Nat.le_of_ble_eq_true rfl, Nat.le_of_ble_eq_true rfl⟩ (Nat.le_of_ble_eq_true rfl) rfl (fun x141 => ?_)
  refine s_istore (lv' := [(6, .inl x141), (5, .inl x139), (0, .inr (.inr v0)), (1, .inr (.inr v1)), (2, .inr (.inr v2)), (3, .inr (.inr v3)), (4, .inl v4)]) dL_law_1405 (Nat.le_of_ble_eq_true rfl) rfl ?_
  refine s_aloadn (j := 4) dL_law_1407 rfl ?_
  refine s_cVI (rest := []) (met_X12_thrown l v2) cls_13 mth_X12_thrown rfl dL_law_1408 w_1527 w_1528 w_1529 ⟨Nat.le_of_ble_eq_true rfl, Nat.le_of_ble_eq_true rfl⟩ (Nat.le_of_ble_eq_true rfl) rfl (fun x142 => ?_)
  refine s_iload (j := 1) dL_law_1411 rfl ?_
  refine s_icmp_eq (tgt := 1418) dL_law_1413 (by decide) ?_ ?_
  · refine s_iload (j := 1) dL_law_1418 rfl ?_
    refine s_if_ne (tgt := 1435) dL_law_1420 (by decide) ?_ ?_
    · exact Sim.sub [2, 3, 4, 5, 6] rfl (sim_L_law_b1435 l nm tb hfl r23 hr23 v0 v1 v2 v3 v4)
    · refine s_aloadn (j := 5) dL_law_1423 rfl ?_
      refine s_iconst (v := 0) dL_law_1424 (by decide) ?_
      refine s_lald dL_law_1425 (fun x143 => ?_)
      refine s_iload (j := 0) dL_law_1426 rfl ?_
      refine s_i2l dL_law_1428 ?_
      refine s_lcmp dL_law_1429 ?_
      refine s_if_eq (tgt := 1435) dL_law_1430 (by decide) ?_ ?_
      · exact Sim.sub [2, 3, 4, 5, 6] rfl (sim_L_law_b1435 l nm tb hfl r23 hr23 v0 v1 v2 v3 v4)
      · refine s_iconst (v := 0) dL_law_1433 (by decide) ?_
        exact s_zret dL_law_1434 rfl
  · refine s_iconst (v := 0) dL_law_1416 (by decide) ?_
    exact s_zret dL_law_1417 rfl
set_option maxRecDepth 20000 in
theorem sim_L_law_b1491 (l : Launch) (nm : String) (tb : List ExceptionTableEntry) (hfl : l.stackTraces = false) (r23 : Option Nat → Option Nat → Option Nat → Option Nat → Int32 → ZM Int32) (hr23 : ∀ (v0 : Option Nat) (v1 : Option Nat) (v2 : Option Nat) (v3 : Option Nat) (v4 : Int32), Sim (M_L_law l nm tb) (zFin zcI) 23 [(0, .inr (.inr v0)), (1, .inr (.inr v1)), (2, .inr (.inr v2)), (3, .inr (.inr v3)), (4, .inl v4)] [] (r23 v0 v1 v2 v3 v4)) (v0 : Option Nat) (v1 : Option Nat) (v2 : Option Nat) (v3 : Option Nat) (v4 : Int32) : Sim (M_L_law l nm tb) (zFin zcI) 1491 [(0, .inr (.inr v0)), (1, .inr (.inr v1)), (2, .inr (.inr v2)), (3, .inr (.inr v3)), (4, .inl v4)] [] (p_L_law_b1491 r23 v0 v1 v2 v3 v4) := by
  unfold p_L_law_b1491
  refine s_goto (tgt := 1892) dL_law_1491 (by decide) ?_
  exact Sim.sub [0, 1, 2, 3, 4] rfl (sim_L_law_b1892 l nm tb hfl r23 hr23 v0 v1 v2 v3 v4)
set_option maxRecDepth 20000 in
theorem sim_L_law_b1438 (l : Launch) (nm : String) (tb : List ExceptionTableEntry) (hfl : l.stackTraces = false) (r23 : Option Nat → Option Nat → Option Nat → Option Nat → Int32 → ZM Int32) (hr23 : ∀ (v0 : Option Nat) (v1 : Option Nat) (v2 : Option Nat) (v3 : Option Nat) (v4 : Int32), Sim (M_L_law l nm tb) (zFin zcI) 23 [(0, .inr (.inr v0)), (1, .inr (.inr v1)), (2, .inr (.inr v2)), (3, .inr (.inr v3)), (4, .inl v4)] [] (r23 v0 v1 v2 v3 v4)) (v0 : Option Nat) (v1 : Option Nat) (v2 : Option Nat) (v3 : Option Nat) (v4 : Int32) : Sim (M_L_law l nm tb) (zFin zcI) 1438 [(0, .inr (.inr v0)), (1, .inr (.inr v1)), (2, .inr (.inr v2)), (3, .inr (.inr v3)), (4, .inl v4)] [] (p_L_law_b1438 r23 v0 v1 v2 v3 v4) := by
  unfold p_L_law_b1438
  refine s_aloadn (j := 1) dL_law_1438 rfl ?_
  refine s_aloadn (j := 0) dL_law_1439 rfl ?_
  refine s_iload (j := 4) dL_law_1440 rfl ?_
  refine s_iconst (v := 1) dL_law_1442 (by decide) ?_
  refine s_iadd dL_law_1443 ?_
  refine s_scA dL_law_1444 (fun x144 => ?_)
  refine s_aloadn (j := 3) dL_law_1445 rfl ?_
  refine s_cSH (rest := []) (met_L_split l hfl v1 x144 v3) mthh_L_split rfl dL_law_1446 w_1264 w_1265 ⟨Nat.le_of_ble_eq_true rfl, Nat.le_of_ble_eq_true rfl⟩ (Nat.le_of_ble_eq_true rfl) rfl (fun x145 => ?_)
  refine s_istore (lv' := [(5, .inl x145), (0, .inr (.inr v0)), (1, .inr (.inr v1)), (2, .inr (.inr v2)), (3, .inr (.inr v3)), (4, .inl v4)]) dL_law_1449 (Nat.le_of_ble_eq_true rfl) rfl ?_
  refine s_aloadn (j := 3) dL_law_1451 rfl ?_
  refine s_aloadn (j := 1) dL_law_1452 rfl ?_
  refine s_iload (j := 5) dL_law_1453 rfl ?_
  refine s_iconst (v := 1) dL_law_1455 (by decide) ?_
  refine s_iadd dL_law_1456 ?_
  refine s_scA dL_law_1457 (fun x146 => ?_)
  refine s_cVI (rest := []) (met_X12_split l v2 x146) cls_13 mth_X12_split rfl dL_law_1458 w_1787 w_1788 w_1789 ⟨Nat.le_of_ble_eq_true rfl, Nat.le_of_ble_eq_true rfl⟩ (Nat.le_of_ble_eq_true rfl) rfl (fun x147 => ?_)
  refine s_istore (lv' := [(6, .inl x147), (5, .inl x145), (0, .inr (.inr v0)), (1, .inr (.inr v1)), (2, .inr (.inr v2)), (3, .inr (.inr v3)), (4, .inl v4)]) dL_law_1461 (Nat.le_of_ble_eq_true rfl) rfl ?_
  refine s_aloadn (j := 4) dL_law_1463 rfl ?_
  refine s_cVI (rest := []) (met_X12_thrown l v2) cls_13 mth_X12_thrown rfl dL_law_1464 w_1527 w_1528 w_1529 ⟨Nat.le_of_ble_eq_true rfl, Nat.le_of_ble_eq_true rfl⟩ (Nat.le_of_ble_eq_true rfl) rfl (fun x148 => ?_)
  refine s_iload (j := 1) dL_law_1467 rfl ?_
  refine s_icmp_eq (tgt := 1474) dL_law_1469 (by decide) ?_ ?_
  · refine s_iload (j := 1) dL_law_1474 rfl ?_
    refine s_if_ne (tgt := 1491) dL_law_1476 (by decide) ?_ ?_
    · exact Sim.sub [2, 3, 4, 5, 6] rfl (sim_L_law_b1491 l nm tb hfl r23 hr23 v0 v1 v2 v3 v4)
    · refine s_aloadn (j := 5) dL_law_1479 rfl ?_
      refine s_iconst (v := 0) dL_law_1480 (by decide) ?_
      refine s_lald dL_law_1481 (fun x149 => ?_)
      refine s_iload (j := 0) dL_law_1482 rfl ?_
      refine s_i2l dL_law_1484 ?_
      refine s_lcmp dL_law_1485 ?_
      refine s_if_eq (tgt := 1491) dL_law_1486 (by decide) ?_ ?_
      · exact Sim.sub [2, 3, 4, 5, 6] rfl (sim_L_law_b1491 l nm tb hfl r23 hr23 v0 v1 v2 v3 v4)
      · refine s_iconst (v := 0) dL_law_1489 (by decide) ?_
        exact s_zret dL_law_1490 rfl
  · refine s_iconst (v := 0) dL_law_1472 (by decide) ?_
    exact s_zret dL_law_1473 rfl
set_option maxRecDepth 20000 in
theorem sim_L_law_b1494 (l : Launch) (nm : String) (tb : List ExceptionTableEntry) (hfl : l.stackTraces = false) (r23 : Option Nat → Option Nat → Option Nat → Option Nat → Int32 → ZM Int32) (hr23 : ∀ (v0 : Option Nat) (v1 : Option Nat) (v2 : Option Nat) (v3 : Option Nat) (v4 : Int32), Sim (M_L_law l nm tb) (zFin zcI) 23 [(0, .inr (.inr v0)), (1, .inr (.inr v1)), (2, .inr (.inr v2)), (3, .inr (.inr v3)), (4, .inl v4)] [] (r23 v0 v1 v2 v3 v4)) (v0 : Option Nat) (v1 : Option Nat) (v2 : Option Nat) (v3 : Option Nat) (v4 : Int32) : Sim (M_L_law l nm tb) (zFin zcI) 1494 [(0, .inr (.inr v0)), (1, .inr (.inr v1)), (2, .inr (.inr v2)), (3, .inr (.inr v3)), (4, .inl v4)] [] (p_L_law_b1494 r23 v0 v1 v2 v3 v4) := by
  unfold p_L_law_b1494
  refine s_aloadn (j := 1) dL_law_1494 rfl ?_
  refine s_cVI (rest := []) (met_X11_mistakes l v1) cls_12 mth_X11_mistakes rfl dL_law_1495 w_685 w_686 w_687 ⟨Nat.le_of_ble_eq_true rfl, Nat.le_of_ble_eq_true rfl⟩ (Nat.le_of_ble_eq_true rfl) rfl (fun x150 => ?_)
  refine s_aloadn (j := 2) dL_law_1498 rfl ?_
  refine s_cVI (rest := [.inl x150]) (met_X12_mistakes l v2) cls_13 mth_X12_mistakes rfl dL_law_1499 w_1795 w_1796 w_1797 ⟨Nat.le_of_ble_eq_true rfl, Nat.le_of_ble_eq_true rfl⟩ (Nat.le_of_ble_eq_true rfl) rfl (fun x151 => ?_)
  refine s_icmp_eq (tgt := 1892) dL_law_1502 (by decide) ?_ ?_
  · exact Sim.sub [0, 1, 2, 3, 4] rfl (sim_L_law_b1892 l nm tb hfl r23 hr23 v0 v1 v2 v3 v4)
  · refine s_iconst (v := 0) dL_law_1505 (by decide) ?_
    exact s_zret dL_law_1506 rfl
set_option maxRecDepth 20000 in
theorem sim_L_law_b1560 (l : Launch) (nm : String) (tb : List ExceptionTableEntry) (hfl : l.stackTraces = false) (r23 : Option Nat → Option Nat → Option Nat → Option Nat → Int32 → ZM Int32) (hr23 : ∀ (v0 : Option Nat) (v1 : Option Nat) (v2 : Option Nat) (v3 : Option Nat) (v4 : Int32), Sim (M_L_law l nm tb) (zFin zcI) 23 [(0, .inr (.inr v0)), (1, .inr (.inr v1)), (2, .inr (.inr v2)), (3, .inr (.inr v3)), (4, .inl v4)] [] (r23 v0 v1 v2 v3 v4)) (v0 : Option Nat) (v1 : Option Nat) (v2 : Option Nat) (v3 : Option Nat) (v4 : Int32) : Sim (M_L_law l nm tb) (zFin zcI) 1560 [(0, .inr (.inr v0)), (1, .inr (.inr v1)), (2, .inr (.inr v2)), (3, .inr (.inr v3)), (4, .inl v4)] [] (p_L_law_b1560 r23 v0 v1 v2 v3 v4) := by
  unfold p_L_law_b1560
  refine s_goto (tgt := 1892) dL_law_1560 (by decide) ?_
  exact Sim.sub [0, 1, 2, 3, 4] rfl (sim_L_law_b1892 l nm tb hfl r23 hr23 v0 v1 v2 v3 v4)
set_option maxRecDepth 20000 in
theorem sim_L_law_b1507 (l : Launch) (nm : String) (tb : List ExceptionTableEntry) (hfl : l.stackTraces = false) (r23 : Option Nat → Option Nat → Option Nat → Option Nat → Int32 → ZM Int32) (hr23 : ∀ (v0 : Option Nat) (v1 : Option Nat) (v2 : Option Nat) (v3 : Option Nat) (v4 : Int32), Sim (M_L_law l nm tb) (zFin zcI) 23 [(0, .inr (.inr v0)), (1, .inr (.inr v1)), (2, .inr (.inr v2)), (3, .inr (.inr v3)), (4, .inl v4)] [] (r23 v0 v1 v2 v3 v4)) (v0 : Option Nat) (v1 : Option Nat) (v2 : Option Nat) (v3 : Option Nat) (v4 : Int32) : Sim (M_L_law l nm tb) (zFin zcI) 1507 [(0, .inr (.inr v0)), (1, .inr (.inr v1)), (2, .inr (.inr v2)), (3, .inr (.inr v3)), (4, .inl v4)] [] (p_L_law_b1507 r23 v0 v1 v2 v3 v4) := by
  unfold p_L_law_b1507
  refine s_aloadn (j := 1) dL_law_1507 rfl ?_
  refine s_aloadn (j := 0) dL_law_1508 rfl ?_
  refine s_iload (j := 4) dL_law_1509 rfl ?_
  refine s_iconst (v := 1) dL_law_1511 (by decide) ?_
  refine s_iadd dL_law_1512 ?_
  refine s_scA dL_law_1513 (fun x152 => ?_)
  refine s_aloadn (j := 3) dL_law_1514 rfl ?_
  refine s_cSH (rest := []) (met_L_mistakeKind l hfl v1 x152 v3) mthh_L_mistakeKind rfl dL_law_1515 w_1280 w_1281 ⟨Nat.le_of_ble_eq_true rfl, Nat.le_of_ble_eq_true rfl⟩ (Nat.le_of_ble_eq_true rfl) rfl (fun x153 => ?_)
  refine s_istore (lv' := [(5, .inl x153), (0, .inr (.inr v0)), (1, .inr (.inr v1)), (2, .inr (.inr v2)), (3, .inr (.inr v3)), (4, .inl v4)]) dL_law_1518 (Nat.le_of_ble_eq_true rfl) rfl ?_
  refine s_aloadn (j := 3) dL_law_1520 rfl ?_
  refine s_aloadn (j := 1) dL_law_1521 rfl ?_
  refine s_iload (j := 5) dL_law_1522 rfl ?_
  refine s_iconst (v := 1) dL_law_1524 (by decide) ?_
  refine s_iadd dL_law_1525 ?_
  refine s_scA dL_law_1526 (fun x154 => ?_)
  refine s_cVI (rest := []) (met_X12_mistakeKind l v2 x154) cls_13 mth_X12_mistakeKind rfl dL_law_1527 w_1803 w_1804 w_1805 ⟨Nat.le_of_ble_eq_true rfl, Nat.le_of_ble_eq_true rfl⟩ (Nat.le_of_ble_eq_true rfl) rfl (fun x155 => ?_)
  refine s_istore (lv' := [(6, .inl x155), (5, .inl x153), (0, .inr (.inr v0)), (1, .inr (.inr v1)), (2, .inr (.inr v2)), (3, .inr (.inr v3)), (4, .inl v4)]) dL_law_1530 (Nat.le_of_ble_eq_true rfl) rfl ?_
  refine s_aloadn (j := 4) dL_law_1532 rfl ?_
  refine s_cVI (rest := []) (met_X12_thrown l v2) cls_13 mth_X12_thrown rfl dL_law_1533 w_1527 w_1528 w_1529 ⟨Nat.le_of_ble_eq_true rfl, Nat.le_of_ble_eq_true rfl⟩ (Nat.le_of_ble_eq_true rfl) rfl (fun x156 => ?_)
  refine s_iload (j := 1) dL_law_1536 rfl ?_
  refine s_icmp_eq (tgt := 1543) dL_law_1538 (by decide) ?_ ?_
  · refine s_iload (j := 1) dL_law_1543 rfl ?_
    refine s_if_ne (tgt := 1560) dL_law_1545 (by decide) ?_ ?_
    · exact Sim.sub [2, 3, 4, 5, 6] rfl (sim_L_law_b1560 l nm tb hfl r23 hr23 v0 v1 v2 v3 v4)
    · refine s_aloadn (j := 5) dL_law_1548 rfl ?_
      refine s_iconst (v := 0) dL_law_1549 (by decide) ?_
      refine s_lald dL_law_1550 (fun x157 => ?_)
      refine s_iload (j := 0) dL_law_1551 rfl ?_
      refine s_i2l dL_law_1553 ?_
      refine s_lcmp dL_law_1554 ?_
      refine s_if_eq (tgt := 1560) dL_law_1555 (by decide) ?_ ?_
      · exact Sim.sub [2, 3, 4, 5, 6] rfl (sim_L_law_b1560 l nm tb hfl r23 hr23 v0 v1 v2 v3 v4)
      · refine s_iconst (v := 0) dL_law_1558 (by decide) ?_
        exact s_zret dL_law_1559 rfl
  · refine s_iconst (v := 0) dL_law_1541 (by decide) ?_
    exact s_zret dL_law_1542 rfl
set_option maxRecDepth 20000 in
theorem sim_L_law_b1616 (l : Launch) (nm : String) (tb : List ExceptionTableEntry) (hfl : l.stackTraces = false) (r23 : Option Nat → Option Nat → Option Nat → Option Nat → Int32 → ZM Int32) (hr23 : ∀ (v0 : Option Nat) (v1 : Option Nat) (v2 : Option Nat) (v3 : Option Nat) (v4 : Int32), Sim (M_L_law l nm tb) (zFin zcI) 23 [(0, .inr (.inr v0)), (1, .inr (.inr v1)), (2, .inr (.inr v2)), (3, .inr (.inr v3)), (4, .inl v4)] [] (r23 v0 v1 v2 v3 v4)) (v0 : Option Nat) (v1 : Option Nat) (v2 : Option Nat) (v3 : Option Nat) (v4 : Int32) : Sim (M_L_law l nm tb) (zFin zcI) 1616 [(0, .inr (.inr v0)), (1, .inr (.inr v1)), (2, .inr (.inr v2)), (3, .inr (.inr v3)), (4, .inl v4)] [] (p_L_law_b1616 r23 v0 v1 v2 v3 v4) := by
  unfold p_L_law_b1616
  refine s_goto (tgt := 1892) dL_law_1616 (by decide) ?_
  exact Sim.sub [0, 1, 2, 3, 4] rfl (sim_L_law_b1892 l nm tb hfl r23 hr23 v0 v1 v2 v3 v4)
set_option maxRecDepth 20000 in
theorem sim_L_law_b1563 (l : Launch) (nm : String) (tb : List ExceptionTableEntry) (hfl : l.stackTraces = false) (r23 : Option Nat → Option Nat → Option Nat → Option Nat → Int32 → ZM Int32) (hr23 : ∀ (v0 : Option Nat) (v1 : Option Nat) (v2 : Option Nat) (v3 : Option Nat) (v4 : Int32), Sim (M_L_law l nm tb) (zFin zcI) 23 [(0, .inr (.inr v0)), (1, .inr (.inr v1)), (2, .inr (.inr v2)), (3, .inr (.inr v3)), (4, .inl v4)] [] (r23 v0 v1 v2 v3 v4)) (v0 : Option Nat) (v1 : Option Nat) (v2 : Option Nat) (v3 : Option Nat) (v4 : Int32) : Sim (M_L_law l nm tb) (zFin zcI) 1563 [(0, .inr (.inr v0)), (1, .inr (.inr v1)), (2, .inr (.inr v2)), (3, .inr (.inr v3)), (4, .inl v4)] [] (p_L_law_b1563 r23 v0 v1 v2 v3 v4) := by
  unfold p_L_law_b1563
  refine s_aloadn (j := 1) dL_law_1563 rfl ?_
  refine s_aloadn (j := 0) dL_law_1564 rfl ?_
  refine s_iload (j := 4) dL_law_1565 rfl ?_
  refine s_iconst (v := 1) dL_law_1567 (by decide) ?_
  refine s_iadd dL_law_1568 ?_
  refine s_scA dL_law_1569 (fun x158 => ?_)
  refine s_aloadn (j := 3) dL_law_1570 rfl ?_
  refine s_cSH (rest := []) (met_L_mistakeAt l hfl v1 x158 v3) mthh_L_mistakeAt rfl dL_law_1571 w_1292 w_1293 ⟨Nat.le_of_ble_eq_true rfl, Nat.le_of_ble_eq_true rfl⟩ (Nat.le_of_ble_eq_true rfl) rfl (fun x159 => ?_)
  refine s_istore (lv' := [(5, .inl x159), (0, .inr (.inr v0)), (1, .inr (.inr v1)), (2, .inr (.inr v2)), (3, .inr (.inr v3)), (4, .inl v4)]) dL_law_1574 (Nat.le_of_ble_eq_true rfl) rfl ?_
  refine s_aloadn (j := 3) dL_law_1576 rfl ?_
  refine s_aloadn (j := 1) dL_law_1577 rfl ?_
  refine s_iload (j := 5) dL_law_1578 rfl ?_
  refine s_iconst (v := 1) dL_law_1580 (by decide) ?_
  refine s_iadd dL_law_1581 ?_
  refine s_scA dL_law_1582 (fun x160 => ?_)
  refine s_cVI (rest := []) (met_X12_mistakeAt l v2 x160) cls_13 mth_X12_mistakeAt rfl dL_law_1583 w_1811 w_1812 w_1813 ⟨Nat.le_of_ble_eq_true rfl, Nat.le_of_ble_eq_true rfl⟩ (Nat.le_of_ble_eq_true rfl) rfl (fun x161 => ?_)
  refine s_istore (lv' := [(6, .inl x161), (5, .inl x159), (0, .inr (.inr v0)), (1, .inr (.inr v1)), (2, .inr (.inr v2)), (3, .inr (.inr v3)), (4, .inl v4)]) dL_law_1586 (Nat.le_of_ble_eq_true rfl) rfl ?_
  refine s_aloadn (j := 4) dL_law_1588 rfl ?_
  refine s_cVI (rest := []) (met_X12_thrown l v2) cls_13 mth_X12_thrown rfl dL_law_1589 w_1527 w_1528 w_1529 ⟨Nat.le_of_ble_eq_true rfl, Nat.le_of_ble_eq_true rfl⟩ (Nat.le_of_ble_eq_true rfl) rfl (fun x162 => ?_)
  refine s_iload (j := 1) dL_law_1592 rfl ?_
  refine s_icmp_eq (tgt := 1599) dL_law_1594 (by decide) ?_ ?_
  · refine s_iload (j := 1) dL_law_1599 rfl ?_
    refine s_if_ne (tgt := 1616) dL_law_1601 (by decide) ?_ ?_
    · exact Sim.sub [2, 3, 4, 5, 6] rfl (sim_L_law_b1616 l nm tb hfl r23 hr23 v0 v1 v2 v3 v4)
    · refine s_aloadn (j := 5) dL_law_1604 rfl ?_
      refine s_iconst (v := 0) dL_law_1605 (by decide) ?_
      refine s_lald dL_law_1606 (fun x163 => ?_)
      refine s_iload (j := 0) dL_law_1607 rfl ?_
      refine s_i2l dL_law_1609 ?_
      refine s_lcmp dL_law_1610 ?_
      refine s_if_eq (tgt := 1616) dL_law_1611 (by decide) ?_ ?_
      · exact Sim.sub [2, 3, 4, 5, 6] rfl (sim_L_law_b1616 l nm tb hfl r23 hr23 v0 v1 v2 v3 v4)
      · refine s_iconst (v := 0) dL_law_1614 (by decide) ?_
        exact s_zret dL_law_1615 rfl
  · refine s_iconst (v := 0) dL_law_1597 (by decide) ?_
    exact s_zret dL_law_1598 rfl
set_option maxRecDepth 20000 in
theorem sim_L_law_b1672 (l : Launch) (nm : String) (tb : List ExceptionTableEntry) (hfl : l.stackTraces = false) (r23 : Option Nat → Option Nat → Option Nat → Option Nat → Int32 → ZM Int32) (hr23 : ∀ (v0 : Option Nat) (v1 : Option Nat) (v2 : Option Nat) (v3 : Option Nat) (v4 : Int32), Sim (M_L_law l nm tb) (zFin zcI) 23 [(0, .inr (.inr v0)), (1, .inr (.inr v1)), (2, .inr (.inr v2)), (3, .inr (.inr v3)), (4, .inl v4)] [] (r23 v0 v1 v2 v3 v4)) (v0 : Option Nat) (v1 : Option Nat) (v2 : Option Nat) (v3 : Option Nat) (v4 : Int32) : Sim (M_L_law l nm tb) (zFin zcI) 1672 [(0, .inr (.inr v0)), (1, .inr (.inr v1)), (2, .inr (.inr v2)), (3, .inr (.inr v3)), (4, .inl v4)] [] (p_L_law_b1672 r23 v0 v1 v2 v3 v4) := by
  unfold p_L_law_b1672
  refine s_goto (tgt := 1892) dL_law_1672 (by decide) ?_
  exact Sim.sub [0, 1, 2, 3, 4] rfl (sim_L_law_b1892 l nm tb hfl r23 hr23 v0 v1 v2 v3 v4)
set_option maxRecDepth 20000 in
theorem sim_L_law_b1619 (l : Launch) (nm : String) (tb : List ExceptionTableEntry) (hfl : l.stackTraces = false) (r23 : Option Nat → Option Nat → Option Nat → Option Nat → Int32 → ZM Int32) (hr23 : ∀ (v0 : Option Nat) (v1 : Option Nat) (v2 : Option Nat) (v3 : Option Nat) (v4 : Int32), Sim (M_L_law l nm tb) (zFin zcI) 23 [(0, .inr (.inr v0)), (1, .inr (.inr v1)), (2, .inr (.inr v2)), (3, .inr (.inr v3)), (4, .inl v4)] [] (r23 v0 v1 v2 v3 v4)) (v0 : Option Nat) (v1 : Option Nat) (v2 : Option Nat) (v3 : Option Nat) (v4 : Int32) : Sim (M_L_law l nm tb) (zFin zcI) 1619 [(0, .inr (.inr v0)), (1, .inr (.inr v1)), (2, .inr (.inr v2)), (3, .inr (.inr v3)), (4, .inl v4)] [] (p_L_law_b1619 r23 v0 v1 v2 v3 v4) := by
  unfold p_L_law_b1619
  refine s_aloadn (j := 1) dL_law_1619 rfl ?_
  refine s_aloadn (j := 0) dL_law_1620 rfl ?_
  refine s_iload (j := 4) dL_law_1621 rfl ?_
  refine s_iconst (v := 1) dL_law_1623 (by decide) ?_
  refine s_iadd dL_law_1624 ?_
  refine s_scA dL_law_1625 (fun x164 => ?_)
  refine s_aloadn (j := 3) dL_law_1626 rfl ?_
  refine s_cSH (rest := []) (met_L_suggestions l hfl v1 x164 v3) mthh_L_suggestions rfl dL_law_1627 w_1303 w_1304 ⟨Nat.le_of_ble_eq_true rfl, Nat.le_of_ble_eq_true rfl⟩ (Nat.le_of_ble_eq_true rfl) rfl (fun x165 => ?_)
  refine s_istore (lv' := [(5, .inl x165), (0, .inr (.inr v0)), (1, .inr (.inr v1)), (2, .inr (.inr v2)), (3, .inr (.inr v3)), (4, .inl v4)]) dL_law_1630 (Nat.le_of_ble_eq_true rfl) rfl ?_
  refine s_aloadn (j := 3) dL_law_1632 rfl ?_
  refine s_aloadn (j := 1) dL_law_1633 rfl ?_
  refine s_iload (j := 5) dL_law_1634 rfl ?_
  refine s_iconst (v := 1) dL_law_1636 (by decide) ?_
  refine s_iadd dL_law_1637 ?_
  refine s_scA dL_law_1638 (fun x166 => ?_)
  refine s_cVI (rest := []) (met_X12_suggestions l v2 x166) cls_13 mth_X12_suggestions rfl dL_law_1639 w_1815 w_1816 w_1817 ⟨Nat.le_of_ble_eq_true rfl, Nat.le_of_ble_eq_true rfl⟩ (Nat.le_of_ble_eq_true rfl) rfl (fun x167 => ?_)
  refine s_istore (lv' := [(6, .inl x167), (5, .inl x165), (0, .inr (.inr v0)), (1, .inr (.inr v1)), (2, .inr (.inr v2)), (3, .inr (.inr v3)), (4, .inl v4)]) dL_law_1642 (Nat.le_of_ble_eq_true rfl) rfl ?_
  refine s_aloadn (j := 4) dL_law_1644 rfl ?_
  refine s_cVI (rest := []) (met_X12_thrown l v2) cls_13 mth_X12_thrown rfl dL_law_1645 w_1527 w_1528 w_1529 ⟨Nat.le_of_ble_eq_true rfl, Nat.le_of_ble_eq_true rfl⟩ (Nat.le_of_ble_eq_true rfl) rfl (fun x168 => ?_)
  refine s_iload (j := 1) dL_law_1648 rfl ?_
  refine s_icmp_eq (tgt := 1655) dL_law_1650 (by decide) ?_ ?_
  · refine s_iload (j := 1) dL_law_1655 rfl ?_
    refine s_if_ne (tgt := 1672) dL_law_1657 (by decide) ?_ ?_
    · exact Sim.sub [2, 3, 4, 5, 6] rfl (sim_L_law_b1672 l nm tb hfl r23 hr23 v0 v1 v2 v3 v4)
    · refine s_aloadn (j := 5) dL_law_1660 rfl ?_
      refine s_iconst (v := 0) dL_law_1661 (by decide) ?_
      refine s_lald dL_law_1662 (fun x169 => ?_)
      refine s_iload (j := 0) dL_law_1663 rfl ?_
      refine s_i2l dL_law_1665 ?_
      refine s_lcmp dL_law_1666 ?_
      refine s_if_eq (tgt := 1672) dL_law_1667 (by decide) ?_ ?_
      · exact Sim.sub [2, 3, 4, 5, 6] rfl (sim_L_law_b1672 l nm tb hfl r23 hr23 v0 v1 v2 v3 v4)
      · refine s_iconst (v := 0) dL_law_1670 (by decide) ?_
        exact s_zret dL_law_1671 rfl
  · refine s_iconst (v := 0) dL_law_1653 (by decide) ?_
    exact s_zret dL_law_1654 rfl
set_option maxRecDepth 20000 in
theorem sim_L_law_b1728 (l : Launch) (nm : String) (tb : List ExceptionTableEntry) (hfl : l.stackTraces = false) (r23 : Option Nat → Option Nat → Option Nat → Option Nat → Int32 → ZM Int32) (hr23 : ∀ (v0 : Option Nat) (v1 : Option Nat) (v2 : Option Nat) (v3 : Option Nat) (v4 : Int32), Sim (M_L_law l nm tb) (zFin zcI) 23 [(0, .inr (.inr v0)), (1, .inr (.inr v1)), (2, .inr (.inr v2)), (3, .inr (.inr v3)), (4, .inl v4)] [] (r23 v0 v1 v2 v3 v4)) (v0 : Option Nat) (v1 : Option Nat) (v2 : Option Nat) (v3 : Option Nat) (v4 : Int32) : Sim (M_L_law l nm tb) (zFin zcI) 1728 [(0, .inr (.inr v0)), (1, .inr (.inr v1)), (2, .inr (.inr v2)), (3, .inr (.inr v3)), (4, .inl v4)] [] (p_L_law_b1728 r23 v0 v1 v2 v3 v4) := by
  unfold p_L_law_b1728
  refine s_goto (tgt := 1892) dL_law_1728 (by decide) ?_
  exact Sim.sub [0, 1, 2, 3, 4] rfl (sim_L_law_b1892 l nm tb hfl r23 hr23 v0 v1 v2 v3 v4)
set_option maxRecDepth 20000 in
theorem sim_L_law_b1675 (l : Launch) (nm : String) (tb : List ExceptionTableEntry) (hfl : l.stackTraces = false) (r23 : Option Nat → Option Nat → Option Nat → Option Nat → Int32 → ZM Int32) (hr23 : ∀ (v0 : Option Nat) (v1 : Option Nat) (v2 : Option Nat) (v3 : Option Nat) (v4 : Int32), Sim (M_L_law l nm tb) (zFin zcI) 23 [(0, .inr (.inr v0)), (1, .inr (.inr v1)), (2, .inr (.inr v2)), (3, .inr (.inr v3)), (4, .inl v4)] [] (r23 v0 v1 v2 v3 v4)) (v0 : Option Nat) (v1 : Option Nat) (v2 : Option Nat) (v3 : Option Nat) (v4 : Int32) : Sim (M_L_law l nm tb) (zFin zcI) 1675 [(0, .inr (.inr v0)), (1, .inr (.inr v1)), (2, .inr (.inr v2)), (3, .inr (.inr v3)), (4, .inl v4)] [] (p_L_law_b1675 r23 v0 v1 v2 v3 v4) := by
  unfold p_L_law_b1675
  refine s_aloadn (j := 1) dL_law_1675 rfl ?_
  refine s_aloadn (j := 0) dL_law_1676 rfl ?_
  refine s_iload (j := 4) dL_law_1677 rfl ?_
  refine s_iconst (v := 1) dL_law_1679 (by decide) ?_
  refine s_iadd dL_law_1680 ?_
  refine s_scA dL_law_1681 (fun x170 => ?_)
  refine s_aloadn (j := 3) dL_law_1682 rfl ?_
  refine s_cSH (rest := []) (met_L_suggestionsByAll l hfl v1 x170 v3) mthh_L_suggestionsByAll rfl dL_law_1683 w_1310 w_1311 ⟨Nat.le_of_ble_eq_true rfl, Nat.le_of_ble_eq_true rfl⟩ (Nat.le_of_ble_eq_true rfl) rfl (fun x171 => ?_)
  refine s_istore (lv' := [(5, .inl x171), (0, .inr (.inr v0)), (1, .inr (.inr v1)), (2, .inr (.inr v2)), (3, .inr (.inr v3)), (4, .inl v4)]) dL_law_1686 (Nat.le_of_ble_eq_true rfl) rfl ?_
  refine s_aloadn (j := 3) dL_law_1688 rfl ?_
  refine s_aloadn (j := 1) dL_law_1689 rfl ?_
  refine s_iload (j := 5) dL_law_1690 rfl ?_
  refine s_iconst (v := 1) dL_law_1692 (by decide) ?_
  refine s_iadd dL_law_1693 ?_
  refine s_scA dL_law_1694 (fun x172 => ?_)
  refine s_cVI (rest := []) (met_X12_suggestionsByAll l v2 x172) cls_13 mth_X12_suggestionsByAll rfl dL_law_1695 w_1819 w_1820 w_1821 ⟨Nat.le_of_ble_eq_true rfl, Nat.le_of_ble_eq_true rfl⟩ (Nat.le_of_ble_eq_true rfl) rfl (fun x173 => ?_)
  refine s_istore (lv' := [(6, .inl x173), (5, .inl x171), (0, .inr (.inr v0)), (1, .inr (.inr v1)), (2, .inr (.inr v2)), (3, .inr (.inr v3)), (4, .inl v4)]) dL_law_1698 (Nat.le_of_ble_eq_true rfl) rfl ?_
  refine s_aloadn (j := 4) dL_law_1700 rfl ?_
  refine s_cVI (rest := []) (met_X12_thrown l v2) cls_13 mth_X12_thrown rfl dL_law_1701 w_1527 w_1528 w_1529 ⟨Nat.le_of_ble_eq_true rfl, Nat.le_of_ble_eq_true rfl⟩ (Nat.le_of_ble_eq_true rfl) rfl (fun x174 => ?_)
  refine s_iload (j := 1) dL_law_1704 rfl ?_
  refine s_icmp_eq (tgt := 1711) dL_law_1706 (by decide) ?_ ?_
  · refine s_iload (j := 1) dL_law_1711 rfl ?_
    refine s_if_ne (tgt := 1728) dL_law_1713 (by decide) ?_ ?_
    · exact Sim.sub [2, 3, 4, 5, 6] rfl (sim_L_law_b1728 l nm tb hfl r23 hr23 v0 v1 v2 v3 v4)
    · refine s_aloadn (j := 5) dL_law_1716 rfl ?_
      refine s_iconst (v := 0) dL_law_1717 (by decide) ?_
      refine s_lald dL_law_1718 (fun x175 => ?_)
      refine s_iload (j := 0) dL_law_1719 rfl ?_
      refine s_i2l dL_law_1721 ?_
      refine s_lcmp dL_law_1722 ?_
      refine s_if_eq (tgt := 1728) dL_law_1723 (by decide) ?_ ?_
      · exact Sim.sub [2, 3, 4, 5, 6] rfl (sim_L_law_b1728 l nm tb hfl r23 hr23 v0 v1 v2 v3 v4)
      · refine s_iconst (v := 0) dL_law_1726 (by decide) ?_
        exact s_zret dL_law_1727 rfl
  · refine s_iconst (v := 0) dL_law_1709 (by decide) ?_
    exact s_zret dL_law_1710 rfl
set_option maxRecDepth 20000 in
theorem sim_L_law_b1796 (l : Launch) (nm : String) (tb : List ExceptionTableEntry) (hfl : l.stackTraces = false) (r23 : Option Nat → Option Nat → Option Nat → Option Nat → Int32 → ZM Int32) (hr23 : ∀ (v0 : Option Nat) (v1 : Option Nat) (v2 : Option Nat) (v3 : Option Nat) (v4 : Int32), Sim (M_L_law l nm tb) (zFin zcI) 23 [(0, .inr (.inr v0)), (1, .inr (.inr v1)), (2, .inr (.inr v2)), (3, .inr (.inr v3)), (4, .inl v4)] [] (r23 v0 v1 v2 v3 v4)) (v0 : Option Nat) (v1 : Option Nat) (v2 : Option Nat) (v3 : Option Nat) (v4 : Int32) : Sim (M_L_law l nm tb) (zFin zcI) 1796 [(0, .inr (.inr v0)), (1, .inr (.inr v1)), (2, .inr (.inr v2)), (3, .inr (.inr v3)), (4, .inl v4)] [] (p_L_law_b1796 r23 v0 v1 v2 v3 v4) := by
  unfold p_L_law_b1796
  refine s_goto (tgt := 1892) dL_law_1796 (by decide) ?_
  exact Sim.sub [0, 1, 2, 3, 4] rfl (sim_L_law_b1892 l nm tb hfl r23 hr23 v0 v1 v2 v3 v4)
set_option maxRecDepth 20000 in
theorem sim_L_law_b1731 (l : Launch) (nm : String) (tb : List ExceptionTableEntry) (hfl : l.stackTraces = false) (r23 : Option Nat → Option Nat → Option Nat → Option Nat → Int32 → ZM Int32) (hr23 : ∀ (v0 : Option Nat) (v1 : Option Nat) (v2 : Option Nat) (v3 : Option Nat) (v4 : Int32), Sim (M_L_law l nm tb) (zFin zcI) 23 [(0, .inr (.inr v0)), (1, .inr (.inr v1)), (2, .inr (.inr v2)), (3, .inr (.inr v3)), (4, .inl v4)] [] (r23 v0 v1 v2 v3 v4)) (v0 : Option Nat) (v1 : Option Nat) (v2 : Option Nat) (v3 : Option Nat) (v4 : Int32) : Sim (M_L_law l nm tb) (zFin zcI) 1731 [(0, .inr (.inr v0)), (1, .inr (.inr v1)), (2, .inr (.inr v2)), (3, .inr (.inr v3)), (4, .inl v4)] [] (p_L_law_b1731 r23 v0 v1 v2 v3 v4) := by
  unfold p_L_law_b1731
  refine s_aloadn (j := 1) dL_law_1731 rfl ?_
  refine s_aloadn (j := 0) dL_law_1732 rfl ?_
  refine s_iload (j := 4) dL_law_1733 rfl ?_
  refine s_iconst (v := 1) dL_law_1735 (by decide) ?_
  refine s_iadd dL_law_1736 ?_
  refine s_scA dL_law_1737 (fun x176 => ?_)
  refine s_aloadn (j := 0) dL_law_1738 rfl ?_
  refine s_iload (j := 4) dL_law_1739 rfl ?_
  refine s_iconst (v := 2) dL_law_1741 (by decide) ?_
  refine s_iadd dL_law_1742 ?_
  refine s_scA dL_law_1743 (fun x177 => ?_)
  refine s_aloadn (j := 3) dL_law_1744 rfl ?_
  refine s_cSH (rest := []) (met_L_cost l hfl v1 x176 x177 v3) mthh_L_cost rfl dL_law_1745 w_1317 w_1318 ⟨Nat.le_of_ble_eq_true rfl, Nat.le_of_ble_eq_true rfl⟩ (Nat.le_of_ble_eq_true rfl) rfl (fun x178 => ?_)
  refine s_istore (lv' := [(5, .inl x178), (0, .inr (.inr v0)), (1, .inr (.inr v1)), (2, .inr (.inr v2)), (3, .inr (.inr v3)), (4, .inl v4)]) dL_law_1748 (Nat.le_of_ble_eq_true rfl) rfl ?_
  refine s_aloadn (j := 3) dL_law_1750 rfl ?_
  refine s_aloadn (j := 1) dL_law_1751 rfl ?_
  refine s_iload (j := 5) dL_law_1752 rfl ?_
  refine s_iconst (v := 1) dL_law_1754 (by decide) ?_
  refine s_iadd dL_law_1755 ?_
  refine s_scA dL_law_1756 (fun x179 => ?_)
  refine s_aloadn (j := 1) dL_law_1757 rfl ?_
  refine s_iload (j := 5) dL_law_1758 rfl ?_
  refine s_iconst (v := 2) dL_law_1760 (by decide) ?_
  refine s_iadd dL_law_1761 ?_
  refine s_scA dL_law_1762 (fun x180 => ?_)
  refine s_cVI (rest := []) (met_X12_cost l v2 x179 x180) cls_13 mth_X12_cost rfl dL_law_1763 w_1824 w_1825 w_1826 ⟨Nat.le_of_ble_eq_true rfl, Nat.le_of_ble_eq_true rfl⟩ (Nat.le_of_ble_eq_true rfl) rfl (fun x181 => ?_)
  refine s_istore (lv' := [(6, .inl x181), (5, .inl x178), (0, .inr (.inr v0)), (1, .inr (.inr v1)), (2, .inr (.inr v2)), (3, .inr (.inr v3)), (4, .inl v4)]) dL_law_1766 (Nat.le_of_ble_eq_true rfl) rfl ?_
  refine s_aloadn (j := 4) dL_law_1768 rfl ?_
  refine s_cVI (rest := []) (met_X12_thrown l v2) cls_13 mth_X12_thrown rfl dL_law_1769 w_1527 w_1528 w_1529 ⟨Nat.le_of_ble_eq_true rfl, Nat.le_of_ble_eq_true rfl⟩ (Nat.le_of_ble_eq_true rfl) rfl (fun x182 => ?_)
  refine s_iload (j := 1) dL_law_1772 rfl ?_
  refine s_icmp_eq (tgt := 1779) dL_law_1774 (by decide) ?_ ?_
  · refine s_iload (j := 1) dL_law_1779 rfl ?_
    refine s_if_ne (tgt := 1796) dL_law_1781 (by decide) ?_ ?_
    · exact Sim.sub [2, 3, 4, 5, 6] rfl (sim_L_law_b1796 l nm tb hfl r23 hr23 v0 v1 v2 v3 v4)
    · refine s_aloadn (j := 5) dL_law_1784 rfl ?_
      refine s_iconst (v := 0) dL_law_1785 (by decide) ?_
      refine s_lald dL_law_1786 (fun x183 => ?_)
      refine s_iload (j := 0) dL_law_1787 rfl ?_
      refine s_i2l dL_law_1789 ?_
      refine s_lcmp dL_law_1790 ?_
      refine s_if_eq (tgt := 1796) dL_law_1791 (by decide) ?_ ?_
      · exact Sim.sub [2, 3, 4, 5, 6] rfl (sim_L_law_b1796 l nm tb hfl r23 hr23 v0 v1 v2 v3 v4)
      · refine s_iconst (v := 0) dL_law_1794 (by decide) ?_
        exact s_zret dL_law_1795 rfl
  · refine s_iconst (v := 0) dL_law_1777 (by decide) ?_
    exact s_zret dL_law_1778 rfl
set_option maxRecDepth 20000 in
theorem sim_L_law_b1876 (l : Launch) (nm : String) (tb : List ExceptionTableEntry) (hfl : l.stackTraces = false) (r23 : Option Nat → Option Nat → Option Nat → Option Nat → Int32 → ZM Int32) (hr23 : ∀ (v0 : Option Nat) (v1 : Option Nat) (v2 : Option Nat) (v3 : Option Nat) (v4 : Int32), Sim (M_L_law l nm tb) (zFin zcI) 23 [(0, .inr (.inr v0)), (1, .inr (.inr v1)), (2, .inr (.inr v2)), (3, .inr (.inr v3)), (4, .inl v4)] [] (r23 v0 v1 v2 v3 v4)) (v0 : Option Nat) (v1 : Option Nat) (v2 : Option Nat) (v3 : Option Nat) (v4 : Int32) : Sim (M_L_law l nm tb) (zFin zcI) 1876 [(0, .inr (.inr v0)), (1, .inr (.inr v1)), (2, .inr (.inr v2)), (3, .inr (.inr v3)), (4, .inl v4)] [] (p_L_law_b1876 r23 v0 v1 v2 v3 v4) := by
  unfold p_L_law_b1876
  refine s_goto (tgt := 1892) dL_law_1876 (by decide) ?_
  exact Sim.sub [0, 1, 2, 3, 4] rfl (sim_L_law_b1892 l nm tb hfl r23 hr23 v0 v1 v2 v3 v4)
set_option maxRecDepth 20000 in
theorem sim_L_law_b1799 (l : Launch) (nm : String) (tb : List ExceptionTableEntry) (hfl : l.stackTraces = false) (r23 : Option Nat → Option Nat → Option Nat → Option Nat → Int32 → ZM Int32) (hr23 : ∀ (v0 : Option Nat) (v1 : Option Nat) (v2 : Option Nat) (v3 : Option Nat) (v4 : Int32), Sim (M_L_law l nm tb) (zFin zcI) 23 [(0, .inr (.inr v0)), (1, .inr (.inr v1)), (2, .inr (.inr v2)), (3, .inr (.inr v3)), (4, .inl v4)] [] (r23 v0 v1 v2 v3 v4)) (v0 : Option Nat) (v1 : Option Nat) (v2 : Option Nat) (v3 : Option Nat) (v4 : Int32) : Sim (M_L_law l nm tb) (zFin zcI) 1799 [(0, .inr (.inr v0)), (1, .inr (.inr v1)), (2, .inr (.inr v2)), (3, .inr (.inr v3)), (4, .inl v4)] [] (p_L_law_b1799 r23 v0 v1 v2 v3 v4) := by
  unfold p_L_law_b1799
  refine s_aloadn (j := 1) dL_law_1799 rfl ?_
  refine s_aloadn (j := 0) dL_law_1800 rfl ?_
  refine s_iload (j := 4) dL_law_1801 rfl ?_
  refine s_iconst (v := 1) dL_law_1803 (by decide) ?_
  refine s_iadd dL_law_1804 ?_
  refine s_scA dL_law_1805 (fun x184 => ?_)
  refine s_aloadn (j := 0) dL_law_1806 rfl ?_
  refine s_iload (j := 4) dL_law_1807 rfl ?_
  refine s_iconst (v := 2) dL_law_1809 (by decide) ?_
  refine s_iadd dL_law_1810 ?_
  refine s_scA dL_law_1811 (fun x185 => ?_)
  refine s_aloadn (j := 0) dL_law_1812 rfl ?_
  refine s_iload (j := 4) dL_law_1813 rfl ?_
  refine s_iconst (v := 3) dL_law_1815 (by decide) ?_
  refine s_iadd dL_law_1816 ?_
  refine s_scA dL_law_1817 (fun x186 => ?_)
  refine s_aloadn (j := 3) dL_law_1818 rfl ?_
  refine s_cSH (rest := []) (met_L_suggested l hfl v1 x184 x185 x186 v3) mthh_L_suggested rfl dL_law_1819 w_1333 w_1334 ⟨Nat.le_of_ble_eq_true rfl, Nat.le_of_ble_eq_true rfl⟩ (Nat.le_of_ble_eq_true rfl) rfl (fun x187 => ?_)
  refine s_istore (lv' := [(5, .inl x187), (0, .inr (.inr v0)), (1, .inr (.inr v1)), (2, .inr (.inr v2)), (3, .inr (.inr v3)), (4, .inl v4)]) dL_law_1822 (Nat.le_of_ble_eq_true rfl) rfl ?_
  refine s_aloadn (j := 3) dL_law_1824 rfl ?_
  refine s_aloadn (j := 1) dL_law_1825 rfl ?_
  refine s_iload (j := 5) dL_law_1826 rfl ?_
  refine s_iconst (v := 1) dL_law_1828 (by decide) ?_
  refine s_iadd dL_law_1829 ?_
  refine s_scA dL_law_1830 (fun x188 => ?_)
  refine s_aloadn (j := 1) dL_law_1831 rfl ?_
  refine s_iload (j := 5) dL_law_1832 rfl ?_
  refine s_iconst (v := 2) dL_law_1834 (by decide) ?_
  refine s_iadd dL_law_1835 ?_
  refine s_scA dL_law_1836 (fun x189 => ?_)
  refine s_aloadn (j := 1) dL_law_1837 rfl ?_
  refine s_iload (j := 5) dL_law_1838 rfl ?_
  refine s_iconst (v := 3) dL_law_1840 (by decide) ?_
  refine s_iadd dL_law_1841 ?_
  refine s_scA dL_law_1842 (fun x190 => ?_)
  refine s_cVI (rest := []) (met_X12_suggested l v2 x188 x189 x190) cls_13 mth_X12_suggested rfl dL_law_1843 w_1832 w_1833 w_1834 ⟨Nat.le_of_ble_eq_true rfl, Nat.le_of_ble_eq_true rfl⟩ (Nat.le_of_ble_eq_true rfl) rfl (fun x191 => ?_)
  refine s_istore (lv' := [(6, .inl x191), (5, .inl x187), (0, .inr (.inr v0)), (1, .inr (.inr v1)), (2, .inr (.inr v2)), (3, .inr (.inr v3)), (4, .inl v4)]) dL_law_1846 (Nat.le_of_ble_eq_true rfl) rfl ?_
  refine s_aloadn (j := 4) dL_law_1848 rfl ?_
  refine s_cVI (rest := []) (met_X12_thrown l v2) cls_13 mth_X12_thrown rfl dL_law_1849 w_1527 w_1528 w_1529 ⟨Nat.le_of_ble_eq_true rfl, Nat.le_of_ble_eq_true rfl⟩ (Nat.le_of_ble_eq_true rfl) rfl (fun x192 => ?_)
  refine s_iload (j := 1) dL_law_1852 rfl ?_
  refine s_icmp_eq (tgt := 1859) dL_law_1854 (by decide) ?_ ?_
  · refine s_iload (j := 1) dL_law_1859 rfl ?_
    refine s_if_ne (tgt := 1876) dL_law_1861 (by decide) ?_ ?_
    · exact Sim.sub [2, 3, 4, 5, 6] rfl (sim_L_law_b1876 l nm tb hfl r23 hr23 v0 v1 v2 v3 v4)
    · refine s_aloadn (j := 5) dL_law_1864 rfl ?_
      refine s_iconst (v := 0) dL_law_1865 (by decide) ?_
      refine s_lald dL_law_1866 (fun x193 => ?_)
      refine s_iload (j := 0) dL_law_1867 rfl ?_
      refine s_i2l dL_law_1869 ?_
      refine s_lcmp dL_law_1870 ?_
      refine s_if_eq (tgt := 1876) dL_law_1871 (by decide) ?_ ?_
      · exact Sim.sub [2, 3, 4, 5, 6] rfl (sim_L_law_b1876 l nm tb hfl r23 hr23 v0 v1 v2 v3 v4)
      · refine s_iconst (v := 0) dL_law_1874 (by decide) ?_
        exact s_zret dL_law_1875 rfl
  · refine s_iconst (v := 0) dL_law_1857 (by decide) ?_
    exact s_zret dL_law_1858 rfl
set_option maxRecDepth 20000 in
theorem sim_L_law_b1879 (l : Launch) (nm : String) (tb : List ExceptionTableEntry) (hfl : l.stackTraces = false) (r23 : Option Nat → Option Nat → Option Nat → Option Nat → Int32 → ZM Int32) (hr23 : ∀ (v0 : Option Nat) (v1 : Option Nat) (v2 : Option Nat) (v3 : Option Nat) (v4 : Int32), Sim (M_L_law l nm tb) (zFin zcI) 23 [(0, .inr (.inr v0)), (1, .inr (.inr v1)), (2, .inr (.inr v2)), (3, .inr (.inr v3)), (4, .inl v4)] [] (r23 v0 v1 v2 v3 v4)) (v0 : Option Nat) (v1 : Option Nat) (v2 : Option Nat) (v3 : Option Nat) (v4 : Int32) : Sim (M_L_law l nm tb) (zFin zcI) 1879 [(0, .inr (.inr v0)), (1, .inr (.inr v1)), (2, .inr (.inr v2)), (3, .inr (.inr v3)), (4, .inl v4)] [] (p_L_law_b1879 r23 v0 v1 v2 v3 v4) := by
  unfold p_L_law_b1879
  refine s_aloadn (j := 1) dL_law_1879 rfl ?_
  refine s_cVI (rest := []) (met_X11_made l v1) cls_12 mth_X11_made rfl dL_law_1880 w_693 w_694 w_695 ⟨Nat.le_of_ble_eq_true rfl, Nat.le_of_ble_eq_true rfl⟩ (Nat.le_of_ble_eq_true rfl) rfl (fun x194 => ?_)
  refine s_aloadn (j := 2) dL_law_1883 rfl ?_
  refine s_cVI (rest := [.inl x194]) (met_X12_made l v2) cls_13 mth_X12_made rfl dL_law_1884 w_1836 w_1837 w_1838 ⟨Nat.le_of_ble_eq_true rfl, Nat.le_of_ble_eq_true rfl⟩ (Nat.le_of_ble_eq_true rfl) rfl (fun x195 => ?_)
  refine s_icmp_eq (tgt := 1892) dL_law_1887 (by decide) ?_ ?_
  · exact Sim.sub [0, 1, 2, 3, 4] rfl (sim_L_law_b1892 l nm tb hfl r23 hr23 v0 v1 v2 v3 v4)
  · refine s_iconst (v := 0) dL_law_1890 (by decide) ?_
    exact s_zret dL_law_1891 rfl
set_option maxRecDepth 20000 in
theorem sim_L_law_c23 (l : Launch) (nm : String) (tb : List ExceptionTableEntry) (hfl : l.stackTraces = false) (r23 : Option Nat → Option Nat → Option Nat → Option Nat → Int32 → ZM Int32) (hr23 : ∀ (v0 : Option Nat) (v1 : Option Nat) (v2 : Option Nat) (v3 : Option Nat) (v4 : Int32), Sim (M_L_law l nm tb) (zFin zcI) 23 [(0, .inr (.inr v0)), (1, .inr (.inr v1)), (2, .inr (.inr v2)), (3, .inr (.inr v3)), (4, .inl v4)] [] (r23 v0 v1 v2 v3 v4)) (v0 : Option Nat) (v1 : Option Nat) (v2 : Option Nat) (v3 : Option Nat) (v4 : Int32) : Sim (M_L_law l nm tb) (zFin zcI) 23 [(0, .inr (.inr v0)), (1, .inr (.inr v1)), (2, .inr (.inr v2)), (3, .inr (.inr v3)), (4, .inl v4)] [] (p_L_law_c23 r23 v0 v1 v2 v3 v4) := by
  unfold p_L_law_c23
  refine s_iload (j := 4) dL_law_23 rfl ?_
  refine s_aloadn (j := 0) dL_law_25 rfl ?_
  refine s_scN dL_law_26 (fun x196 => ?_)
  refine s_bipush (v := 7) dL_law_27 (by decide) ?_
  refine s_isub dL_law_29 ?_
  refine s_icmp_gt (tgt := 1898) dL_law_30 (by decide) ?_ ?_
  · refine s_iconst (v := 1) dL_law_1898 (by decide) ?_
    exact s_zret dL_law_1899 rfl
  · refine s_aloadn (j := 0) dL_law_33 rfl ?_
    refine s_iload (j := 4) dL_law_34 rfl ?_
    refine s_scA dL_law_36 (fun x197 => ?_)
    refine s_bipush (v := 31) dL_law_37 (by decide) ?_
    refine s_iand dL_law_39 ?_
    refine s_switch (hi := 30) (dt := 1892) (tg := fun j => [180, 238, 251, 343, 479, 547, 626, 694, 738, 794, 874, 930, 986, 1056, 1112, 1125, 1138, 1194, 1207, 1263, 1326, 1382, 1438, 1494, 1507, 1563, 1619, 1675, 1731, 1799, 1879].getD j 0) dL_law_40 (fun j hj => ?_) (by decide) (fun j hj => ?_) ?_
    · match j, hj with
      | 0, _ => exact ⟨140, by decide, by decide⟩
      | 1, _ => exact ⟨198, by decide, by decide⟩
      | 2, _ => exact ⟨211, by decide, by decide⟩
      | 3, _ => exact ⟨303, by decide, by decide⟩
      | 4, _ => exact ⟨439, by decide, by decide⟩
      | 5, _ => exact ⟨507, by decide, by decide⟩
      | 6, _ => exact ⟨586, by decide, by decide⟩
      | 7, _ => exact ⟨654, by decide, by decide⟩
      | 8, _ => exact ⟨698, by decide, by decide⟩
      | 9, _ => exact ⟨754, by decide, by decide⟩
      | 10, _ => exact ⟨834, by decide, by decide⟩
      | 11, _ => exact ⟨890, by decide, by decide⟩
      | 12, _ => exact ⟨946, by decide, by decide⟩
      | 13, _ => exact ⟨1016, by decide, by decide⟩
      | 14, _ => exact ⟨1072, by decide, by decide⟩
      | 15, _ => exact ⟨1085, by decide, by decide⟩
      | 16, _ => exact ⟨1098, by decide, by decide⟩
      | 17, _ => exact ⟨1154, by decide, by decide⟩
      | 18, _ => exact ⟨1167, by decide, by decide⟩
      | 19, _ => exact ⟨1223, by decide, by decide⟩
      | 20, _ => exact ⟨1286, by decide, by decide⟩
      | 21, _ => exact ⟨1342, by decide, by decide⟩
      | 22, _ => exact ⟨1398, by decide, by decide⟩
      | 23, _ => exact ⟨1454, by decide, by decide⟩
      | 24, _ => exact ⟨1467, by decide, by decide⟩
      | 25, _ => exact ⟨1523, by decide, by decide⟩
      | 26, _ => exact ⟨1579, by decide, by decide⟩
      | 27, _ => exact ⟨1635, by decide, by decide⟩
      | 28, _ => exact ⟨1691, by decide, by decide⟩
      | 29, _ => exact ⟨1759, by decide, by decide⟩
      | 30, _ => exact ⟨1839, by decide, by decide⟩
      | n + 31, hj => exact absurd hj (by omega)
    · match j, hj with
      | 0, _ => exact Sim.sub [0, 1, 2, 3, 4] rfl (sim_L_law_b180 l nm tb hfl r23 hr23 v0 v1 v2 v3 v4)
      | 1, _ => exact Sim.sub [0, 1, 2, 3, 4] rfl (sim_L_law_b238 l nm tb hfl r23 hr23 v0 v1 v2 v3 v4)
      | 2, _ => exact Sim.sub [0, 1, 2, 3, 4] rfl (sim_L_law_b251 l nm tb hfl r23 hr23 v0 v1 v2 v3 v4)
      | 3, _ => exact Sim.sub [0, 1, 2, 3, 4] rfl (sim_L_law_b343 l nm tb hfl r23 hr23 v0 v1 v2 v3 v4)
      | 4, _ => exact Sim.sub [0, 1, 2, 3, 4] rfl (sim_L_law_b479 l nm tb hfl r23 hr23 v0 v1 v2 v3 v4)
      | 5, _ => exact Sim.sub [0, 1, 2, 3, 4] rfl (sim_L_law_b547 l nm tb hfl r23 hr23 v0 v1 v2 v3 v4)
      | 6, _ => exact Sim.sub [0, 1, 2, 3, 4] rfl (sim_L_law_b626 l nm tb hfl r23 hr23 v0 v1 v2 v3 v4)
      | 7, _ => exact Sim.sub [0, 1, 2, 3, 4] rfl (sim_L_law_b694 l nm tb hfl r23 hr23 v0 v1 v2 v3 v4)
      | 8, _ => exact Sim.sub [0, 1, 2, 3, 4] rfl (sim_L_law_b738 l nm tb hfl r23 hr23 v0 v1 v2 v3 v4)
      | 9, _ => exact Sim.sub [0, 1, 2, 3, 4] rfl (sim_L_law_b794 l nm tb hfl r23 hr23 v0 v1 v2 v3 v4)
      | 10, _ => exact Sim.sub [0, 1, 2, 3, 4] rfl (sim_L_law_b874 l nm tb hfl r23 hr23 v0 v1 v2 v3 v4)
      | 11, _ => exact Sim.sub [0, 1, 2, 3, 4] rfl (sim_L_law_b930 l nm tb hfl r23 hr23 v0 v1 v2 v3 v4)
      | 12, _ => exact Sim.sub [0, 1, 2, 3, 4] rfl (sim_L_law_b986 l nm tb hfl r23 hr23 v0 v1 v2 v3 v4)
      | 13, _ => exact Sim.sub [0, 1, 2, 3, 4] rfl (sim_L_law_b1056 l nm tb hfl r23 hr23 v0 v1 v2 v3 v4)
      | 14, _ => exact Sim.sub [0, 1, 2, 3, 4] rfl (sim_L_law_b1112 l nm tb hfl r23 hr23 v0 v1 v2 v3 v4)
      | 15, _ => exact Sim.sub [0, 1, 2, 3, 4] rfl (sim_L_law_b1125 l nm tb hfl r23 hr23 v0 v1 v2 v3 v4)
      | 16, _ => exact Sim.sub [0, 1, 2, 3, 4] rfl (sim_L_law_b1138 l nm tb hfl r23 hr23 v0 v1 v2 v3 v4)
      | 17, _ => exact Sim.sub [0, 1, 2, 3, 4] rfl (sim_L_law_b1194 l nm tb hfl r23 hr23 v0 v1 v2 v3 v4)
      | 18, _ => exact Sim.sub [0, 1, 2, 3, 4] rfl (sim_L_law_b1207 l nm tb hfl r23 hr23 v0 v1 v2 v3 v4)
      | 19, _ => exact Sim.sub [0, 1, 2, 3, 4] rfl (sim_L_law_b1263 l nm tb hfl r23 hr23 v0 v1 v2 v3 v4)
      | 20, _ => exact Sim.sub [0, 1, 2, 3, 4] rfl (sim_L_law_b1326 l nm tb hfl r23 hr23 v0 v1 v2 v3 v4)
      | 21, _ => exact Sim.sub [0, 1, 2, 3, 4] rfl (sim_L_law_b1382 l nm tb hfl r23 hr23 v0 v1 v2 v3 v4)
      | 22, _ => exact Sim.sub [0, 1, 2, 3, 4] rfl (sim_L_law_b1438 l nm tb hfl r23 hr23 v0 v1 v2 v3 v4)
      | 23, _ => exact Sim.sub [0, 1, 2, 3, 4] rfl (sim_L_law_b1494 l nm tb hfl r23 hr23 v0 v1 v2 v3 v4)
      | 24, _ => exact Sim.sub [0, 1, 2, 3, 4] rfl (sim_L_law_b1507 l nm tb hfl r23 hr23 v0 v1 v2 v3 v4)
      | 25, _ => exact Sim.sub [0, 1, 2, 3, 4] rfl (sim_L_law_b1563 l nm tb hfl r23 hr23 v0 v1 v2 v3 v4)
      | 26, _ => exact Sim.sub [0, 1, 2, 3, 4] rfl (sim_L_law_b1619 l nm tb hfl r23 hr23 v0 v1 v2 v3 v4)
      | 27, _ => exact Sim.sub [0, 1, 2, 3, 4] rfl (sim_L_law_b1675 l nm tb hfl r23 hr23 v0 v1 v2 v3 v4)
      | 28, _ => exact Sim.sub [0, 1, 2, 3, 4] rfl (sim_L_law_b1731 l nm tb hfl r23 hr23 v0 v1 v2 v3 v4)
      | 29, _ => exact Sim.sub [0, 1, 2, 3, 4] rfl (sim_L_law_b1799 l nm tb hfl r23 hr23 v0 v1 v2 v3 v4)
      | 30, _ => exact Sim.sub [0, 1, 2, 3, 4] rfl (sim_L_law_b1879 l nm tb hfl r23 hr23 v0 v1 v2 v3 v4)
      | n + 31, hj => exact absurd hj (by omega)
    · exact Sim.sub [0, 1, 2, 3, 4] rfl (sim_L_law_b1892 l nm tb hfl r23 hr23 v0 v1 v2 v3 v4)
theorem sim_L_law_l23 (l : Launch) (nm : String) (tb : List ExceptionTableEntry) (hfl : l.stackTraces = false) : ∀ (n : Nat) (v0 : Option Nat) (v1 : Option Nat) (v2 : Option Nat) (v3 : Option Nat) (v4 : Int32), Sim (M_L_law l nm tb) (zFin zcI) 23 [(0, .inr (.inr v0)), (1, .inr (.inr v1)), (2, .inr (.inr v2)), (3, .inr (.inr v3)), (4, .inl v4)] [] (p_L_law_l23 n v0 v1 v2 v3 v4)
  | 0, _, _, _, _, _ => s_fl
  | n + 1, v0, v1, v2, v3, v4 => sim_L_law_c23 l nm tb hfl (p_L_law_l23 n) (sim_L_law_l23 l nm tb hfl n) v0 v1 v2 v3 v4
set_option maxRecDepth 20000 in
theorem sim_L_law (l : Launch) (nm : String) (tb : List ExceptionTableEntry) (hfl : l.stackTraces = false) (v0 : Option Nat) : Sim (M_L_law l nm tb) (zFin zcI) 0 [(0, .inr (.inr v0))] [] (p_L_law v0) := by
  unfold p_L_law
  refine s_new cls_12 zck_12 dL_law_0 w_29 w_30 w_1 (fun x198 => ?_)
  refine s_dupR dL_law_3 ?_
  refine s_callI (rest := [.inr (.inr x198)]) (met_X11_init l x198) mth_X11_init rfl rfl dL_law_4 w_31 w_32 ⟨Nat.le_of_ble_eq_true rfl, Nat.le_of_ble_eq_true rfl⟩ (Nat.le_of_ble_eq_true rfl) rfl ?_
  refine s_astoren (lv' := [(1, .inr (.inr x198)), (0, .inr (.inr v0))]) dL_law_7 (Nat.le_of_ble_eq_true rfl) rfl ?_
  refine s_new cls_13 zck_13 dL_law_8 w_1342 w_1343 w_14 (fun x199 => ?_)
  refine s_dupR dL_law_11 ?_
  refine s_callI (rest := [.inr (.inr x199)]) (met_X12_init l x199) mth_X12_init rfl rfl dL_law_12 w_1344 w_1345 ⟨Nat.le_of_ble_eq_true rfl, Nat.le_of_ble_eq_true rfl⟩ (Nat.le_of_ble_eq_true rfl) rfl ?_
  refine s_astoren (lv' := [(2, .inr (.inr x199)), (1, .inr (.inr x198)), (0, .inr (.inr v0))]) dL_law_15 (Nat.le_of_ble_eq_true rfl) rfl ?_
  refine s_iconst (v := 1) dL_law_16 (by decide) ?_
  refine s_newaL dL_law_17 w_1526 (fun x200 => ?_)
  refine s_astoren (lv' := [(3, .inr (.inr x200)), (2, .inr (.inr x199)), (1, .inr (.inr x198)), (0, .inr (.inr v0))]) dL_law_19 (Nat.le_of_ble_eq_true rfl) rfl ?_
  refine s_iconst (v := 0) dL_law_20 (by decide) ?_
  refine s_istore (lv' := [(4, .inl 0), (3, .inr (.inr x200)), (2, .inr (.inr x199)), (1, .inr (.inr x198)), (0, .inr (.inr v0))]) dL_law_21 (Nat.le_of_ble_eq_true rfl) rfl ?_
  exact Sim.sub [4, 3, 2, 1, 0] rfl (sim_L_law_l23 l nm tb hfl zFuel v0 x198 x199 x200 0)
