def p_L_letter (v0 : Option Nat) (v1 : Int32) (v2 : Option Nat) : ZM Int32 :=
  z_bx (z_vr 12 v0 (p_X11_letter v0 v1)) (fun x1 => z_b (z_sL v2 0 (Int32.toInt64 x1)) fun _ => z_rt 0) (z_h2 0 1 (z_rt 1) (z_rt 2))
abbrev M_L_letter (l : Launch) : ZMe := (l, "SpellScribeLaw", cL_letter, 4, 9, 141, (some .int), "letter", tableOf [(0, 9, 12, 13), (0, 9, 15, 15)])
set_option maxRecDepth 20000 in
theorem sim_L_letter (l : Launch) (hfl : l.stackTraces = false) (v0 : Option Nat) (v1 : Int32) (v2 : Option Nat) : Sim (M_L_letter l) (zFin zcI) 0 [(0, .inr (.inr v0)), (1, .inl v1), (2, .inr (.inr v2))] [] (p_L_letter v0 v1 v2) := by
  unfold p_L_letter
  refine s_aloadn (j := 2) dL_letter_0 rfl ?_
  refine s_iconst (v := 0) dL_letter_1 (by decide) ?_
  refine s_aloadn (j := 0) dL_letter_2 rfl ?_
  refine s_iloadn (j := 1) dL_letter_3 rfl ?_
  refine s_callVX (rest := [.inl 0, .inr (.inr v2)]) (st' := fun x => .inl x :: [.inl 0, .inr (.inr v2)]) (met_X11_letter l hfl v0 v1) cls_12 mth_X11_letter rfl dL_letter_4 w_707 w_708 w_709 ⟨Nat.le_of_ble_eq_true rfl, Nat.le_of_ble_eq_true rfl⟩ (Nat.le_of_ble_eq_true rfl) rfl (fun _ => rfl) (fun x1 => ?_) (s_h2 ⟨[], _, _, rfl, fun _ h => absurd h List.not_mem_nil, by decide, by decide, w_705, by decide, rfl⟩ ⟨[_], _, _, rfl, List.forall_mem_cons.mpr ⟨Or.inr ⟨by decide, 0, by decide, by decide, w_705⟩, fun _ h => absurd h List.not_mem_nil⟩, by decide, by decide, w_706, by decide, rfl⟩ (fun q2 => ?_) (fun q3 => ?_))
  · refine s_i2l dL_letter_7 ?_
    refine s_last dL_letter_8 ?_
    refine s_goto (tgt := 18) dL_letter_9 (by decide) ?_
    refine s_iconst (v := 0) dL_letter_18 (by decide) ?_
    exact s_iret dL_letter_19 rfl
  · refine s_astoren (lv' := [(3, .inr (.inr (some q2))), (0, .inr (.inr v0)), (1, .inl v1), (2, .inr (.inr v2))]) dL_letter_12 (Nat.le_of_ble_eq_true rfl) rfl ?_
    refine s_iconst (v := 1) dL_letter_13 (by decide) ?_
    exact s_iret dL_letter_14 rfl
  · refine s_astoren (lv' := [(3, .inr (.inr (some q3))), (0, .inr (.inr v0)), (1, .inl v1), (2, .inr (.inr v2))]) dL_letter_15 (Nat.le_of_ble_eq_true rfl) rfl ?_
    refine s_iconst (v := 2) dL_letter_16 (by decide) ?_
    exact s_iret dL_letter_17 rfl
theorem met_L_letter (l : Launch) (hfl : l.stackTraces = false) (v0 : Option Nat) (v1 : Int32) (v2 : Option Nat) : zMetH l yL_letter cL_letter 4 (some .int) [(0, 9, 12, 13), (0, 9, 15, 15)] 9 141 [.inr (.inr v0), .inl v1, .inr (.inr v2)] zcI (p_L_letter v0 v1 v2) :=
  zMetH.of (by decide +kernel) (Nat.le_of_ble_eq_true rfl) rfl (sim_L_letter l hfl v0 v1 v2)
def p_L_stem (v0 : Option Nat) (v1 : Int32) (v2 : Int32) (v3 : Int32) (v4 : Int32) (v5 : Option Nat) : ZM Int32 :=
  z_bx (z_vr 12 v0 (p_X11_stem v0 v1 v2 v3 v4)) (fun x1 => z_b (z_sL v5 0 (Int32.toInt64 x1)) fun _ => z_rt 0) (z_h2 0 1 (z_rt 1) (z_rt 2))
abbrev M_L_stem (l : Launch) : ZMe := (l, "SpellScribeLaw", cL_stem, 7, 10, 287, (some .int), "stem", tableOf [(0, 14, 17, 13), (0, 14, 21, 15)])
set_option maxRecDepth 20000 in
theorem sim_L_stem (l : Launch) (hfl : l.stackTraces = false) (v0 : Option Nat) (v1 : Int32) (v2 : Int32) (v3 : Int32) (v4 : Int32) (v5 : Option Nat) : Sim (M_L_stem l) (zFin zcI) 0 [(0, .inr (.inr v0)), (1, .inl v1), (2, .inl v2), (3, .inl v3), (4, .inl v4), (5, .inr (.inr v5))] [] (p_L_stem v0 v1 v2 v3 v4 v5) := by
  unfold p_L_stem
  refine s_aload (j := 5) dL_stem_0 rfl ?_
  refine s_iconst (v := 0) dL_stem_2 (by decide) ?_
  refine s_aloadn (j := 0) dL_stem_3 rfl ?_
  refine s_iloadn (j := 1) dL_stem_4 rfl ?_
  refine s_iloadn (j := 2) dL_stem_5 rfl ?_
  refine s_iloadn (j := 3) dL_stem_6 rfl ?_
  refine s_iload (j := 4) dL_stem_7 rfl ?_
  refine s_callVX (rest := [.inl 0, .inr (.inr v5)]) (st' := fun x => .inl x :: [.inl 0, .inr (.inr v5)]) (met_X11_stem l hfl v0 v1 v2 v3 v4) cls_12 mth_X11_stem rfl dL_stem_9 w_800 w_801 w_802 ⟨Nat.le_of_ble_eq_true rfl, Nat.le_of_ble_eq_true rfl⟩ (Nat.le_of_ble_eq_true rfl) rfl (fun _ => rfl) (fun x1 => ?_) (s_h2 ⟨[], _, _, rfl, fun _ h => absurd h List.not_mem_nil, by decide, by decide, w_705, by decide, rfl⟩ ⟨[_], _, _, rfl, List.forall_mem_cons.mpr ⟨Or.inr ⟨by decide, 0, by decide, by decide, w_705⟩, fun _ h => absurd h List.not_mem_nil⟩, by decide, by decide, w_706, by decide, rfl⟩ (fun q2 => ?_) (fun q3 => ?_))
  · refine s_i2l dL_stem_12 ?_
    refine s_last dL_stem_13 ?_
    refine s_goto (tgt := 25) dL_stem_14 (by decide) ?_
    refine s_iconst (v := 0) dL_stem_25 (by decide) ?_
    exact s_iret dL_stem_26 rfl
  · refine s_astore (lv' := [(6, .inr (.inr (some q2))), (0, .inr (.inr v0)), (1, .inl v1), (2, .inl v2), (3, .inl v3), (4, .inl v4), (5, .inr (.inr v5))]) dL_stem_17 (Nat.le_of_ble_eq_true rfl) rfl ?_
    refine s_iconst (v := 1) dL_stem_19 (by decide) ?_
    exact s_iret dL_stem_20 rfl
  · refine s_astore (lv' := [(6, .inr (.inr (some q3))), (0, .inr (.inr v0)), (1, .inl v1), (2, .inl v2), (3, .inl v3), (4, .inl v4), (5, .inr (.inr v5))]) dL_stem_21 (Nat.le_of_ble_eq_true rfl) rfl ?_
    refine s_iconst (v := 2) dL_stem_23 (by decide) ?_
    exact s_iret dL_stem_24 rfl
theorem met_L_stem (l : Launch) (hfl : l.stackTraces = false) (v0 : Option Nat) (v1 : Int32) (v2 : Int32) (v3 : Int32) (v4 : Int32) (v5 : Option Nat) : zMetH l yL_stem cL_stem 7 (some .int) [(0, 14, 17, 13), (0, 14, 21, 15)] 10 287 [.inr (.inr v0), .inl v1, .inl v2, .inl v3, .inl v4, .inr (.inr v5)] zcI (p_L_stem v0 v1 v2 v3 v4 v5) :=
  zMetH.of (by decide +kernel) (Nat.le_of_ble_eq_true rfl) rfl (sim_L_stem l hfl v0 v1 v2 v3 v4 v5)
def p_L_rule (v0 : Option Nat) (v1 : Int32) (v2 : Int32) (v3 : Int32) (v4 : Int32) (v5 : Int32) (v6 : Int32) (v7 : Option Nat) : ZM Int32 :=
  z_bx (z_vr 12 v0 (p_X11_rule v0 v1 v2 v3 v4 v5 v6)) (fun x1 => z_b (z_sL v7 0 (Int32.toInt64 x1)) fun _ => z_rt 0) (z_h2 0 1 (z_rt 1) (z_rt 2))
abbrev M_L_rule (l : Launch) : ZMe := (l, "SpellScribeLaw", cL_rule, 9, 10, 292, (some .int), "rule", tableOf [(0, 18, 21, 13), (0, 18, 25, 15)])
set_option maxRecDepth 20000 in
theorem sim_L_rule (l : Launch) (hfl : l.stackTraces = false) (v0 : Option Nat) (v1 : Int32) (v2 : Int32) (v3 : Int32) (v4 : Int32) (v5 : Int32) (v6 : Int32) (v7 : Option Nat) : Sim (M_L_rule l) (zFin zcI) 0 [(0, .inr (.inr v0)), (1, .inl v1), (2, .inl v2), (3, .inl v3), (4, .inl v4), (5, .inl v5), (6, .inl v6), (7, .inr (.inr v7))] [] (p_L_rule v0 v1 v2 v3 v4 v5 v6 v7) := by
  unfold p_L_rule
  refine s_aload (j := 7) dL_rule_0 rfl ?_
  refine s_iconst (v := 0) dL_rule_2 (by decide) ?_
  refine s_aloadn (j := 0) dL_rule_3 rfl ?_
  refine s_iloadn (j := 1) dL_rule_4 rfl ?_
  refine s_iloadn (j := 2) dL_rule_5 rfl ?_
  refine s_iloadn (j := 3) dL_rule_6 rfl ?_
  refine s_iload (j := 4) dL_rule_7 rfl ?_
  refine s_iload (j := 5) dL_rule_9 rfl ?_
  refine s_iload (j := 6) dL_rule_11 rfl ?_
  refine s_callVX (rest := [.inl 0, .inr (.inr v7)]) (st' := fun x => .inl x :: [.inl 0, .inr (.inr v7)]) (met_X11_rule l hfl v0 v1 v2 v3 v4 v5 v6) cls_12 mth_X11_rule rfl dL_rule_13 w_981 w_982 w_983 ⟨Nat.le_of_ble_eq_true rfl, Nat.le_of_ble_eq_true rfl⟩ (Nat.le_of_ble_eq_true rfl) rfl (fun _ => rfl) (fun x1 => ?_) (s_h2 ⟨[], _, _, rfl, fun _ h => absurd h List.not_mem_nil, by decide, by decide, w_705, by decide, rfl⟩ ⟨[_], _, _, rfl, List.forall_mem_cons.mpr ⟨Or.inr ⟨by decide, 0, by decide, by decide, w_705⟩, fun _ h => absurd h List.not_mem_nil⟩, by decide, by decide, w_706, by decide, rfl⟩ (fun q2 => ?_) (fun q3 => ?_))
  · refine s_i2l dL_rule_16 ?_
    refine s_last dL_rule_17 ?_
    refine s_goto (tgt := 29) dL_rule_18 (by decide) ?_
    refine s_iconst (v := 0) dL_rule_29 (by decide) ?_
    exact s_iret dL_rule_30 rfl
  · refine s_astore (lv' := [(8, .inr (.inr (some q2))), (0, .inr (.inr v0)), (1, .inl v1), (2, .inl v2), (3, .inl v3), (4, .inl v4), (5, .inl v5), (6, .inl v6), (7, .inr (.inr v7))]) dL_rule_21 (Nat.le_of_ble_eq_true rfl) rfl ?_
    refine s_iconst (v := 1) dL_rule_23 (by decide) ?_
    exact s_iret dL_rule_24 rfl
  · refine s_astore (lv' := [(8, .inr (.inr (some q3))), (0, .inr (.inr v0)), (1, .inl v1), (2, .inl v2), (3, .inl v3), (4, .inl v4), (5, .inl v5), (6, .inl v6), (7, .inr (.inr v7))]) dL_rule_25 (Nat.le_of_ble_eq_true rfl) rfl ?_
    refine s_iconst (v := 2) dL_rule_27 (by decide) ?_
    exact s_iret dL_rule_28 rfl
theorem met_L_rule (l : Launch) (hfl : l.stackTraces = false) (v0 : Option Nat) (v1 : Int32) (v2 : Int32) (v3 : Int32) (v4 : Int32) (v5 : Int32) (v6 : Int32) (v7 : Option Nat) : zMetH l yL_rule cL_rule 9 (some .int) [(0, 18, 21, 13), (0, 18, 25, 15)] 10 292 [.inr (.inr v0), .inl v1, .inl v2, .inl v3, .inl v4, .inl v5, .inl v6, .inr (.inr v7)] zcI (p_L_rule v0 v1 v2 v3 v4 v5 v6 v7) :=
  zMetH.of (by decide +kernel) (Nat.le_of_ble_eq_true rfl) rfl (sim_L_rule l hfl v0 v1 v2 v3 v4 v5 v6 v7)
def p_L_more (v0 : Option Nat) (v1 : Int32) (v2 : Int32) (v3 : Option Nat) : ZM Int32 :=
  z_bx (z_vr 12 v0 (p_X11_more v0 v1 v2)) (fun x1 => z_b (z_sL v3 0 (Int32.toInt64 x1)) fun _ => z_rt 0) (z_h3 2 0 1 (z_rt 1) (z_rt 2) (z_rt 3))
abbrev M_L_more (l : Launch) : ZMe := (l, "SpellScribeLaw", cL_more, 5, 9, 248, (some .int), "more", tableOf [(0, 10, 13, 29), (0, 10, 17, 13), (0, 10, 21, 15)])
set_option maxRecDepth 20000 in
theorem sim_L_more (l : Launch) (hfl : l.stackTraces = false) (v0 : Option Nat) (v1 : Int32) (v2 : Int32) (v3 : Option Nat) : Sim (M_L_more l) (zFin zcI) 0 [(0, .inr (.inr v0)), (1, .inl v1), (2, .inl v2), (3, .inr (.inr v3))] [] (p_L_more v0 v1 v2 v3) := by
  unfold p_L_more
  refine s_aloadn (j := 3) dL_more_0 rfl ?_
  refine s_iconst (v := 0) dL_more_1 (by decide) ?_
  refine s_aloadn (j := 0) dL_more_2 rfl ?_
  refine s_iloadn (j := 1) dL_more_3 rfl ?_
  refine s_iloadn (j := 2) dL_more_4 rfl ?_
  refine s_callVX (rest := [.inl 0, .inr (.inr v3)]) (st' := fun x => .inl x :: [.inl 0, .inr (.inr v3)]) (met_X11_more l hfl v0 v1 v2) cls_12 mth_X11_more rfl dL_more_5 w_1032 w_1033 w_1034 ⟨Nat.le_of_ble_eq_true rfl, Nat.le_of_ble_eq_true rfl⟩ (Nat.le_of_ble_eq_true rfl) rfl (fun _ => rfl) (fun x1 => ?_) (s_h3 ⟨[], _, _, rfl, fun _ h => absurd h List.not_mem_nil, by decide, by decide, w_1031, by decide, rfl⟩ ⟨[_], _, _, rfl, List.forall_mem_cons.mpr ⟨Or.inr ⟨by decide, 2, by decide, by decide, w_1031⟩, fun _ h => absurd h List.not_mem_nil⟩, by decide, by decide, w_705, by decide, rfl⟩ ⟨[_, _], _, _, rfl, List.forall_mem_cons.mpr ⟨Or.inr ⟨by decide, 2, by decide, by decide, w_1031⟩, List.forall_mem_cons.mpr ⟨Or.inr ⟨by decide, 0, by decide, by decide, w_705⟩, fun _ h => absurd h List.not_mem_nil⟩⟩, by decide, by decide, w_706, by decide, rfl⟩ (fun q2 => ?_) (fun q3 => ?_) (fun q4 => ?_))
  · refine s_i2l dL_more_8 ?_
    refine s_last dL_more_9 ?_
    refine s_goto (tgt := 25) dL_more_10 (by decide) ?_
    refine s_iconst (v := 0) dL_more_25 (by decide) ?_
    exact s_iret dL_more_26 rfl
  · refine s_astore (lv' := [(4, .inr (.inr (some q2))), (0, .inr (.inr v0)), (1, .inl v1), (2, .inl v2), (3, .inr (.inr v3))]) dL_more_13 (Nat.le_of_ble_eq_true rfl) rfl ?_
    refine s_iconst (v := 1) dL_more_15 (by decide) ?_
    exact s_iret dL_more_16 rfl
  · refine s_astore (lv' := [(4, .inr (.inr (some q3))), (0, .inr (.inr v0)), (1, .inl v1), (2, .inl v2), (3, .inr (.inr v3))]) dL_more_17 (Nat.le_of_ble_eq_true rfl) rfl ?_
    refine s_iconst (v := 2) dL_more_19 (by decide) ?_
    exact s_iret dL_more_20 rfl
  · refine s_astore (lv' := [(4, .inr (.inr (some q4))), (0, .inr (.inr v0)), (1, .inl v1), (2, .inl v2), (3, .inr (.inr v3))]) dL_more_21 (Nat.le_of_ble_eq_true rfl) rfl ?_
    refine s_iconst (v := 3) dL_more_23 (by decide) ?_
    exact s_iret dL_more_24 rfl
theorem met_L_more (l : Launch) (hfl : l.stackTraces = false) (v0 : Option Nat) (v1 : Int32) (v2 : Int32) (v3 : Option Nat) : zMetH l yL_more cL_more 5 (some .int) [(0, 10, 13, 29), (0, 10, 17, 13), (0, 10, 21, 15)] 9 248 [.inr (.inr v0), .inl v1, .inl v2, .inr (.inr v3)] zcI (p_L_more v0 v1 v2 v3) :=
  zMetH.of (by decide +kernel) (Nat.le_of_ble_eq_true rfl) rfl (sim_L_more l hfl v0 v1 v2 v3)
def p_L_sound_b16 (s0 : Option Nat) (s1 : Int32) (s2 : Int64) : ZM Int32 :=
  z_b (z_sL s0 s1 s2) fun _ => z_rt 0
def p_L_sound (v0 : Option Nat) (v1 : Int32) (v2 : Int32) (v3 : Option Nat) : ZM Int32 :=
  z_bx (z_vr 12 v0 (p_X11_sound v0 v1 v2)) (fun x1 => if x1 = 0 then (p_L_sound_b16 v3 0 0)
  else (p_L_sound_b16 v3 0 1)) (z_h1 0 (z_rt 1))
abbrev M_L_sound (l : Launch) : ZMe := (l, "SpellScribeLaw", cL_sound, 5, 9, 143, (some .int), "sound", tableOf [(0, 17, 20, 13)])
set_option maxRecDepth 20000 in
theorem sim_L_sound_b16 (l : Launch) (hfl : l.stackTraces = false) (s0 : Option Nat) (s1 : Int32) (s2 : Int64) : Sim (M_L_sound l) (zFin zcI) 16 [] [.inr (.inl s2), .inl s1, .inr (.inr s0)] (p_L_sound_b16 s0 s1 s2) := by
  unfold p_L_sound_b16
  refine s_last dL_sound_16 ?_
  refine s_goto (tgt := 24) dL_sound_17 (by decide) ?_
  refine s_iconst (v := 0) dL_sound_24 (by decide) ?_
  exact s_iret dL_sound_25 rfl
set_option maxRecDepth 20000 in
theorem sim_L_sound (l : Launch) (hfl : l.stackTraces = false) (v0 : Option Nat) (v1 : Int32) (v2 : Int32) (v3 : Option Nat) : Sim (M_L_sound l) (zFin zcI) 0 [(0, .inr (.inr v0)), (1, .inl v1), (2, .inl v2), (3, .inr (.inr v3))] [] (p_L_sound v0 v1 v2 v3) := by
  unfold p_L_sound
  refine s_aloadn (j := 3) dL_sound_0 rfl ?_
  refine s_iconst (v := 0) dL_sound_1 (by decide) ?_
  refine s_aloadn (j := 0) dL_sound_2 rfl ?_
  refine s_iloadn (j := 1) dL_sound_3 rfl ?_
  refine s_iloadn (j := 2) dL_sound_4 rfl ?_
  refine s_callVX (rest := [.inl 0, .inr (.inr v3)]) (st' := fun x => .inl x :: [.inl 0, .inr (.inr v3)]) (met_X11_sound l hfl v0 v1 v2) cls_12 mth_X11_sound rfl dL_sound_5 w_1062 w_1063 w_1064 ⟨Nat.le_of_ble_eq_true rfl, Nat.le_of_ble_eq_true rfl⟩ (Nat.le_of_ble_eq_true rfl) rfl (fun _ => rfl) (fun x1 => ?_) (s_h1 ⟨[], _, _, rfl, fun _ h => absurd h List.not_mem_nil, by decide, by decide, w_705, by decide, rfl⟩ (fun q2 => ?_))
  · refine s_if_eq (tgt := 15) dL_sound_8 (by decide) ?_ ?_
    · refine s_lconst (v := 0) dL_sound_15 (by decide) ?_
      exact Sim.sub [] rfl (sim_L_sound_b16 l hfl v3 0 0)
    · refine s_lconst (v := 1) dL_sound_11 (by decide) ?_
      refine s_goto (tgt := 16) dL_sound_12 (by decide) ?_
      exact Sim.sub [] rfl (sim_L_sound_b16 l hfl v3 0 1)
  · refine s_astore (lv' := [(4, .inr (.inr (some q2))), (0, .inr (.inr v0)), (1, .inl v1), (2, .inl v2), (3, .inr (.inr v3))]) dL_sound_20 (Nat.le_of_ble_eq_true rfl) rfl ?_
    refine s_iconst (v := 1) dL_sound_22 (by decide) ?_
    exact s_iret dL_sound_23 rfl
theorem met_L_sound (l : Launch) (hfl : l.stackTraces = false) (v0 : Option Nat) (v1 : Int32) (v2 : Int32) (v3 : Option Nat) : zMetH l yL_sound cL_sound 5 (some .int) [(0, 17, 20, 13)] 9 143 [.inr (.inr v0), .inl v1, .inl v2, .inr (.inr v3)] zcI (p_L_sound v0 v1 v2 v3) :=
  zMetH.of (by decide +kernel) (Nat.le_of_ble_eq_true rfl) rfl (sim_L_sound l hfl v0 v1 v2 v3)
def p_L_own (v0 : Option Nat) (v1 : Int32) (v2 : Int32) (v3 : Option Nat) : ZM Int32 :=
  z_bx (z_vr 12 v0 (p_X11_own v0 v1 v2)) (fun x1 => z_b (z_sL v3 0 (Int32.toInt64 x1)) fun _ => z_rt 0) (z_h2 0 1 (z_rt 1) (z_rt 2))
abbrev M_L_own (l : Launch) : ZMe := (l, "SpellScribeLaw", cL_own, 5, 9, 155, (some .int), "own", tableOf [(0, 10, 13, 13), (0, 10, 17, 15)])
set_option maxRecDepth 20000 in
theorem sim_L_own (l : Launch) (hfl : l.stackTraces = false) (v0 : Option Nat) (v1 : Int32) (v2 : Int32) (v3 : Option Nat) : Sim (M_L_own l) (zFin zcI) 0 [(0, .inr (.inr v0)), (1, .inl v1), (2, .inl v2), (3, .inr (.inr v3))] [] (p_L_own v0 v1 v2 v3) := by
  unfold p_L_own
  refine s_aloadn (j := 3) dL_own_0 rfl ?_
  refine s_iconst (v := 0) dL_own_1 (by decide) ?_
  refine s_aloadn (j := 0) dL_own_2 rfl ?_
  refine s_iloadn (j := 1) dL_own_3 rfl ?_
  refine s_iloadn (j := 2) dL_own_4 rfl ?_
  refine s_callVX (rest := [.inl 0, .inr (.inr v3)]) (st' := fun x => .inl x :: [.inl 0, .inr (.inr v3)]) (met_X11_own l hfl v0 v1 v2) cls_12 mth_X11_own rfl dL_own_5 w_1074 w_1075 w_1076 ⟨Nat.le_of_ble_eq_true rfl, Nat.le_of_ble_eq_true rfl⟩ (Nat.le_of_ble_eq_true rfl) rfl (fun _ => rfl) (fun x1 => ?_) (s_h2 ⟨[], _, _, rfl, fun _ h => absurd h List.not_mem_nil, by decide, by decide, w_705, by decide, rfl⟩ ⟨[_], _, _, rfl, List.forall_mem_cons.mpr ⟨Or.inr ⟨by decide, 0, by decide, by decide, w_705⟩, fun _ h => absurd h List.not_mem_nil⟩, by decide, by decide, w_706, by decide, rfl⟩ (fun q2 => ?_) (fun q3 => ?_))
  · refine s_i2l dL_own_8 ?_
    refine s_last dL_own_9 ?_
    refine s_goto (tgt := 21) dL_own_10 (by decide) ?_
    refine s_iconst (v := 0) dL_own_21 (by decide) ?_
    exact s_iret dL_own_22 rfl
  · refine s_astore (lv' := [(4, .inr (.inr (some q2))), (0, .inr (.inr v0)), (1, .inl v1), (2, .inl v2), (3, .inr (.inr v3))]) dL_own_13 (Nat.le_of_ble_eq_true rfl) rfl ?_
    refine s_iconst (v := 1) dL_own_15 (by decide) ?_
    exact s_iret dL_own_16 rfl
  · refine s_astore (lv' := [(4, .inr (.inr (some q3))), (0, .inr (.inr v0)), (1, .inl v1), (2, .inl v2), (3, .inr (.inr v3))]) dL_own_17 (Nat.le_of_ble_eq_true rfl) rfl ?_
    refine s_iconst (v := 2) dL_own_19 (by decide) ?_
    exact s_iret dL_own_20 rfl
theorem met_L_own (l : Launch) (hfl : l.stackTraces = false) (v0 : Option Nat) (v1 : Int32) (v2 : Int32) (v3 : Option Nat) : zMetH l yL_own cL_own 5 (some .int) [(0, 10, 13, 13), (0, 10, 17, 15)] 9 155 [.inr (.inr v0), .inl v1, .inl v2, .inr (.inr v3)] zcI (p_L_own v0 v1 v2 v3) :=
  zMetH.of (by decide +kernel) (Nat.le_of_ble_eq_true rfl) rfl (sim_L_own l hfl v0 v1 v2 v3)
def p_L_bar (v0 : Option Nat) (v1 : Option Nat) : ZM Int32 :=
  z_bx (z_vr 12 v0 (p_X11_bar v0)) (fun x1 => z_b (z_sL v1 0 (Int32.toInt64 x1)) fun _ => z_rt 0) (z_h1 1 (z_rt 1))
abbrev M_L_bar (l : Launch) : ZMe := (l, "SpellScribeLaw", cL_bar, 3, 9, 152, (some .int), "bar", tableOf [(0, 8, 11, 15)])
set_option maxRecDepth 20000 in
theorem sim_L_bar (l : Launch) (hfl : l.stackTraces = false) (v0 : Option Nat) (v1 : Option Nat) : Sim (M_L_bar l) (zFin zcI) 0 [(0, .inr (.inr v0)), (1, .inr (.inr v1))] [] (p_L_bar v0 v1) := by
  unfold p_L_bar
  refine s_aloadn (j := 1) dL_bar_0 rfl ?_
  refine s_iconst (v := 0) dL_bar_1 (by decide) ?_
  refine s_aloadn (j := 0) dL_bar_2 rfl ?_
  refine s_callVX (rest := [.inl 0, .inr (.inr v1)]) (st' := fun x => .inl x :: [.inl 0, .inr (.inr v1)]) (met_X11_bar l hfl v0) cls_12 mth_X11_bar rfl dL_bar_3 w_1101 w_1102 w_1103 ⟨Nat.le_of_ble_eq_true rfl, Nat.le_of_ble_eq_true rfl⟩ (Nat.le_of_ble_eq_true rfl) rfl (fun _ => rfl) (fun x1 => ?_) (s_h1 ⟨[], _, _, rfl, fun _ h => absurd h List.not_mem_nil, by decide, by decide, w_706, by decide, rfl⟩ (fun q2 => ?_))
  · refine s_i2l dL_bar_6 ?_
    refine s_last dL_bar_7 ?_
    refine s_goto (tgt := 14) dL_bar_8 (by decide) ?_
    refine s_iconst (v := 0) dL_bar_14 (by decide) ?_
    exact s_iret dL_bar_15 rfl
  · refine s_astoren (lv' := [(2, .inr (.inr (some q2))), (0, .inr (.inr v0)), (1, .inr (.inr v1))]) dL_bar_11 (Nat.le_of_ble_eq_true rfl) rfl ?_
    refine s_iconst (v := 1) dL_bar_12 (by decide) ?_
    exact s_iret dL_bar_13 rfl
theorem met_L_bar (l : Launch) (hfl : l.stackTraces = false) (v0 : Option Nat) (v1 : Option Nat) : zMetH l yL_bar cL_bar 3 (some .int) [(0, 8, 11, 15)] 9 152 [.inr (.inr v0), .inr (.inr v1)] zcI (p_L_bar v0 v1) :=
  zMetH.of (by decide +kernel) (Nat.le_of_ble_eq_true rfl) rfl (sim_L_bar l hfl v0 v1)
def p_L_ignore (v0 : Option Nat) (v1 : Int32) (v2 : Option Nat) : ZM Int32 :=
  z_bx (z_vr 12 v0 (p_X11_ignore v0 v1)) (fun x1 => z_b (z_sL v2 0 (Int32.toInt64 x1)) fun _ => z_rt 0) (z_h2 2 1 (z_rt 1) (z_rt 2))
abbrev M_L_ignore (l : Launch) : ZMe := (l, "SpellScribeLaw", cL_ignore, 4, 9, 244, (some .int), "ignore", tableOf [(0, 9, 12, 29), (0, 9, 15, 15)])
set_option maxRecDepth 20000 in
theorem sim_L_ignore (l : Launch) (hfl : l.stackTraces = false) (v0 : Option Nat) (v1 : Int32) (v2 : Option Nat) : Sim (M_L_ignore l) (zFin zcI) 0 [(0, .inr (.inr v0)), (1, .inl v1), (2, .inr (.inr v2))] [] (p_L_ignore v0 v1 v2) := by
  unfold p_L_ignore
  refine s_aloadn (j := 2) dL_ignore_0 rfl ?_
  refine s_iconst (v := 0) dL_ignore_1 (by decide) ?_
  refine s_aloadn (j := 0) dL_ignore_2 rfl ?_
  refine s_iloadn (j := 1) dL_ignore_3 rfl ?_
  refine s_callVX (rest := [.inl 0, .inr (.inr v2)]) (st' := fun x => .inl x :: [.inl 0, .inr (.inr v2)]) (met_X11_ignore l hfl v0 v1) cls_12 mth_X11_ignore rfl dL_ignore_4 w_1121 w_1122 w_1123 ⟨Nat.le_of_ble_eq_true rfl, Nat.le_of_ble_eq_true rfl⟩ (Nat.le_of_ble_eq_true rfl) rfl (fun _ => rfl) (fun x1 => ?_) (s_h2 ⟨[], _, _, rfl, fun _ h => absurd h List.not_mem_nil, by decide, by decide, w_1031, by decide, rfl⟩ ⟨[_], _, _, rfl, List.forall_mem_cons.mpr ⟨Or.inr ⟨by decide, 2, by decide, by decide, w_1031⟩, fun _ h => absurd h List.not_mem_nil⟩, by decide, by decide, w_706, by decide, rfl⟩ (fun q2 => ?_) (fun q3 => ?_))
  · refine s_i2l dL_ignore_7 ?_
    refine s_last dL_ignore_8 ?_
    refine s_goto (tgt := 18) dL_ignore_9 (by decide) ?_
    refine s_iconst (v := 0) dL_ignore_18 (by decide) ?_
    exact s_iret dL_ignore_19 rfl
  · refine s_astoren (lv' := [(3, .inr (.inr (some q2))), (0, .inr (.inr v0)), (1, .inl v1), (2, .inr (.inr v2))]) dL_ignore_12 (Nat.le_of_ble_eq_true rfl) rfl ?_
    refine s_iconst (v := 1) dL_ignore_13 (by decide) ?_
    exact s_iret dL_ignore_14 rfl
  · refine s_astoren (lv' := [(3, .inr (.inr (some q3))), (0, .inr (.inr v0)), (1, .inl v1), (2, .inr (.inr v2))]) dL_ignore_15 (Nat.le_of_ble_eq_true rfl) rfl ?_
    refine s_iconst (v := 2) dL_ignore_16 (by decide) ?_
    exact s_iret dL_ignore_17 rfl
theorem met_L_ignore (l : Launch) (hfl : l.stackTraces = false) (v0 : Option Nat) (v1 : Int32) (v2 : Option Nat) : zMetH l yL_ignore cL_ignore 4 (some .int) [(0, 9, 12, 29), (0, 9, 15, 15)] 9 244 [.inr (.inr v0), .inl v1, .inr (.inr v2)] zcI (p_L_ignore v0 v1 v2) :=
  zMetH.of (by decide +kernel) (Nat.le_of_ble_eq_true rfl) rfl (sim_L_ignore l hfl v0 v1 v2)
def p_L_tell (v0 : Option Nat) (v1 : Int32) (v2 : Int32) (v3 : Int32) (v4 : Option Nat) : ZM Int32 :=
  z_bx (z_vr 12 v0 (p_X11_tell v0 v1 v2 v3)) (fun x1 => z_b (z_sL v4 0 (Int32.toInt64 x1)) fun _ => z_rt 0) (z_h1 0 (z_rt 1))
abbrev M_L_tell (l : Launch) : ZMe := (l, "SpellScribeLaw", cL_tell, 6, 9, 143, (some .int), "tell", tableOf [(0, 12, 15, 13)])
set_option maxRecDepth 20000 in
theorem sim_L_tell (l : Launch) (hfl : l.stackTraces = false) (v0 : Option Nat) (v1 : Int32) (v2 : Int32) (v3 : Int32) (v4 : Option Nat) : Sim (M_L_tell l) (zFin zcI) 0 [(0, .inr (.inr v0)), (1, .inl v1), (2, .inl v2), (3, .inl v3), (4, .inr (.inr v4))] [] (p_L_tell v0 v1 v2 v3 v4) := by
  unfold p_L_tell
  refine s_aload (j := 4) dL_tell_0 rfl ?_
  refine s_iconst (v := 0) dL_tell_2 (by decide) ?_
  refine s_aloadn (j := 0) dL_tell_3 rfl ?_
  refine s_iloadn (j := 1) dL_tell_4 rfl ?_
  refine s_iloadn (j := 2) dL_tell_5 rfl ?_
  refine s_iloadn (j := 3) dL_tell_6 rfl ?_
  refine s_callVX (rest := [.inl 0, .inr (.inr v4)]) (st' := fun x => .inl x :: [.inl 0, .inr (.inr v4)]) (met_X11_tell l hfl v0 v1 v2 v3) cls_12 mth_X11_tell rfl dL_tell_7 w_1138 w_1139 w_1140 ⟨Nat.le_of_ble_eq_true rfl, Nat.le_of_ble_eq_true rfl⟩ (Nat.le_of_ble_eq_true rfl) rfl (fun _ => rfl) (fun x1 => ?_) (s_h1 ⟨[], _, _, rfl, fun _ h => absurd h List.not_mem_nil, by decide, by decide, w_705, by decide, rfl⟩ (fun q2 => ?_))
  · refine s_i2l dL_tell_10 ?_
    refine s_last dL_tell_11 ?_
    refine s_goto (tgt := 19) dL_tell_12 (by decide) ?_
    refine s_iconst (v := 0) dL_tell_19 (by decide) ?_
    exact s_iret dL_tell_20 rfl
  · refine s_astore (lv' := [(5, .inr (.inr (some q2))), (0, .inr (.inr v0)), (1, .inl v1), (2, .inl v2), (3, .inl v3), (4, .inr (.inr v4))]) dL_tell_15 (Nat.le_of_ble_eq_true rfl) rfl ?_
    refine s_iconst (v := 1) dL_tell_17 (by decide) ?_
    exact s_iret dL_tell_18 rfl
theorem met_L_tell (l : Launch) (hfl : l.stackTraces = false) (v0 : Option Nat) (v1 : Int32) (v2 : Int32) (v3 : Int32) (v4 : Option Nat) : zMetH l yL_tell cL_tell 6 (some .int) [(0, 12, 15, 13)] 9 143 [.inr (.inr v0), .inl v1, .inl v2, .inl v3, .inr (.inr v4)] zcI (p_L_tell v0 v1 v2 v3 v4) :=
  zMetH.of (by decide +kernel) (Nat.le_of_ble_eq_true rfl) rfl (sim_L_tell l hfl v0 v1 v2 v3 v4)
def p_L_item (v0 : Option Nat) (v1 : Int32) (v2 : Option Nat) : ZM Int32 :=
  z_bx (z_vr 12 v0 (p_X11_item v0 v1)) (fun x1 => z_b (z_sL v2 0 (Int32.toInt64 x1)) fun _ => z_rt 0) (z_h2 0 1 (z_rt 1) (z_rt 2))
abbrev M_L_item (l : Launch) : ZMe := (l, "SpellScribeLaw", cL_item, 4, 9, 141, (some .int), "item", tableOf [(0, 9, 12, 13), (0, 9, 15, 15)])
set_option maxRecDepth 20000 in
theorem sim_L_item (l : Launch) (hfl : l.stackTraces = false) (v0 : Option Nat) (v1 : Int32) (v2 : Option Nat) : Sim (M_L_item l) (zFin zcI) 0 [(0, .inr (.inr v0)), (1, .inl v1), (2, .inr (.inr v2))] [] (p_L_item v0 v1 v2) := by
  unfold p_L_item
  refine s_aloadn (j := 2) dL_item_0 rfl ?_
  refine s_iconst (v := 0) dL_item_1 (by decide) ?_
  refine s_aloadn (j := 0) dL_item_2 rfl ?_
  refine s_iloadn (j := 1) dL_item_3 rfl ?_
  refine s_callVX (rest := [.inl 0, .inr (.inr v2)]) (st' := fun x => .inl x :: [.inl 0, .inr (.inr v2)]) (met_X11_item l hfl v0 v1) cls_12 mth_X11_item rfl dL_item_4 w_1150 w_1151 w_1152 ⟨Nat.le_of_ble_eq_true rfl, Nat.le_of_ble_eq_true rfl⟩ (Nat.le_of_ble_eq_true rfl) rfl (fun _ => rfl) (fun x1 => ?_) (s_h2 ⟨[], _, _, rfl, fun _ h => absurd h List.not_mem_nil, by decide, by decide, w_705, by decide, rfl⟩ ⟨[_], _, _, rfl, List.forall_mem_cons.mpr ⟨Or.inr ⟨by decide, 0, by decide, by decide, w_705⟩, fun _ h => absurd h List.not_mem_nil⟩, by decide, by decide, w_706, by decide, rfl⟩ (fun q2 => ?_) (fun q3 => ?_))
  · refine s_i2l dL_item_7 ?_
    refine s_last dL_item_8 ?_
    refine s_goto (tgt := 18) dL_item_9 (by decide) ?_
    refine s_iconst (v := 0) dL_item_18 (by decide) ?_
    exact s_iret dL_item_19 rfl
  · refine s_astoren (lv' := [(3, .inr (.inr (some q2))), (0, .inr (.inr v0)), (1, .inl v1), (2, .inr (.inr v2))]) dL_item_12 (Nat.le_of_ble_eq_true rfl) rfl ?_
    refine s_iconst (v := 1) dL_item_13 (by decide) ?_
    exact s_iret dL_item_14 rfl
  · refine s_astoren (lv' := [(3, .inr (.inr (some q3))), (0, .inr (.inr v0)), (1, .inl v1), (2, .inr (.inr v2))]) dL_item_15 (Nat.le_of_ble_eq_true rfl) rfl ?_
    refine s_iconst (v := 2) dL_item_16 (by decide) ?_
    exact s_iret dL_item_17 rfl
theorem met_L_item (l : Launch) (hfl : l.stackTraces = false) (v0 : Option Nat) (v1 : Int32) (v2 : Option Nat) : zMetH l yL_item cL_item 4 (some .int) [(0, 9, 12, 13), (0, 9, 15, 15)] 9 141 [.inr (.inr v0), .inl v1, .inr (.inr v2)] zcI (p_L_item v0 v1 v2) :=
  zMetH.of (by decide +kernel) (Nat.le_of_ble_eq_true rfl) rfl (sim_L_item l hfl v0 v1 v2)
def p_L_style (v0 : Option Nat) (v1 : Int32) (v2 : Option Nat) : ZM Int32 :=
  z_bx (z_vr 12 v0 (p_X11_style v0 v1)) (fun x1 => z_b (z_sL v2 0 (Int32.toInt64 x1)) fun _ => z_rt 0) (z_h2 1 2 (z_rt 1) (z_rt 2))
abbrev M_L_style (l : Launch) : ZMe := (l, "SpellScribeLaw", cL_style, 4, 9, 262, (some .int), "style", tableOf [(0, 9, 12, 15), (0, 9, 15, 29)])
set_option maxRecDepth 20000 in
theorem sim_L_style (l : Launch) (hfl : l.stackTraces = false) (v0 : Option Nat) (v1 : Int32) (v2 : Option Nat) : Sim (M_L_style l) (zFin zcI) 0 [(0, .inr (.inr v0)), (1, .inl v1), (2, .inr (.inr v2))] [] (p_L_style v0 v1 v2) := by
  unfold p_L_style
  refine s_aloadn (j := 2) dL_style_0 rfl ?_
  refine s_iconst (v := 0) dL_style_1 (by decide) ?_
  refine s_aloadn (j := 0) dL_style_2 rfl ?_
  refine s_iloadn (j := 1) dL_style_3 rfl ?_
  refine s_callVX (rest := [.inl 0, .inr (.inr v2)]) (st' := fun x => .inl x :: [.inl 0, .inr (.inr v2)]) (met_X11_style l hfl v0 v1) cls_12 mth_X11_style rfl dL_style_4 w_1164 w_1165 w_1166 ⟨Nat.le_of_ble_eq_true rfl, Nat.le_of_ble_eq_true rfl⟩ (Nat.le_of_ble_eq_true rfl) rfl (fun _ => rfl) (fun x1 => ?_) (s_h2 ⟨[], _, _, rfl, fun _ h => absurd h List.not_mem_nil, by decide, by decide, w_706, by decide, rfl⟩ ⟨[_], _, _, rfl, List.forall_mem_cons.mpr ⟨Or.inr ⟨by decide, 1, by decide, by decide, w_706⟩, fun _ h => absurd h List.not_mem_nil⟩, by decide, by decide, w_1031, by decide, rfl⟩ (fun q2 => ?_) (fun q3 => ?_))
  · refine s_i2l dL_style_7 ?_
    refine s_last dL_style_8 ?_
    refine s_goto (tgt := 18) dL_style_9 (by decide) ?_
    refine s_iconst (v := 0) dL_style_18 (by decide) ?_
    exact s_iret dL_style_19 rfl
  · refine s_astoren (lv' := [(3, .inr (.inr (some q2))), (0, .inr (.inr v0)), (1, .inl v1), (2, .inr (.inr v2))]) dL_style_12 (Nat.le_of_ble_eq_true rfl) rfl ?_
    refine s_iconst (v := 1) dL_style_13 (by decide) ?_
    exact s_iret dL_style_14 rfl
  · refine s_astoren (lv' := [(3, .inr (.inr (some q3))), (0, .inr (.inr v0)), (1, .inl v1), (2, .inr (.inr v2))]) dL_style_15 (Nat.le_of_ble_eq_true rfl) rfl ?_
    refine s_iconst (v := 2) dL_style_16 (by decide) ?_
    exact s_iret dL_style_17 rfl
theorem met_L_style (l : Launch) (hfl : l.stackTraces = false) (v0 : Option Nat) (v1 : Int32) (v2 : Option Nat) : zMetH l yL_style cL_style 4 (some .int) [(0, 9, 12, 15), (0, 9, 15, 29)] 9 262 [.inr (.inr v0), .inl v1, .inr (.inr v2)] zcI (p_L_style v0 v1 v2) :=
  zMetH.of (by decide +kernel) (Nat.le_of_ble_eq_true rfl) rfl (sim_L_style l hfl v0 v1 v2)
def p_L_put (v0 : Option Nat) (v1 : Int32) (v2 : Int32) (v3 : Option Nat) : ZM Int32 :=
  z_bx (z_vr 12 v0 (p_X11_put v0 v1 v2)) (fun x1 => z_b (z_sL v3 0 (Int32.toInt64 x1)) fun _ => z_rt 0) (z_h3 2 0 1 (z_rt 1) (z_rt 2) (z_rt 3))
abbrev M_L_put (l : Launch) : ZMe := (l, "SpellScribeLaw", cL_put, 5, 9, 142, (some .int), "put", tableOf [(0, 10, 13, 29), (0, 10, 17, 13), (0, 10, 21, 15)])
set_option maxRecDepth 20000 in
theorem sim_L_put (l : Launch) (hfl : l.stackTraces = false) (v0 : Option Nat) (v1 : Int32) (v2 : Int32) (v3 : Option Nat) : Sim (M_L_put l) (zFin zcI) 0 [(0, .inr (.inr v0)), (1, .inl v1), (2, .inl v2), (3, .inr (.inr v3))] [] (p_L_put v0 v1 v2 v3) := by
  unfold p_L_put
  refine s_aloadn (j := 3) dL_put_0 rfl ?_
  refine s_iconst (v := 0) dL_put_1 (by decide) ?_
  refine s_aloadn (j := 0) dL_put_2 rfl ?_
  refine s_iloadn (j := 1) dL_put_3 rfl ?_
  refine s_iloadn (j := 2) dL_put_4 rfl ?_
  refine s_callVX (rest := [.inl 0, .inr (.inr v3)]) (st' := fun x => .inl x :: [.inl 0, .inr (.inr v3)]) (met_X11_put l hfl v0 v1 v2) cls_12 mth_X11_put rfl dL_put_5 w_1179 w_1180 w_1181 ⟨Nat.le_of_ble_eq_true rfl, Nat.le_of_ble_eq_true rfl⟩ (Nat.le_of_ble_eq_true rfl) rfl (fun _ => rfl) (fun x1 => ?_) (s_h3 ⟨[], _, _, rfl, fun _ h => absurd h List.not_mem_nil, by decide, by decide, w_1031, by decide, rfl⟩ ⟨[_], _, _, rfl, List.forall_mem_cons.mpr ⟨Or.inr ⟨by decide, 2, by decide, by decide, w_1031⟩, fun _ h => absurd h List.not_mem_nil⟩, by decide, by decide, w_705, by decide, rfl⟩ ⟨[_, _], _, _, rfl, List.forall_mem_cons.mpr ⟨Or.inr ⟨by decide, 2, by decide, by decide, w_1031⟩, List.forall_mem_cons.mpr ⟨Or.inr ⟨by decide, 0, by decide, by decide, w_705⟩, fun _ h => absurd h List.not_mem_nil⟩⟩, by decide, by decide, w_706, by decide, rfl⟩ (fun q2 => ?_) (fun q3 => ?_) (fun q4 => ?_))
  · refine s_i2l dL_put_8 ?_
    refine s_last dL_put_9 ?_
    refine s_goto (tgt := 25) dL_put_10 (by decide) ?_
    refine s_iconst (v := 0) dL_put_25 (by decide) ?_
    exact s_iret dL_put_26 rfl
  · refine s_astore (lv' := [(4, .inr (.inr (some q2))), (0, .inr (.inr v0)), (1, .inl v1), (2, .inl v2), (3, .inr (.inr v3))]) dL_put_13 (Nat.le_of_ble_eq_true rfl) rfl ?_
    refine s_iconst (v := 1) dL_put_15 (by decide) ?_
    exact s_iret dL_put_16 rfl
  · refine s_astore (lv' := [(4, .inr (.inr (some q3))), (0, .inr (.inr v0)), (1, .inl v1), (2, .inl v2), (3, .inr (.inr v3))]) dL_put_17 (Nat.le_of_ble_eq_true rfl) rfl ?_
    refine s_iconst (v := 2) dL_put_19 (by decide) ?_
    exact s_iret dL_put_20 rfl
  · refine s_astore (lv' := [(4, .inr (.inr (some q4))), (0, .inr (.inr v0)), (1, .inl v1), (2, .inl v2), (3, .inr (.inr v3))]) dL_put_21 (Nat.le_of_ble_eq_true rfl) rfl ?_
    refine s_iconst (v := 3) dL_put_23 (by decide) ?_
    exact s_iret dL_put_24 rfl
theorem met_L_put (l : Launch) (hfl : l.stackTraces = false) (v0 : Option Nat) (v1 : Int32) (v2 : Int32) (v3 : Option Nat) : zMetH l yL_put cL_put 5 (some .int) [(0, 10, 13, 29), (0, 10, 17, 13), (0, 10, 21, 15)] 9 142 [.inr (.inr v0), .inl v1, .inl v2, .inr (.inr v3)] zcI (p_L_put v0 v1 v2 v3) :=
  zMetH.of (by decide +kernel) (Nat.le_of_ble_eq_true rfl) rfl (sim_L_put l hfl v0 v1 v2 v3)
def p_L_take (v0 : Option Nat) (v1 : Int32) (v2 : Option Nat) : ZM Int32 :=
  z_bx (z_vr 12 v0 (p_X11_take v0 v1)) (fun x1 => z_b (z_sL v2 0 (Int32.toInt64 x1)) fun _ => z_rt 0) (z_h1 2 (z_rt 1))
abbrev M_L_take (l : Launch) : ZMe := (l, "SpellScribeLaw", cL_take, 4, 9, 141, (some .int), "take", tableOf [(0, 9, 12, 29)])
set_option maxRecDepth 20000 in
theorem sim_L_take (l : Launch) (hfl : l.stackTraces = false) (v0 : Option Nat) (v1 : Int32) (v2 : Option Nat) : Sim (M_L_take l) (zFin zcI) 0 [(0, .inr (.inr v0)), (1, .inl v1), (2, .inr (.inr v2))] [] (p_L_take v0 v1 v2) := by
  unfold p_L_take
  refine s_aloadn (j := 2) dL_take_0 rfl ?_
  refine s_iconst (v := 0) dL_take_1 (by decide) ?_
  refine s_aloadn (j := 0) dL_take_2 rfl ?_
  refine s_iloadn (j := 1) dL_take_3 rfl ?_
  refine s_callVX (rest := [.inl 0, .inr (.inr v2)]) (st' := fun x => .inl x :: [.inl 0, .inr (.inr v2)]) (met_X11_take l hfl v0 v1) cls_12 mth_X11_take rfl dL_take_4 w_1214 w_1215 w_1216 ⟨Nat.le_of_ble_eq_true rfl, Nat.le_of_ble_eq_true rfl⟩ (Nat.le_of_ble_eq_true rfl) rfl (fun _ => rfl) (fun x1 => ?_) (s_h1 ⟨[], _, _, rfl, fun _ h => absurd h List.not_mem_nil, by decide, by decide, w_1031, by decide, rfl⟩ (fun q2 => ?_))
  · refine s_i2l dL_take_7 ?_
    refine s_last dL_take_8 ?_
    refine s_goto (tgt := 15) dL_take_9 (by decide) ?_
    refine s_iconst (v := 0) dL_take_15 (by decide) ?_
    exact s_iret dL_take_16 rfl
  · refine s_astoren (lv' := [(3, .inr (.inr (some q2))), (0, .inr (.inr v0)), (1, .inl v1), (2, .inr (.inr v2))]) dL_take_12 (Nat.le_of_ble_eq_true rfl) rfl ?_
    refine s_iconst (v := 1) dL_take_13 (by decide) ?_
    exact s_iret dL_take_14 rfl
theorem met_L_take (l : Launch) (hfl : l.stackTraces = false) (v0 : Option Nat) (v1 : Int32) (v2 : Option Nat) : zMetH l yL_take cL_take 4 (some .int) [(0, 9, 12, 29)] 9 141 [.inr (.inr v0), .inl v1, .inr (.inr v2)] zcI (p_L_take v0 v1 v2) :=
  zMetH.of (by decide +kernel) (Nat.le_of_ble_eq_true rfl) rfl (sim_L_take l hfl v0 v1 v2)
def p_L_signAt (v0 : Option Nat) (v1 : Int32) (v2 : Option Nat) : ZM Int32 :=
  z_bx (z_vr 12 v0 (p_X11_signAt v0 v1)) (fun x1 => z_b (z_sL v2 0 (Int32.toInt64 x1)) fun _ => z_rt 0) (z_h1 2 (z_rt 1))
abbrev M_L_signAt (l : Launch) : ZMe := (l, "SpellScribeLaw", cL_signAt, 4, 9, 141, (some .int), "signAt", tableOf [(0, 9, 12, 29)])
set_option maxRecDepth 20000 in
theorem sim_L_signAt (l : Launch) (hfl : l.stackTraces = false) (v0 : Option Nat) (v1 : Int32) (v2 : Option Nat) : Sim (M_L_signAt l) (zFin zcI) 0 [(0, .inr (.inr v0)), (1, .inl v1), (2, .inr (.inr v2))] [] (p_L_signAt v0 v1 v2) := by
  unfold p_L_signAt
  refine s_aloadn (j := 2) dL_signAt_0 rfl ?_
  refine s_iconst (v := 0) dL_signAt_1 (by decide) ?_
  refine s_aloadn (j := 0) dL_signAt_2 rfl ?_
  refine s_iloadn (j := 1) dL_signAt_3 rfl ?_
  refine s_callVX (rest := [.inl 0, .inr (.inr v2)]) (st' := fun x => .inl x :: [.inl 0, .inr (.inr v2)]) (met_X11_signAt l hfl v0 v1) cls_12 mth_X11_signAt rfl dL_signAt_4 w_1222 w_1223 w_1224 ⟨Nat.le_of_ble_eq_true rfl, Nat.le_of_ble_eq_true rfl⟩ (Nat.le_of_ble_eq_true rfl) rfl (fun _ => rfl) (fun x1 => ?_) (s_h1 ⟨[], _, _, rfl, fun _ h => absurd h List.not_mem_nil, by decide, by decide, w_1031, by decide, rfl⟩ (fun q2 => ?_))
  · refine s_i2l dL_signAt_7 ?_
    refine s_last dL_signAt_8 ?_
    refine s_goto (tgt := 15) dL_signAt_9 (by decide) ?_
    refine s_iconst (v := 0) dL_signAt_15 (by decide) ?_
    exact s_iret dL_signAt_16 rfl
  · refine s_astoren (lv' := [(3, .inr (.inr (some q2))), (0, .inr (.inr v0)), (1, .inl v1), (2, .inr (.inr v2))]) dL_signAt_12 (Nat.le_of_ble_eq_true rfl) rfl ?_
    refine s_iconst (v := 1) dL_signAt_13 (by decide) ?_
    exact s_iret dL_signAt_14 rfl
theorem met_L_signAt (l : Launch) (hfl : l.stackTraces = false) (v0 : Option Nat) (v1 : Int32) (v2 : Option Nat) : zMetH l yL_signAt cL_signAt 4 (some .int) [(0, 9, 12, 29)] 9 141 [.inr (.inr v0), .inl v1, .inr (.inr v2)] zcI (p_L_signAt v0 v1 v2) :=
  zMetH.of (by decide +kernel) (Nat.le_of_ble_eq_true rfl) rfl (sim_L_signAt l hfl v0 v1 v2)
def p_L_wordAt (v0 : Option Nat) (v1 : Int32) (v2 : Option Nat) : ZM Int32 :=
  z_bx (z_vr 12 v0 (p_X11_wordAt v0 v1)) (fun x1 => z_b (z_sL v2 0 (Int32.toInt64 x1)) fun _ => z_rt 0) (z_h1 2 (z_rt 1))
abbrev M_L_wordAt (l : Launch) : ZMe := (l, "SpellScribeLaw", cL_wordAt, 4, 9, 141, (some .int), "wordAt", tableOf [(0, 9, 12, 29)])
set_option maxRecDepth 20000 in
theorem sim_L_wordAt (l : Launch) (hfl : l.stackTraces = false) (v0 : Option Nat) (v1 : Int32) (v2 : Option Nat) : Sim (M_L_wordAt l) (zFin zcI) 0 [(0, .inr (.inr v0)), (1, .inl v1), (2, .inr (.inr v2))] [] (p_L_wordAt v0 v1 v2) := by
  unfold p_L_wordAt
  refine s_aloadn (j := 2) dL_wordAt_0 rfl ?_
  refine s_iconst (v := 0) dL_wordAt_1 (by decide) ?_
  refine s_aloadn (j := 0) dL_wordAt_2 rfl ?_
  refine s_iloadn (j := 1) dL_wordAt_3 rfl ?_
  refine s_callVX (rest := [.inl 0, .inr (.inr v2)]) (st' := fun x => .inl x :: [.inl 0, .inr (.inr v2)]) (met_X11_wordAt l hfl v0 v1) cls_12 mth_X11_wordAt rfl dL_wordAt_4 w_1230 w_1231 w_1232 ⟨Nat.le_of_ble_eq_true rfl, Nat.le_of_ble_eq_true rfl⟩ (Nat.le_of_ble_eq_true rfl) rfl (fun _ => rfl) (fun x1 => ?_) (s_h1 ⟨[], _, _, rfl, fun _ h => absurd h List.not_mem_nil, by decide, by decide, w_1031, by decide, rfl⟩ (fun q2 => ?_))
  · refine s_i2l dL_wordAt_7 ?_
    refine s_last dL_wordAt_8 ?_
    refine s_goto (tgt := 15) dL_wordAt_9 (by decide) ?_
    refine s_iconst (v := 0) dL_wordAt_15 (by decide) ?_
    exact s_iret dL_wordAt_16 rfl
  · refine s_astoren (lv' := [(3, .inr (.inr (some q2))), (0, .inr (.inr v0)), (1, .inl v1), (2, .inr (.inr v2))]) dL_wordAt_12 (Nat.le_of_ble_eq_true rfl) rfl ?_
    refine s_iconst (v := 1) dL_wordAt_13 (by decide) ?_
    exact s_iret dL_wordAt_14 rfl
theorem met_L_wordAt (l : Launch) (hfl : l.stackTraces = false) (v0 : Option Nat) (v1 : Int32) (v2 : Option Nat) : zMetH l yL_wordAt cL_wordAt 4 (some .int) [(0, 9, 12, 29)] 9 141 [.inr (.inr v0), .inl v1, .inr (.inr v2)] zcI (p_L_wordAt v0 v1 v2) :=
  zMetH.of (by decide +kernel) (Nat.le_of_ble_eq_true rfl) rfl (sim_L_wordAt l hfl v0 v1 v2)
def p_L_isRight_b15 (s0 : Option Nat) (s1 : Int32) (s2 : Int64) : ZM Int32 :=
  z_b (z_sL s0 s1 s2) fun _ => z_rt 0
def p_L_isRight (v0 : Option Nat) (v1 : Int32) (v2 : Option Nat) : ZM Int32 :=
  z_bx (z_vr 12 v0 (p_X11_isRight v0 v1)) (fun x1 => if x1 = 0 then (p_L_isRight_b15 v2 0 0)
  else (p_L_isRight_b15 v2 0 1)) (z_h1 2 (z_rt 1))
abbrev M_L_isRight (l : Launch) : ZMe := (l, "SpellScribeLaw", cL_isRight, 4, 9, 242, (some .int), "isRight", tableOf [(0, 16, 19, 29)])
set_option maxRecDepth 20000 in
theorem sim_L_isRight_b15 (l : Launch) (hfl : l.stackTraces = false) (s0 : Option Nat) (s1 : Int32) (s2 : Int64) : Sim (M_L_isRight l) (zFin zcI) 15 [] [.inr (.inl s2), .inl s1, .inr (.inr s0)] (p_L_isRight_b15 s0 s1 s2) := by
  unfold p_L_isRight_b15
  refine s_last dL_isRight_15 ?_
  refine s_goto (tgt := 22) dL_isRight_16 (by decide) ?_
  refine s_iconst (v := 0) dL_isRight_22 (by decide) ?_
  exact s_iret dL_isRight_23 rfl
set_option maxRecDepth 20000 in
theorem sim_L_isRight (l : Launch) (hfl : l.stackTraces = false) (v0 : Option Nat) (v1 : Int32) (v2 : Option Nat) : Sim (M_L_isRight l) (zFin zcI) 0 [(0, .inr (.inr v0)), (1, .inl v1), (2, .inr (.inr v2))] [] (p_L_isRight v0 v1 v2) := by
  unfold p_L_isRight
  refine s_aloadn (j := 2) dL_isRight_0 rfl ?_
  refine s_iconst (v := 0) dL_isRight_1 (by decide) ?_
  refine s_aloadn (j := 0) dL_isRight_2 rfl ?_
  refine s_iloadn (j := 1) dL_isRight_3 rfl ?_
  refine s_callVX (rest := [.inl 0, .inr (.inr v2)]) (st' := fun x => .inl x :: [.inl 0, .inr (.inr v2)]) (met_X11_isRight l hfl v0 v1) cls_12 mth_X11_isRight rfl dL_isRight_4 w_1238 w_1239 w_1240 ⟨Nat.le_of_ble_eq_true rfl, Nat.le_of_ble_eq_true rfl⟩ (Nat.le_of_ble_eq_true rfl) rfl (fun _ => rfl) (fun x1 => ?_) (s_h1 ⟨[], _, _, rfl, fun _ h => absurd h List.not_mem_nil, by decide, by decide, w_1031, by decide, rfl⟩ (fun q2 => ?_))
  · refine s_if_eq (tgt := 14) dL_isRight_7 (by decide) ?_ ?_
    · refine s_lconst (v := 0) dL_isRight_14 (by decide) ?_
      exact Sim.sub [] rfl (sim_L_isRight_b15 l hfl v2 0 0)
    · refine s_lconst (v := 1) dL_isRight_10 (by decide) ?_
      refine s_goto (tgt := 15) dL_isRight_11 (by decide) ?_
      exact Sim.sub [] rfl (sim_L_isRight_b15 l hfl v2 0 1)
  · refine s_astoren (lv' := [(3, .inr (.inr (some q2))), (0, .inr (.inr v0)), (1, .inl v1), (2, .inr (.inr v2))]) dL_isRight_19 (Nat.le_of_ble_eq_true rfl) rfl ?_
    refine s_iconst (v := 1) dL_isRight_20 (by decide) ?_
    exact s_iret dL_isRight_21 rfl
theorem met_L_isRight (l : Launch) (hfl : l.stackTraces = false) (v0 : Option Nat) (v1 : Int32) (v2 : Option Nat) : zMetH l yL_isRight cL_isRight 4 (some .int) [(0, 16, 19, 29)] 9 242 [.inr (.inr v0), .inl v1, .inr (.inr v2)] zcI (p_L_isRight v0 v1 v2) :=
  zMetH.of (by decide +kernel) (Nat.le_of_ble_eq_true rfl) rfl (sim_L_isRight l hfl v0 v1 v2)
def p_L_readings (v0 : Option Nat) (v1 : Int32) (v2 : Option Nat) : ZM Int32 :=
  z_bx (z_vr 12 v0 (p_X11_readings v0 v1)) (fun x1 => z_b (z_sL v2 0 (Int32.toInt64 x1)) fun _ => z_rt 0) (z_h1 2 (z_rt 1))
abbrev M_L_readings (l : Launch) : ZMe := (l, "SpellScribeLaw", cL_readings, 4, 9, 242, (some .int), "readings", tableOf [(0, 9, 12, 29)])
set_option maxRecDepth 20000 in
theorem sim_L_readings (l : Launch) (hfl : l.stackTraces = false) (v0 : Option Nat) (v1 : Int32) (v2 : Option Nat) : Sim (M_L_readings l) (zFin zcI) 0 [(0, .inr (.inr v0)), (1, .inl v1), (2, .inr (.inr v2))] [] (p_L_readings v0 v1 v2) := by
  unfold p_L_readings
  refine s_aloadn (j := 2) dL_readings_0 rfl ?_
  refine s_iconst (v := 0) dL_readings_1 (by decide) ?_
  refine s_aloadn (j := 0) dL_readings_2 rfl ?_
  refine s_iloadn (j := 1) dL_readings_3 rfl ?_
  refine s_callVX (rest := [.inl 0, .inr (.inr v2)]) (st' := fun x => .inl x :: [.inl 0, .inr (.inr v2)]) (met_X11_readings l hfl v0 v1) cls_12 mth_X11_readings rfl dL_readings_4 w_1245 w_1246 w_1247 ⟨Nat.le_of_ble_eq_true rfl, Nat.le_of_ble_eq_true rfl⟩ (Nat.le_of_ble_eq_true rfl) rfl (fun _ => rfl) (fun x1 => ?_) (s_h1 ⟨[], _, _, rfl, fun _ h => absurd h List.not_mem_nil, by decide, by decide, w_1031, by decide, rfl⟩ (fun q2 => ?_))
  · refine s_i2l dL_readings_7 ?_
    refine s_last dL_readings_8 ?_
    refine s_goto (tgt := 15) dL_readings_9 (by decide) ?_
    refine s_iconst (v := 0) dL_readings_15 (by decide) ?_
    exact s_iret dL_readings_16 rfl
  · refine s_astoren (lv' := [(3, .inr (.inr (some q2))), (0, .inr (.inr v0)), (1, .inl v1), (2, .inr (.inr v2))]) dL_readings_12 (Nat.le_of_ble_eq_true rfl) rfl ?_
    refine s_iconst (v := 1) dL_readings_13 (by decide) ?_
    exact s_iret dL_readings_14 rfl
theorem met_L_readings (l : Launch) (hfl : l.stackTraces = false) (v0 : Option Nat) (v1 : Int32) (v2 : Option Nat) : zMetH l yL_readings cL_readings 4 (some .int) [(0, 9, 12, 29)] 9 242 [.inr (.inr v0), .inl v1, .inr (.inr v2)] zcI (p_L_readings v0 v1 v2) :=
  zMetH.of (by decide +kernel) (Nat.le_of_ble_eq_true rfl) rfl (sim_L_readings l hfl v0 v1 v2)
def p_L_reading (v0 : Option Nat) (v1 : Int32) (v2 : Option Nat) : ZM Int32 :=
  z_bx (z_vr 12 v0 (p_X11_reading v0 v1)) (fun x1 => z_b (z_sL v2 0 (Int32.toInt64 x1)) fun _ => z_rt 0) (z_h1 2 (z_rt 1))
abbrev M_L_reading (l : Launch) : ZMe := (l, "SpellScribeLaw", cL_reading, 4, 9, 242, (some .int), "reading", tableOf [(0, 9, 12, 29)])
set_option maxRecDepth 20000 in
theorem sim_L_reading (l : Launch) (hfl : l.stackTraces = false) (v0 : Option Nat) (v1 : Int32) (v2 : Option Nat) : Sim (M_L_reading l) (zFin zcI) 0 [(0, .inr (.inr v0)), (1, .inl v1), (2, .inr (.inr v2))] [] (p_L_reading v0 v1 v2) := by
  unfold p_L_reading
  refine s_aloadn (j := 2) dL_reading_0 rfl ?_
  refine s_iconst (v := 0) dL_reading_1 (by decide) ?_
  refine s_aloadn (j := 0) dL_reading_2 rfl ?_
  refine s_iloadn (j := 1) dL_reading_3 rfl ?_
  refine s_callVX (rest := [.inl 0, .inr (.inr v2)]) (st' := fun x => .inl x :: [.inl 0, .inr (.inr v2)]) (met_X11_reading l hfl v0 v1) cls_12 mth_X11_reading rfl dL_reading_4 w_1256 w_1257 w_1258 ⟨Nat.le_of_ble_eq_true rfl, Nat.le_of_ble_eq_true rfl⟩ (Nat.le_of_ble_eq_true rfl) rfl (fun _ => rfl) (fun x1 => ?_) (s_h1 ⟨[], _, _, rfl, fun _ h => absurd h List.not_mem_nil, by decide, by decide, w_1031, by decide, rfl⟩ (fun q2 => ?_))
  · refine s_i2l dL_reading_7 ?_
    refine s_last dL_reading_8 ?_
    refine s_goto (tgt := 15) dL_reading_9 (by decide) ?_
    refine s_iconst (v := 0) dL_reading_15 (by decide) ?_
    exact s_iret dL_reading_16 rfl
  · refine s_astoren (lv' := [(3, .inr (.inr (some q2))), (0, .inr (.inr v0)), (1, .inl v1), (2, .inr (.inr v2))]) dL_reading_12 (Nat.le_of_ble_eq_true rfl) rfl ?_
    refine s_iconst (v := 1) dL_reading_13 (by decide) ?_
    exact s_iret dL_reading_14 rfl
theorem met_L_reading (l : Launch) (hfl : l.stackTraces = false) (v0 : Option Nat) (v1 : Int32) (v2 : Option Nat) : zMetH l yL_reading cL_reading 4 (some .int) [(0, 9, 12, 29)] 9 242 [.inr (.inr v0), .inl v1, .inr (.inr v2)] zcI (p_L_reading v0 v1 v2) :=
  zMetH.of (by decide +kernel) (Nat.le_of_ble_eq_true rfl) rfl (sim_L_reading l hfl v0 v1 v2)
def p_L_split (v0 : Option Nat) (v1 : Int32) (v2 : Option Nat) : ZM Int32 :=
  z_bx (z_vr 12 v0 (p_X11_split v0 v1)) (fun x1 => z_b (z_sL v2 0 (Int32.toInt64 x1)) fun _ => z_rt 0) (z_h1 2 (z_rt 1))
abbrev M_L_split (l : Launch) : ZMe := (l, "SpellScribeLaw", cL_split, 4, 9, 183, (some .int), "split", tableOf [(0, 9, 12, 29)])
set_option maxRecDepth 20000 in
theorem sim_L_split (l : Launch) (hfl : l.stackTraces = false) (v0 : Option Nat) (v1 : Int32) (v2 : Option Nat) : Sim (M_L_split l) (zFin zcI) 0 [(0, .inr (.inr v0)), (1, .inl v1), (2, .inr (.inr v2))] [] (p_L_split v0 v1 v2) := by
  unfold p_L_split
  refine s_aloadn (j := 2) dL_split_0 rfl ?_
  refine s_iconst (v := 0) dL_split_1 (by decide) ?_
  refine s_aloadn (j := 0) dL_split_2 rfl ?_
  refine s_iloadn (j := 1) dL_split_3 rfl ?_
  refine s_callVX (rest := [.inl 0, .inr (.inr v2)]) (st' := fun x => .inl x :: [.inl 0, .inr (.inr v2)]) (met_X11_split l hfl v0 v1) cls_12 mth_X11_split rfl dL_split_4 w_1267 w_1268 w_1269 ⟨Nat.le_of_ble_eq_true rfl, Nat.le_of_ble_eq_true rfl⟩ (Nat.le_of_ble_eq_true rfl) rfl (fun _ => rfl) (fun x1 => ?_) (s_h1 ⟨[], _, _, rfl, fun _ h => absurd h List.not_mem_nil, by decide, by decide, w_1031, by decide, rfl⟩ (fun q2 => ?_))
  · refine s_i2l dL_split_7 ?_
    refine s_last dL_split_8 ?_
    refine s_goto (tgt := 15) dL_split_9 (by decide) ?_
    refine s_iconst (v := 0) dL_split_15 (by decide) ?_
    exact s_iret dL_split_16 rfl
  · refine s_astoren (lv' := [(3, .inr (.inr (some q2))), (0, .inr (.inr v0)), (1, .inl v1), (2, .inr (.inr v2))]) dL_split_12 (Nat.le_of_ble_eq_true rfl) rfl ?_
    refine s_iconst (v := 1) dL_split_13 (by decide) ?_
    exact s_iret dL_split_14 rfl
theorem met_L_split (l : Launch) (hfl : l.stackTraces = false) (v0 : Option Nat) (v1 : Int32) (v2 : Option Nat) : zMetH l yL_split cL_split 4 (some .int) [(0, 9, 12, 29)] 9 183 [.inr (.inr v0), .inl v1, .inr (.inr v2)] zcI (p_L_split v0 v1 v2) :=
  zMetH.of (by decide +kernel) (Nat.le_of_ble_eq_true rfl) rfl (sim_L_split l hfl v0 v1 v2)
def p_L_mistakeKind (v0 : Option Nat) (v1 : Int32) (v2 : Option Nat) : ZM Int32 :=
  z_bx (z_vr 12 v0 (p_X11_mistakeKind v0 v1)) (fun x1 => z_b (z_sL v2 0 (Int32.toInt64 x1)) fun _ => z_rt 0) (z_h1 2 (z_rt 1))
abbrev M_L_mistakeKind (l : Launch) : ZMe := (l, "SpellScribeLaw", cL_mistakeKind, 4, 9, 242, (some .int), "mistakeKind", tableOf [(0, 9, 12, 29)])
set_option maxRecDepth 20000 in
theorem sim_L_mistakeKind (l : Launch) (hfl : l.stackTraces = false) (v0 : Option Nat) (v1 : Int32) (v2 : Option Nat) : Sim (M_L_mistakeKind l) (zFin zcI) 0 [(0, .inr (.inr v0)), (1, .inl v1), (2, .inr (.inr v2))] [] (p_L_mistakeKind v0 v1 v2) := by
  unfold p_L_mistakeKind
  refine s_aloadn (j := 2) dL_mistakeKind_0 rfl ?_
  refine s_iconst (v := 0) dL_mistakeKind_1 (by decide) ?_
  refine s_aloadn (j := 0) dL_mistakeKind_2 rfl ?_
  refine s_iloadn (j := 1) dL_mistakeKind_3 rfl ?_
  refine s_callVX (rest := [.inl 0, .inr (.inr v2)]) (st' := fun x => .inl x :: [.inl 0, .inr (.inr v2)]) (met_X11_mistakeKind l hfl v0 v1) cls_12 mth_X11_mistakeKind rfl dL_mistakeKind_4 w_1283 w_1284 w_1285 ⟨Nat.le_of_ble_eq_true rfl, Nat.le_of_ble_eq_true rfl⟩ (Nat.le_of_ble_eq_true rfl) rfl (fun _ => rfl) (fun x1 => ?_) (s_h1 ⟨[], _, _, rfl, fun _ h => absurd h List.not_mem_nil, by decide, by decide, w_1031, by decide, rfl⟩ (fun q2 => ?_))
  · refine s_i2l dL_mistakeKind_7 ?_
    refine s_last dL_mistakeKind_8 ?_
    refine s_goto (tgt := 15) dL_mistakeKind_9 (by decide) ?_
    refine s_iconst (v := 0) dL_mistakeKind_15 (by decide) ?_
    exact s_iret dL_mistakeKind_16 rfl
  · refine s_astoren (lv' := [(3, .inr (.inr (some q2))), (0, .inr (.inr v0)), (1, .inl v1), (2, .inr (.inr v2))]) dL_mistakeKind_12 (Nat.le_of_ble_eq_true rfl) rfl ?_
    refine s_iconst (v := 1) dL_mistakeKind_13 (by decide) ?_
    exact s_iret dL_mistakeKind_14 rfl
theorem met_L_mistakeKind (l : Launch) (hfl : l.stackTraces = false) (v0 : Option Nat) (v1 : Int32) (v2 : Option Nat) : zMetH l yL_mistakeKind cL_mistakeKind 4 (some .int) [(0, 9, 12, 29)] 9 242 [.inr (.inr v0), .inl v1, .inr (.inr v2)] zcI (p_L_mistakeKind v0 v1 v2) :=
  zMetH.of (by decide +kernel) (Nat.le_of_ble_eq_true rfl) rfl (sim_L_mistakeKind l hfl v0 v1 v2)
def p_L_mistakeAt (v0 : Option Nat) (v1 : Int32) (v2 : Option Nat) : ZM Int32 :=
  z_bx (z_vr 12 v0 (p_X11_mistakeAt v0 v1)) (fun x1 => z_b (z_sL v2 0 (Int32.toInt64 x1)) fun _ => z_rt 0) (z_h1 2 (z_rt 1))
abbrev M_L_mistakeAt (l : Launch) : ZMe := (l, "SpellScribeLaw", cL_mistakeAt, 4, 9, 242, (some .int), "mistakeAt", tableOf [(0, 9, 12, 29)])
set_option maxRecDepth 20000 in
theorem sim_L_mistakeAt (l : Launch) (hfl : l.stackTraces = false) (v0 : Option Nat) (v1 : Int32) (v2 : Option Nat) : Sim (M_L_mistakeAt l) (zFin zcI) 0 [(0, .inr (.inr v0)), (1, .inl v1), (2, .inr (.inr v2))] [] (p_L_mistakeAt v0 v1 v2) := by
  unfold p_L_mistakeAt
  refine s_aloadn (j := 2) dL_mistakeAt_0 rfl ?_
  refine s_iconst (v := 0) dL_mistakeAt_1 (by decide) ?_
  refine s_aloadn (j := 0) dL_mistakeAt_2 rfl ?_
  refine s_iloadn (j := 1) dL_mistakeAt_3 rfl ?_
  refine s_callVX (rest := [.inl 0, .inr (.inr v2)]) (st' := fun x => .inl x :: [.inl 0, .inr (.inr v2)]) (met_X11_mistakeAt l hfl v0 v1) cls_12 mth_X11_mistakeAt rfl dL_mistakeAt_4 w_1295 w_1296 w_1297 ⟨Nat.le_of_ble_eq_true rfl, Nat.le_of_ble_eq_true rfl⟩ (Nat.le_of_ble_eq_true rfl) rfl (fun _ => rfl) (fun x1 => ?_) (s_h1 ⟨[], _, _, rfl, fun _ h => absurd h List.not_mem_nil, by decide, by decide, w_1031, by decide, rfl⟩ (fun q2 => ?_))
  · refine s_i2l dL_mistakeAt_7 ?_
    refine s_last dL_mistakeAt_8 ?_
    refine s_goto (tgt := 15) dL_mistakeAt_9 (by decide) ?_
    refine s_iconst (v := 0) dL_mistakeAt_15 (by decide) ?_
    exact s_iret dL_mistakeAt_16 rfl
  · refine s_astoren (lv' := [(3, .inr (.inr (some q2))), (0, .inr (.inr v0)), (1, .inl v1), (2, .inr (.inr v2))]) dL_mistakeAt_12 (Nat.le_of_ble_eq_true rfl) rfl ?_
    refine s_iconst (v := 1) dL_mistakeAt_13 (by decide) ?_
    exact s_iret dL_mistakeAt_14 rfl
theorem met_L_mistakeAt (l : Launch) (hfl : l.stackTraces = false) (v0 : Option Nat) (v1 : Int32) (v2 : Option Nat) : zMetH l yL_mistakeAt cL_mistakeAt 4 (some .int) [(0, 9, 12, 29)] 9 242 [.inr (.inr v0), .inl v1, .inr (.inr v2)] zcI (p_L_mistakeAt v0 v1 v2) :=
  zMetH.of (by decide +kernel) (Nat.le_of_ble_eq_true rfl) rfl (sim_L_mistakeAt l hfl v0 v1 v2)
def p_L_suggestions (v0 : Option Nat) (v1 : Int32) (v2 : Option Nat) : ZM Int32 :=
  z_bx (z_vr 12 v0 (p_X11_suggestions v0 v1)) (fun x1 => z_b (z_sL v2 0 (Int32.toInt64 x1)) fun _ => z_rt 0) (z_h1 2 (z_rt 1))
abbrev M_L_suggestions (l : Launch) : ZMe := (l, "SpellScribeLaw", cL_suggestions, 4, 9, 184, (some .int), "suggestions", tableOf [(0, 9, 12, 29)])
set_option maxRecDepth 20000 in
theorem sim_L_suggestions (l : Launch) (hfl : l.stackTraces = false) (v0 : Option Nat) (v1 : Int32) (v2 : Option Nat) : Sim (M_L_suggestions l) (zFin zcI) 0 [(0, .inr (.inr v0)), (1, .inl v1), (2, .inr (.inr v2))] [] (p_L_suggestions v0 v1 v2) := by
  unfold p_L_suggestions
  refine s_aloadn (j := 2) dL_suggestions_0 rfl ?_
  refine s_iconst (v := 0) dL_suggestions_1 (by decide) ?_
  refine s_aloadn (j := 0) dL_suggestions_2 rfl ?_
  refine s_iloadn (j := 1) dL_suggestions_3 rfl ?_
  refine s_callVX (rest := [.inl 0, .inr (.inr v2)]) (st' := fun x => .inl x :: [.inl 0, .inr (.inr v2)]) (met_X11_suggestions l hfl v0 v1) cls_12 mth_X11_suggestions rfl dL_suggestions_4 w_1306 w_1307 w_1308 ⟨Nat.le_of_ble_eq_true rfl, Nat.le_of_ble_eq_true rfl⟩ (Nat.le_of_ble_eq_true rfl) rfl (fun _ => rfl) (fun x1 => ?_) (s_h1 ⟨[], _, _, rfl, fun _ h => absurd h List.not_mem_nil, by decide, by decide, w_1031, by decide, rfl⟩ (fun q2 => ?_))
  · refine s_i2l dL_suggestions_7 ?_
    refine s_last dL_suggestions_8 ?_
    refine s_goto (tgt := 15) dL_suggestions_9 (by decide) ?_
    refine s_iconst (v := 0) dL_suggestions_15 (by decide) ?_
    exact s_iret dL_suggestions_16 rfl
  · refine s_astoren (lv' := [(3, .inr (.inr (some q2))), (0, .inr (.inr v0)), (1, .inl v1), (2, .inr (.inr v2))]) dL_suggestions_12 (Nat.le_of_ble_eq_true rfl) rfl ?_
    refine s_iconst (v := 1) dL_suggestions_13 (by decide) ?_
    exact s_iret dL_suggestions_14 rfl
theorem met_L_suggestions (l : Launch) (hfl : l.stackTraces = false) (v0 : Option Nat) (v1 : Int32) (v2 : Option Nat) : zMetH l yL_suggestions cL_suggestions 4 (some .int) [(0, 9, 12, 29)] 9 184 [.inr (.inr v0), .inl v1, .inr (.inr v2)] zcI (p_L_suggestions v0 v1 v2) :=
  zMetH.of (by decide +kernel) (Nat.le_of_ble_eq_true rfl) rfl (sim_L_suggestions l hfl v0 v1 v2)
def p_L_suggestionsByAll (v0 : Option Nat) (v1 : Int32) (v2 : Option Nat) : ZM Int32 :=
  z_bx (z_vr 12 v0 (p_X11_suggestionsByAll v0 v1)) (fun x1 => z_b (z_sL v2 0 (Int32.toInt64 x1)) fun _ => z_rt 0) (z_h1 2 (z_rt 1))
abbrev M_L_suggestionsByAll (l : Launch) : ZMe := (l, "SpellScribeLaw", cL_suggestionsByAll, 4, 9, 163, (some .int), "suggestionsByAll", tableOf [(0, 9, 12, 29)])
set_option maxRecDepth 20000 in
theorem sim_L_suggestionsByAll (l : Launch) (hfl : l.stackTraces = false) (v0 : Option Nat) (v1 : Int32) (v2 : Option Nat) : Sim (M_L_suggestionsByAll l) (zFin zcI) 0 [(0, .inr (.inr v0)), (1, .inl v1), (2, .inr (.inr v2))] [] (p_L_suggestionsByAll v0 v1 v2) := by
  unfold p_L_suggestionsByAll
  refine s_aloadn (j := 2) dL_suggestionsByAll_0 rfl ?_
  refine s_iconst (v := 0) dL_suggestionsByAll_1 (by decide) ?_
  refine s_aloadn (j := 0) dL_suggestionsByAll_2 rfl ?_
  refine s_iloadn (j := 1) dL_suggestionsByAll_3 rfl ?_
  refine s_callVX (rest := [.inl 0, .inr (.inr v2)]) (st' := fun x => .inl x :: [.inl 0, .inr (.inr v2)]) (met_X11_suggestionsByAll l hfl v0 v1) cls_12 mth_X11_suggestionsByAll rfl dL_suggestionsByAll_4 w_1313 w_1314 w_1315 ⟨Nat.le_of_ble_eq_true rfl, Nat.le_of_ble_eq_true rfl⟩ (Nat.le_of_ble_eq_true rfl) rfl (fun _ => rfl) (fun x1 => ?_) (s_h1 ⟨[], _, _, rfl, fun _ h => absurd h List.not_mem_nil, by decide, by decide, w_1031, by decide, rfl⟩ (fun q2 => ?_))
  · refine s_i2l dL_suggestionsByAll_7 ?_
    refine s_last dL_suggestionsByAll_8 ?_
    refine s_goto (tgt := 15) dL_suggestionsByAll_9 (by decide) ?_
    refine s_iconst (v := 0) dL_suggestionsByAll_15 (by decide) ?_
    exact s_iret dL_suggestionsByAll_16 rfl
  · refine s_astoren (lv' := [(3, .inr (.inr (some q2))), (0, .inr (.inr v0)), (1, .inl v1), (2, .inr (.inr v2))]) dL_suggestionsByAll_12 (Nat.le_of_ble_eq_true rfl) rfl ?_
    refine s_iconst (v := 1) dL_suggestionsByAll_13 (by decide) ?_
    exact s_iret dL_suggestionsByAll_14 rfl
theorem met_L_suggestionsByAll (l : Launch) (hfl : l.stackTraces = false) (v0 : Option Nat) (v1 : Int32) (v2 : Option Nat) : zMetH l yL_suggestionsByAll cL_suggestionsByAll 4 (some .int) [(0, 9, 12, 29)] 9 163 [.inr (.inr v0), .inl v1, .inr (.inr v2)] zcI (p_L_suggestionsByAll v0 v1 v2) :=
  zMetH.of (by decide +kernel) (Nat.le_of_ble_eq_true rfl) rfl (sim_L_suggestionsByAll l hfl v0 v1 v2)
def p_L_cost (v0 : Option Nat) (v1 : Int32) (v2 : Int32) (v3 : Option Nat) : ZM Int32 :=
  z_bx (z_vr 12 v0 (p_X11_cost v0 v1 v2)) (fun x1 => z_b (z_sL v3 0 (Int32.toInt64 x1)) fun _ => z_rt 0) (z_h1 2 (z_rt 1))
abbrev M_L_cost (l : Launch) : ZMe := (l, "SpellScribeLaw", cL_cost, 5, 9, 207, (some .int), "cost", tableOf [(0, 10, 13, 29)])
set_option maxRecDepth 20000 in
theorem sim_L_cost (l : Launch) (hfl : l.stackTraces = false) (v0 : Option Nat) (v1 : Int32) (v2 : Int32) (v3 : Option Nat) : Sim (M_L_cost l) (zFin zcI) 0 [(0, .inr (.inr v0)), (1, .inl v1), (2, .inl v2), (3, .inr (.inr v3))] [] (p_L_cost v0 v1 v2 v3) := by
  unfold p_L_cost
  refine s_aloadn (j := 3) dL_cost_0 rfl ?_
  refine s_iconst (v := 0) dL_cost_1 (by decide) ?_
  refine s_aloadn (j := 0) dL_cost_2 rfl ?_
  refine s_iloadn (j := 1) dL_cost_3 rfl ?_
  refine s_iloadn (j := 2) dL_cost_4 rfl ?_
  refine s_callVX (rest := [.inl 0, .inr (.inr v3)]) (st' := fun x => .inl x :: [.inl 0, .inr (.inr v3)]) (met_X11_cost l hfl v0 v1 v2) cls_12 mth_X11_cost rfl dL_cost_5 w_1320 w_1321 w_1322 ⟨Nat.le_of_ble_eq_true rfl, Nat.le_of_ble_eq_true rfl⟩ (Nat.le_of_ble_eq_true rfl) rfl (fun _ => rfl) (fun x1 => ?_) (s_h1 ⟨[], _, _, rfl, fun _ h => absurd h List.not_mem_nil, by decide, by decide, w_1031, by decide, rfl⟩ (fun q2 => ?_))
  · refine s_i2l dL_cost_8 ?_
    refine s_last dL_cost_9 ?_
    refine s_goto (tgt := 17) dL_cost_10 (by decide) ?_
    refine s_iconst (v := 0) dL_cost_17 (by decide) ?_
    exact s_iret dL_cost_18 rfl
  · refine s_astore (lv' := [(4, .inr (.inr (some q2))), (0, .inr (.inr v0)), (1, .inl v1), (2, .inl v2), (3, .inr (.inr v3))]) dL_cost_13 (Nat.le_of_ble_eq_true rfl) rfl ?_
    refine s_iconst (v := 1) dL_cost_15 (by decide) ?_
    exact s_iret dL_cost_16 rfl
theorem met_L_cost (l : Launch) (hfl : l.stackTraces = false) (v0 : Option Nat) (v1 : Int32) (v2 : Int32) (v3 : Option Nat) : zMetH l yL_cost cL_cost 5 (some .int) [(0, 10, 13, 29)] 9 207 [.inr (.inr v0), .inl v1, .inl v2, .inr (.inr v3)] zcI (p_L_cost v0 v1 v2 v3) :=
  zMetH.of (by decide +kernel) (Nat.le_of_ble_eq_true rfl) rfl (sim_L_cost l hfl v0 v1 v2 v3)
def p_L_suggested (v0 : Option Nat) (v1 : Int32) (v2 : Int32) (v3 : Int32) (v4 : Option Nat) : ZM Int32 :=
  z_bx (z_vr 12 v0 (p_X11_suggested v0 v1 v2 v3)) (fun x1 => z_b (z_sL v4 0 (Int32.toInt64 x1)) fun _ => z_rt 0) (z_h1 2 (z_rt 1))
abbrev M_L_suggested (l : Launch) : ZMe := (l, "SpellScribeLaw", cL_suggested, 6, 9, 209, (some .int), "suggested", tableOf [(0, 12, 15, 29)])
set_option maxRecDepth 20000 in
theorem sim_L_suggested (l : Launch) (hfl : l.stackTraces = false) (v0 : Option Nat) (v1 : Int32) (v2 : Int32) (v3 : Int32) (v4 : Option Nat) : Sim (M_L_suggested l) (zFin zcI) 0 [(0, .inr (.inr v0)), (1, .inl v1), (2, .inl v2), (3, .inl v3), (4, .inr (.inr v4))] [] (p_L_suggested v0 v1 v2 v3 v4) := by
  unfold p_L_suggested
  refine s_aload (j := 4) dL_suggested_0 rfl ?_
  refine s_iconst (v := 0) dL_suggested_2 (by decide) ?_
  refine s_aloadn (j := 0) dL_suggested_3 rfl ?_
  refine s_iloadn (j := 1) dL_suggested_4 rfl ?_
  refine s_iloadn (j := 2) dL_suggested_5 rfl ?_
  refine s_iloadn (j := 3) dL_suggested_6 rfl ?_
  refine s_callVX (rest := [.inl 0, .inr (.inr v4)]) (st' := fun x => .inl x :: [.inl 0, .inr (.inr v4)]) (met_X11_suggested l hfl v0 v1 v2 v3) cls_12 mth_X11_suggested rfl dL_suggested_7 w_1336 w_1337 w_1338 ⟨Nat.le_of_ble_eq_true rfl, Nat.le_of_ble_eq_true rfl⟩ (Nat.le_of_ble_eq_true rfl) rfl (fun _ => rfl) (fun x1 => ?_) (s_h1 ⟨[], _, _, rfl, fun _ h => absurd h List.not_mem_nil, by decide, by decide, w_1031, by decide, rfl⟩ (fun q2 => ?_))
  · refine s_i2l dL_suggested_10 ?_
    refine s_last dL_suggested_11 ?_
    refine s_goto (tgt := 19) dL_suggested_12 (by decide) ?_
    refine s_iconst (v := 0) dL_suggested_19 (by decide) ?_
    exact s_iret dL_suggested_20 rfl
  · refine s_astore (lv' := [(5, .inr (.inr (some q2))), (0, .inr (.inr v0)), (1, .inl v1), (2, .inl v2), (3, .inl v3), (4, .inr (.inr v4))]) dL_suggested_15 (Nat.le_of_ble_eq_true rfl) rfl ?_
    refine s_iconst (v := 1) dL_suggested_17 (by decide) ?_
    exact s_iret dL_suggested_18 rfl
theorem met_L_suggested (l : Launch) (hfl : l.stackTraces = false) (v0 : Option Nat) (v1 : Int32) (v2 : Int32) (v3 : Int32) (v4 : Option Nat) : zMetH l yL_suggested cL_suggested 6 (some .int) [(0, 12, 15, 29)] 9 209 [.inr (.inr v0), .inl v1, .inl v2, .inl v3, .inr (.inr v4)] zcI (p_L_suggested v0 v1 v2 v3 v4) :=
  zMetH.of (by decide +kernel) (Nat.le_of_ble_eq_true rfl) rfl (sim_L_suggested l hfl v0 v1 v2 v3 v4)
