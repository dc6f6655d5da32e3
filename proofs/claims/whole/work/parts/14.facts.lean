/-! facts of classes and methods -/
theorem lay_of {N : Nat} {ix : Nat → Nat} {C : String} {T : u_T} (h : (List.range N).all (fun k => decide (tables_1[ix k]? = some (u_lay C T k)) && goodWord (u_lay C T k)) = true) : ∀ w ∈ u_ws C T N, w ∈ lw_tbl ∧ goodWord w = true := by
  intro w hw
  obtain ⟨k, hk, rfl⟩ := List.mem_map.mp hw
  have h1 := List.all_eq_true.mp h k hk
  rw [Bool.and_eq_true] at h1
  exact ⟨List.mem_append_right _ (List.mem_of_getElem? (of_decide_eq_true h1.1)), h1.2⟩
theorem lay_0 : (List.range 3).all (fun k => decide (tables_1[([66, 62, 64] : List Nat).getD k 0]? = some (u_lay "java/util/ArrayList" TJx4a65c k)) && goodWord (u_lay "java/util/ArrayList" TJx4a65c k)) = true := by decide +kernel
theorem cls_0 : zCls 0 "java/util/ArrayList" TJx4a65c 3 tyJx4a65c := ⟨rfl, lay_of lay_0, tyJx4a65c_ok, nmJx4a65c⟩
theorem zck_0 : ∀ k, k < 3 → match zFT 0 k with | 1 => tyJx4a65c k = .long | 2 => (tyJx4a65c k).isReference = true | _ => tyJx4a65c k = .int ∨ tyJx4a65c k = .boolean := zck_of (by decide +kernel)
theorem lay_1 : (List.range 2).all (fun k => decide (tables_1[([161, 163] : List Nat).getD k 0]? = some (u_lay "SpellScribe$Grammar" TX0 k)) && goodWord (u_lay "SpellScribe$Grammar" TX0 k)) = true := by decide +kernel
theorem cls_1 : zCls 1 "SpellScribe$Grammar" TX0 2 tyX0 := ⟨rfl, lay_of lay_1, tyX0_ok, nmX0⟩
theorem zck_1 : ∀ k, k < 2 → match zFT 1 k with | 1 => tyX0 k = .long | 2 => (tyX0 k).isReference = true | _ => tyX0 k = .int ∨ tyX0 k = .boolean := zck_of (by decide +kernel)
theorem lay_2 : (List.range 3).all (fun k => decide (tables_1[([217, 219, 221] : List Nat).getD k 0]? = some (u_lay "SpellScribe$History" TX1 k)) && goodWord (u_lay "SpellScribe$History" TX1 k)) = true := by decide +kernel
theorem cls_2 : zCls 2 "SpellScribe$History" TX1 3 tyX1 := ⟨rfl, lay_of lay_2, tyX1_ok, nmX1⟩
theorem zck_2 : ∀ k, k < 3 → match zFT 2 k with | 1 => tyX1 k = .long | 2 => (tyX1 k).isReference = true | _ => tyX1 k = .int ∨ tyX1 k = .boolean := zck_of (by decide +kernel)
theorem lay_3 : (List.range 6).all (fun k => decide (tables_1[([105, 107, 109, 111, 113, 115] : List Nat).getD k 0]? = some (u_lay "SpellScribe$Lexicon" TX2 k)) && goodWord (u_lay "SpellScribe$Lexicon" TX2 k)) = true := by decide +kernel
theorem cls_3 : zCls 3 "SpellScribe$Lexicon" TX2 6 tyX2 := ⟨rfl, lay_of lay_3, tyX2_ok, nmX2⟩
theorem zck_3 : ∀ k, k < 6 → match zFT 3 k with | 1 => tyX2 k = .long | 2 => (tyX2 k).isReference = true | _ => tyX2 k = .int ∨ tyX2 k = .boolean := zck_of (by decide +kernel)
theorem lay_4 : (List.range 7).all (fun k => decide (tables_1[([239, 241, 243, 245, 247, 249, 251] : List Nat).getD k 0]? = some (u_lay "SpellScribe$Proof" TX3 k)) && goodWord (u_lay "SpellScribe$Proof" TX3 k)) = true := by decide +kernel
theorem cls_4 : zCls 4 "SpellScribe$Proof" TX3 7 tyX3 := ⟨rfl, lay_of lay_4, tyX3_ok, nmX3⟩
theorem zck_4 : ∀ k, k < 7 → match zFT 4 k with | 1 => tyX3 k = .long | 2 => (tyX3 k).isReference = true | _ => tyX3 k = .int ∨ tyX3 k = .boolean := zck_of (by decide +kernel)
theorem lay_5 : (List.range 1).all (fun k => decide (tables_1[([82] : List Nat).getD k 0]? = some (u_lay "SpellScribe$Row" TX4 k)) && goodWord (u_lay "SpellScribe$Row" TX4 k)) = true := by decide +kernel
theorem cls_5 : zCls 5 "SpellScribe$Row" TX4 1 tyX4 := ⟨rfl, lay_of lay_5, tyX4_ok, nmX4⟩
theorem zck_5 : ∀ k, k < 1 → match zFT 5 k with | 1 => tyX4 k = .long | 2 => (tyX4 k).isReference = true | _ => tyX4 k = .int ∨ tyX4 k = .boolean := zck_of (by decide +kernel)
theorem lay_6 : (List.range 8).all (fun k => decide (tables_1[([1007, 1009, 1011, 1013, 1015, 1017, 1019, 1021] : List Nat).getD k 0]? = some (u_lay "SpellScribe$Rule" TX5 k)) && goodWord (u_lay "SpellScribe$Rule" TX5 k)) = true := by decide +kernel
theorem cls_6 : zCls 6 "SpellScribe$Rule" TX5 8 tyX5 := ⟨rfl, lay_of lay_6, tyX5_ok, nmX5⟩
theorem zck_6 : ∀ k, k < 8 → match zFT 6 k with | 1 => tyX5 k = .long | 2 => (tyX5 k).isReference = true | _ => tyX5 k = .int ∨ tyX5 k = .boolean := zck_of (by decide +kernel)
theorem lay_7 : (List.range 5).all (fun k => decide (tables_1[([830, 832, 834, 836, 838] : List Nat).getD k 0]? = some (u_lay "SpellScribe$Stem" TX6 k)) && goodWord (u_lay "SpellScribe$Stem" TX6 k)) = true := by decide +kernel
theorem cls_7 : zCls 7 "SpellScribe$Stem" TX6 5 tyX6 := ⟨rfl, lay_of lay_7, tyX6_ok, nmX6⟩
theorem zck_7 : ∀ k, k < 5 → match zFT 7 k with | 1 => tyX6 k = .long | 2 => (tyX6 k).isReference = true | _ => tyX6 k = .int ∨ tyX6 k = .boolean := zck_of (by decide +kernel)
theorem lay_8 : (List.range 4).all (fun k => decide (tables_1[([270, 272, 274, 276] : List Nat).getD k 0]? = some (u_lay "SpellScribe$Style" TX7 k)) && goodWord (u_lay "SpellScribe$Style" TX7 k)) = true := by decide +kernel
theorem cls_8 : zCls 8 "SpellScribe$Style" TX7 4 tyX7 := ⟨rfl, lay_of lay_8, tyX7_ok, nmX7⟩
theorem zck_8 : ∀ k, k < 4 → match zFT 8 k with | 1 => tyX7 k = .long | 2 => (tyX7 k).isReference = true | _ => tyX7 k = .int ∨ tyX7 k = .boolean := zck_of (by decide +kernel)
theorem lay_9 : (List.range 8).all (fun k => decide (tables_1[([134, 136, 138, 140, 142, 144, 146, 148] : List Nat).getD k 0]? = some (u_lay "SpellScribe$Suggester" TX8 k)) && goodWord (u_lay "SpellScribe$Suggester" TX8 k)) = true := by decide +kernel
theorem cls_9 : zCls 9 "SpellScribe$Suggester" TX8 8 tyX8 := ⟨rfl, lay_of lay_9, tyX8_ok, nmX8⟩
theorem zck_9 : ∀ k, k < 8 → match zFT 9 k with | 1 => tyX8 k = .long | 2 => (tyX8 k).isReference = true | _ => tyX8 k = .int ∨ tyX8 k = .boolean := zck_of (by decide +kernel)
theorem lay_10 : (List.range 9).all (fun k => decide (tables_1[([187, 189, 191, 193, 195, 197, 199, 201, 203] : List Nat).getD k 0]? = some (u_lay "SpellScribe$Text" TX9 k)) && goodWord (u_lay "SpellScribe$Text" TX9 k)) = true := by decide +kernel
theorem cls_10 : zCls 10 "SpellScribe$Text" TX9 9 tyX9 := ⟨rfl, lay_of lay_10, tyX9_ok, nmX9⟩
theorem zck_10 : ∀ k, k < 9 → match zFT 10 k with | 1 => tyX9 k = .long | 2 => (tyX9 k).isReference = true | _ => tyX9 k = .int ∨ tyX9 k = .boolean := zck_of (by decide +kernel)
theorem lay_11 : (List.range 4).all (fun k => decide (tables_1[([90, 92, 94, 96] : List Nat).getD k 0]? = some (u_lay "SpellScribe$WordBook" TX10 k)) && goodWord (u_lay "SpellScribe$WordBook" TX10 k)) = true := by decide +kernel
theorem cls_11 : zCls 11 "SpellScribe$WordBook" TX10 4 tyX10 := ⟨rfl, lay_of lay_11, tyX10_ok, nmX10⟩
theorem zck_11 : ∀ k, k < 4 → match zFT 11 k with | 1 => tyX10 k = .long | 2 => (tyX10 k).isReference = true | _ => tyX10 k = .int ∨ tyX10 k = .boolean := zck_of (by decide +kernel)
theorem lay_12 : (List.range 13).all (fun k => decide (tables_1[([292, 294, 296, 298, 300, 302, 304, 306, 308, 310, 312, 314, 316] : List Nat).getD k 0]? = some (u_lay "SpellScribe" TX11 k)) && goodWord (u_lay "SpellScribe" TX11 k)) = true := by decide +kernel
theorem cls_12 : zCls 12 "SpellScribe" TX11 13 tyX11 := ⟨rfl, lay_of lay_12, tyX11_ok, nmX11⟩
theorem zck_12 : ∀ k, k < 13 → match zFT 12 k with | 1 => tyX11 k = .long | 2 => (tyX11 k).isReference = true | _ => tyX11 k = .int ∨ tyX11 k = .boolean := zck_of (by decide +kernel)
theorem lay_13 : (List.range 59).all (fun k => decide (tables_1[([1407, 1409, 1411, 1413, 1415, 1417, 1419, 1421, 1423, 1425, 1427, 1429, 1431, 1433, 1435, 1437, 1439, 1441, 1443, 1445, 1447, 1449, 1451, 1453, 1455, 1457, 1459, 1461, 1463, 1465, 1467, 1469, 1471, 1473, 1475, 1477, 1479, 1481, 1483, 1485, 1487, 1489, 1491, 1493, 1495, 1497, 1499, 1501, 1503, 1505, 1507, 1509, 1511, 1513, 1515, 1517, 1519, 1521, 1523] : List Nat).getD k 0]? = some (u_lay "SpellScribeModel" TX12 k)) && goodWord (u_lay "SpellScribeModel" TX12 k)) = true := by decide +kernel
theorem cls_13 : zCls 13 "SpellScribeModel" TX12 59 tyX12 := ⟨rfl, lay_of lay_13, tyX12_ok, nmX12⟩
theorem zck_13 : ∀ k, k < 59 → match zFT 13 k with | 1 => tyX12 k = .long | 2 => (tyX12 k).isReference = true | _ => tyX12 k = .int ∨ tyX12 k = .boolean := zck_of (by decide +kernel)
theorem mth_X11_init : zMth yX11_init cX11_init 1 none 0 := ⟨w_33, w_1, by decide +kernel, by decide +kernel, by decide +kernel⟩
theorem mth_X11_bar : zMth yX11_bar cX11_bar 1 (some .int) 0 := ⟨w_1104, w_1, by decide +kernel, by decide +kernel, by decide +kernel⟩
theorem mth_X11_changeOnce : zMth yX11_changeOnce cX11_changeOnce 3 (some .boolean) 0 := ⟨w_525, w_1, by decide +kernel, by decide +kernel, by decide +kernel⟩
theorem mth_X11_changeWord : zMth yX11_changeWord cX11_changeWord 3 (some .boolean) 2 := ⟨w_612, w_1, by decide +kernel, by decide +kernel, by decide +kernel⟩
theorem mth_X11_checkEdit : zMth yX11_checkEdit cX11_checkEdit 1 (some .int) 0 := ⟨w_1198, w_1, by decide +kernel, by decide +kernel, by decide +kernel⟩
theorem mth_X11_correct : zMth yX11_correct cX11_correct 2 (some .int) 0 := ⟨w_333, w_1, by decide +kernel, by decide +kernel, by decide +kernel⟩
theorem mth_X11_cost : zMth yX11_cost cX11_cost 3 (some .int) 2 := ⟨w_1323, w_1, by decide +kernel, by decide +kernel, by decide +kernel⟩
theorem mth_X11_forgetAnswers : zMth yX11_forgetAnswers cX11_forgetAnswers 1 none 0 := ⟨w_661, w_1, by decide +kernel, by decide +kernel, by decide +kernel⟩
theorem mth_X11_hasSuggestion : zMth yX11_hasSuggestion cX11_hasSuggestion 3 (some .boolean) 2 := ⟨w_1327, w_1, by decide +kernel, by decide +kernel, by decide +kernel⟩
theorem mth_X11_hasWord : zMth yX11_hasWord cX11_hasWord 2 (some .boolean) 1 := ⟨w_1128, w_1, by decide +kernel, by decide +kernel, by decide +kernel⟩
theorem mth_X11_ignore : zMth yX11_ignore cX11_ignore 4 (some .int) 1 := ⟨w_1124, w_1, by decide +kernel, by decide +kernel, by decide +kernel⟩
theorem mth_X11_isIn : zMth yX11_isIn cX11_isIn 3 (some .boolean) 3 := ⟨w_506, w_1, by decide +kernel, by decide +kernel, by decide +kernel⟩
theorem mth_X11_isLetter : zMth yX11_isLetter cX11_isLetter 1 (some .boolean) 1 := ⟨w_645, w_1, by decide +kernel, by decide +kernel, by decide +kernel⟩
theorem mth_X11_isReading : zMth yX11_isReading cX11_isReading 2 (some .boolean) 2 := ⟨w_806, w_1, by decide +kernel, by decide +kernel, by decide +kernel⟩
theorem mth_X11_isRight : zMth yX11_isRight cX11_isRight 2 (some .boolean) 1 := ⟨w_1241, w_1, by decide +kernel, by decide +kernel, by decide +kernel⟩
theorem mth_X11_isRightPart : zMth yX11_isRightPart cX11_isRightPart 4 (some .boolean) 3 := ⟨w_1274, w_1, by decide +kernel, by decide +kernel, by decide +kernel⟩
theorem mth_X11_isSign : zMth yX11_isSign cX11_isSign 1 (some .boolean) 1 := ⟨w_1186, w_1, by decide +kernel, by decide +kernel, by decide +kernel⟩
theorem mth_X11_item : zMth yX11_item cX11_item 2 (some .int) 1 := ⟨w_1153, w_1, by decide +kernel, by decide +kernel, by decide +kernel⟩
theorem mth_X11_joined : zMth yX11_joined cX11_joined 3 (some .int) 2 := ⟨w_955, w_1, by decide +kernel, by decide +kernel, by decide +kernel⟩
theorem mth_X11_length : zMth yX11_length cX11_length 1 (some .int) 0 := ⟨w_680, w_1, by decide +kernel, by decide +kernel, by decide +kernel⟩
theorem mth_X11_letter : zMth yX11_letter cX11_letter 2 (some .int) 1 := ⟨w_710, w_1, by decide +kernel, by decide +kernel, by decide +kernel⟩
theorem mth_X11_letterOf : zMth yX11_letterOf cX11_letterOf 2 (some .int) 2 := ⟨w_398, w_1, by decide +kernel, by decide +kernel, by decide +kernel⟩
theorem mth_X11_listSuggestions : zMth yX11_listSuggestions cX11_listSuggestions 2 none 1 := ⟨w_530, w_1, by decide +kernel, by decide +kernel, by decide +kernel⟩
theorem mth_X11_made : zMth yX11_made cX11_made 1 (some .int) 0 := ⟨w_696, w_1, by decide +kernel, by decide +kernel, by decide +kernel⟩
theorem mth_X11_mistakeAt : zMth yX11_mistakeAt cX11_mistakeAt 2 (some .int) 1 := ⟨w_1298, w_1, by decide +kernel, by decide +kernel, by decide +kernel⟩
theorem mth_X11_mistakeKind : zMth yX11_mistakeKind cX11_mistakeKind 2 (some .int) 1 := ⟨w_1286, w_1, by decide +kernel, by decide +kernel, by decide +kernel⟩
theorem mth_X11_mistakes : zMth yX11_mistakes cX11_mistakes 1 (some .int) 0 := ⟨w_688, w_1, by decide +kernel, by decide +kernel, by decide +kernel⟩
theorem mth_X11_more : zMth yX11_more cX11_more 5 (some .int) 2 := ⟨w_1035, w_1, by decide +kernel, by decide +kernel, by decide +kernel⟩
theorem mth_X11_own : zMth yX11_own cX11_own 3 (some .int) 2 := ⟨w_1077, w_1, by decide +kernel, by decide +kernel, by decide +kernel⟩
theorem mth_X11_partOf : zMth yX11_partOf cX11_partOf 5 (some .int) 3 := ⟨w_405, w_1, by decide +kernel, by decide +kernel, by decide +kernel⟩
theorem mth_X11_proofread : zMth yX11_proofread cX11_proofread 2 none 0 := ⟨w_361, w_1, by decide +kernel, by decide +kernel, by decide +kernel⟩
theorem mth_X11_put : zMth yX11_put cX11_put 3 (some .int) 2 := ⟨w_1182, w_1, by decide +kernel, by decide +kernel, by decide +kernel⟩
theorem mth_X11_reading : zMth yX11_reading cX11_reading 2 (some .int) 1 := ⟨w_1259, w_1, by decide +kernel, by decide +kernel, by decide +kernel⟩
theorem mth_X11_readingOf : zMth yX11_readingOf cX11_readingOf 2 (some .int) 2 := ⟨w_933, w_1, by decide +kernel, by decide +kernel, by decide +kernel⟩
theorem mth_X11_readings : zMth yX11_readings cX11_readings 2 (some .int) 1 := ⟨w_1248, w_1, by decide +kernel, by decide +kernel, by decide +kernel⟩
theorem mth_X11_rule : zMth yX11_rule cX11_rule 11 (some .int) 6 := ⟨w_984, w_1, by decide +kernel, by decide +kernel, by decide +kernel⟩
theorem mth_X11_scrap : zMth yX11_scrap cX11_scrap 1 (some .int) 0 := ⟨w_322, w_1, by decide +kernel, by decide +kernel, by decide +kernel⟩
theorem mth_X11_signAt : zMth yX11_signAt cX11_signAt 2 (some .char) 1 := ⟨w_1225, w_1, by decide +kernel, by decide +kernel, by decide +kernel⟩
theorem mth_X11_sizeOf : zMth yX11_sizeOf cX11_sizeOf 3 (some .int) 1 := ⟨w_329, w_1, by decide +kernel, by decide +kernel, by decide +kernel⟩
theorem mth_X11_sound : zMth yX11_sound cX11_sound 4 (some .boolean) 2 := ⟨w_1065, w_1, by decide +kernel, by decide +kernel, by decide +kernel⟩
theorem mth_X11_split : zMth yX11_split cX11_split 4 (some .int) 1 := ⟨w_1270, w_1, by decide +kernel, by decide +kernel, by decide +kernel⟩
theorem mth_X11_stem : zMth yX11_stem cX11_stem 6 (some .int) 4 := ⟨w_803, w_1, by decide +kernel, by decide +kernel, by decide +kernel⟩
theorem mth_X11_style : zMth yX11_style cX11_style 2 (some .int) 1 := ⟨w_1167, w_1, by decide +kernel, by decide +kernel, by decide +kernel⟩
theorem mth_X11_styleNumbered : zMth yX11_styleNumbered cX11_styleNumbered 2 (some (.object "SpellScribe$Style")) 2 := ⟨w_501, w_1, by decide +kernel, by decide +kernel, by decide +kernel⟩
theorem mth_X11_suggested : zMth yX11_suggested cX11_suggested 5 (some .char) 3 := ⟨w_1339, w_1, by decide +kernel, by decide +kernel, by decide +kernel⟩
theorem mth_X11_suggestions : zMth yX11_suggestions cX11_suggestions 2 (some .int) 1 := ⟨w_1309, w_1, by decide +kernel, by decide +kernel, by decide +kernel⟩
theorem mth_X11_suggestionsByAll : zMth yX11_suggestionsByAll cX11_suggestionsByAll 2 (some .int) 1 := ⟨w_1316, w_1, by decide +kernel, by decide +kernel, by decide +kernel⟩
theorem mth_X11_take : zMth yX11_take cX11_take 2 (some .int) 1 := ⟨w_1217, w_1, by decide +kernel, by decide +kernel, by decide +kernel⟩
theorem mth_X11_takeDraft : zMth yX11_takeDraft cX11_takeDraft 2 (some .int) 0 := ⟨w_326, w_1, by decide +kernel, by decide +kernel, by decide +kernel⟩
theorem mth_X11_tell : zMth yX11_tell cX11_tell 4 (some .int) 3 := ⟨w_1141, w_1, by decide +kernel, by decide +kernel, by decide +kernel⟩
theorem mth_X11_withLetter : zMth yX11_withLetter cX11_withLetter 2 (some .int) 2 := ⟨w_653, w_1, by decide +kernel, by decide +kernel, by decide +kernel⟩
theorem mth_X11_wordAt : zMth yX11_wordAt cX11_wordAt 2 (some .int) 1 := ⟨w_1233, w_1, by decide +kernel, by decide +kernel, by decide +kernel⟩
theorem mth_X11_words : zMth yX11_words cX11_words 1 (some .int) 0 := ⟨w_684, w_1, by decide +kernel, by decide +kernel, by decide +kernel⟩
theorem mth_X0_init : zMth yX0_init cX0_init 1 none 0 := ⟨w_155, w_9, by decide +kernel, by decide +kernel, by decide +kernel⟩
theorem mth_X0_bestReading : zMth yX0_bestReading cX0_bestReading 8 (some .int) 3 := ⟨w_431, w_9, by decide +kernel, by decide +kernel, by decide +kernel⟩
theorem mth_X0_changeTold : zMth yX0_changeTold cX0_changeTold 5 (some .int) 3 := ⟨w_1146, w_9, by decide +kernel, by decide +kernel, by decide +kernel⟩
theorem mth_X0_choose : zMth yX0_choose cX0_choose 9 none 4 := ⟨w_426, w_9, by decide +kernel, by decide +kernel, by decide +kernel⟩
theorem mth_X0_countBroken : zMth yX0_countBroken cX0_countBroken 5 (some .int) 3 := ⟨w_436, w_9, by decide +kernel, by decide +kernel, by decide +kernel⟩
theorem mth_X0_isBroken : zMth yX0_isBroken cX0_isBroken 4 (some .boolean) 2 := ⟨w_440, w_9, by decide +kernel, by decide +kernel, by decide +kernel⟩
theorem mth_X0_setFewest : zMth yX0_setFewest cX0_setFewest 4 none 3 := ⟨w_444, w_9, by decide +kernel, by decide +kernel, by decide +kernel⟩
theorem mth_X1_init : zMth yX1_init cX1_init 1 none 0 := ⟨w_210, w_11, by decide +kernel, by decide +kernel, by decide +kernel⟩
theorem mth_X1_begin : zMth yX1_begin cX1_begin 2 none 1 := ⟨w_337, w_11, by decide +kernel, by decide +kernel, by decide +kernel⟩
theorem mth_X1_holds : zMth yX1_holds cX1_holds 3 (some .boolean) 1 := ⟨w_670, w_11, by decide +kernel, by decide +kernel, by decide +kernel⟩
theorem mth_X1_isLike : zMth yX1_isLike cX1_isLike 4 (some .boolean) 2 := ⟨w_675, w_11, by decide +kernel, by decide +kernel, by decide +kernel⟩
theorem mth_X1_keep : zMth yX1_keep cX1_keep 3 none 1 := ⟨w_341, w_11, by decide +kernel, by decide +kernel, by decide +kernel⟩
theorem mth_X2_init : zMth yX2_init cX2_init 1 none 0 := ⟨w_41, w_2, by decide +kernel, by decide +kernel, by decide +kernel⟩
theorem mth_X2_addBarred : zMth yX2_addBarred cX2_addBarred 2 none 1 := ⟨w_1113, w_2, by decide +kernel, by decide +kernel, by decide +kernel⟩
theorem mth_X2_addOwn : zMth yX2_addOwn cX2_addOwn 3 none 2 := ⟨w_1088, w_2, by decide +kernel, by decide +kernel, by decide +kernel⟩
theorem mth_X2_addRule : zMth yX2_addRule cX2_addRule 2 (some .int) 1 := ⟨w_1027, w_2, by decide +kernel, by decide +kernel, by decide +kernel⟩
theorem mth_X2_addStem : zMth yX2_addStem cX2_addStem 2 (some .int) 1 := ⟨w_844, w_2, by decide +kernel, by decide +kernel, by decide +kernel⟩
theorem mth_X2_barredCount : zMth yX2_barredCount cX2_barredCount 1 (some .int) 0 := ⟨w_1117, w_2, by decide +kernel, by decide +kernel, by decide +kernel⟩
theorem mth_X2_canBeBorder : zMth yX2_canBeBorder cX2_canBeBorder 3 (some .boolean) 2 := ⟨w_395, w_2, by decide +kernel, by decide +kernel, by decide +kernel⟩
theorem mth_X2_hasRoomForBarred : zMth yX2_hasRoomForBarred cX2_hasRoomForBarred 2 (some .boolean) 1 := ⟨w_1108, w_2, by decide +kernel, by decide +kernel, by decide +kernel⟩
theorem mth_X2_hasRoomForOwn : zMth yX2_hasRoomForOwn cX2_hasRoomForOwn 2 (some .boolean) 1 := ⟨w_1082, w_2, by decide +kernel, by decide +kernel, by decide +kernel⟩
theorem mth_X2_isBarred : zMth yX2_isBarred cX2_isBarred 2 (some .boolean) 1 := ⟨w_377, w_2, by decide +kernel, by decide +kernel, by decide +kernel⟩
theorem mth_X2_listSuggestable : zMth yX2_listSuggestable cX2_listSuggestable 3 none 0 := ⟨w_971, w_2, by decide +kernel, by decide +kernel, by decide +kernel⟩
theorem mth_X2_madeCount : zMth yX2_madeCount cX2_madeCount 1 (some .int) 0 := ⟨w_700, w_2, by decide +kernel, by decide +kernel, by decide +kernel⟩
theorem mth_X2_makeOf : zMth yX2_makeOf cX2_makeOf 7 none 1 := ⟨w_922, w_2, by decide +kernel, by decide +kernel, by decide +kernel⟩
theorem mth_X2_makeSecondEndings : zMth yX2_makeSecondEndings cX2_makeSecondEndings 9 none 5 := ⟨w_967, w_2, by decide +kernel, by decide +kernel, by decide +kernel⟩
theorem mth_X2_makeWithBeginnings : zMth yX2_makeWithBeginnings cX2_makeWithBeginnings 9 none 4 := ⟨w_926, w_2, by decide +kernel, by decide +kernel, by decide +kernel⟩
theorem mth_X2_ownCount : zMth yX2_ownCount cX2_ownCount 1 (some .int) 0 := ⟨w_1097, w_2, by decide +kernel, by decide +kernel, by decide +kernel⟩
theorem mth_X2_readingsAsJoin : zMth yX2_readingsAsJoin cX2_readingsAsJoin 6 (some .int) 1 := ⟨w_390, w_2, by decide +kernel, by decide +kernel, by decide +kernel⟩
theorem mth_X2_readingsInJoin : zMth yX2_readingsInJoin cX2_readingsInJoin 4 (some .int) 3 := ⟨w_402, w_2, by decide +kernel, by decide +kernel, by decide +kernel⟩
theorem mth_X2_readingsOf : zMth yX2_readingsOf cX2_readingsOf 2 (some .int) 1 := ⟨w_373, w_2, by decide +kernel, by decide +kernel, by decide +kernel⟩
theorem mth_X2_remake : zMth yX2_remake cX2_remake 2 none 0 := ⟨w_911, w_2, by decide +kernel, by decide +kernel, by decide +kernel⟩
theorem mth_X2_ruleAt : zMth yX2_ruleAt cX2_ruleAt 2 (some (.object "SpellScribe$Rule")) 1 := ⟨w_1039, w_2, by decide +kernel, by decide +kernel, by decide +kernel⟩
theorem mth_X2_ruleCount : zMth yX2_ruleCount cX2_ruleCount 1 (some .int) 0 := ⟨w_989, w_2, by decide +kernel, by decide +kernel, by decide +kernel⟩
theorem mth_X2_stemCount : zMth yX2_stemCount cX2_stemCount 1 (some .int) 0 := ⟨w_811, w_2, by decide +kernel, by decide +kernel, by decide +kernel⟩
theorem mth_X2_suggestable : zMth yX2_suggestable cX2_suggestable 1 (some (.object "SpellScribe$WordBook")) 0 := ⟨w_534, w_2, by decide +kernel, by decide +kernel, by decide +kernel⟩
theorem mth_X3_init : zMth yX3_init cX3_init 1 none 0 := ⟨w_228, w_12, by decide +kernel, by decide +kernel, by decide +kernel⟩
theorem mth_X3_addMistake : zMth yX3_addMistake cX3_addMistake 3 none 2 := ⟨w_521, w_12, by decide +kernel, by decide +kernel, by decide +kernel⟩
theorem mth_X3_chosenReading : zMth yX3_chosenReading cX3_chosenReading 2 (some .int) 1 := ⟨w_1263, w_12, by decide +kernel, by decide +kernel, by decide +kernel⟩
theorem mth_X3_isSpelledRight : zMth yX3_isSpelledRight cX3_isSpelledRight 2 (some .boolean) 1 := ⟨w_517, w_12, by decide +kernel, by decide +kernel, by decide +kernel⟩
theorem mth_X3_kindOfMistake : zMth yX3_kindOfMistake cX3_kindOfMistake 2 (some .int) 1 := ⟨w_1291, w_12, by decide +kernel, by decide +kernel, by decide +kernel⟩
theorem mth_X3_listMistakes : zMth yX3_listMistakes cX3_listMistakes 3 none 1 := ⟨w_513, w_12, by decide +kernel, by decide +kernel, by decide +kernel⟩
theorem mth_X3_lowestFit : zMth yX3_lowestFit cX3_lowestFit 6 (some .int) 4 := ⟨w_459, w_12, by decide +kernel, by decide +kernel, by decide +kernel⟩
theorem mth_X3_markBroken : zMth yX3_markBroken cX3_markBroken 6 none 3 := ⟨w_449, w_12, by decide +kernel, by decide +kernel, by decide +kernel⟩
theorem mth_X3_mistakeCount : zMth yX3_mistakeCount cX3_mistakeCount 1 (some .int) 0 := ⟨w_692, w_12, by decide +kernel, by decide +kernel, by decide +kernel⟩
theorem mth_X3_read : zMth yX3_read cX3_read 7 none 3 := ⟨w_414, w_12, by decide +kernel, by decide +kernel, by decide +kernel⟩
theorem mth_X3_readingSet : zMth yX3_readingSet cX3_readingSet 2 (some .int) 1 := ⟨w_1252, w_12, by decide +kernel, by decide +kernel, by decide +kernel⟩
theorem mth_X3_setReadings : zMth yX3_setReadings cX3_setReadings 3 none 2 := ⟨w_409, w_12, by decide +kernel, by decide +kernel, by decide +kernel⟩
theorem mth_X3_takeStyles : zMth yX3_takeStyles cX3_takeStyles 9 none 4 := ⟨w_455, w_12, by decide +kernel, by decide +kernel, by decide +kernel⟩
theorem mth_X3_takenStyle : zMth yX3_takenStyle cX3_takenStyle 2 (some .int) 1 := ⟨w_665, w_12, by decide +kernel, by decide +kernel, by decide +kernel⟩
theorem mth_X3_wordOfMistake : zMth yX3_wordOfMistake cX3_wordOfMistake 2 (some .int) 1 := ⟨w_1302, w_12, by decide +kernel, by decide +kernel, by decide +kernel⟩
theorem mth_X4_init : zMth yX4_init cX4_init 2 none 1 := ⟨w_79, w_7, by decide +kernel, by decide +kernel, by decide +kernel⟩
theorem mth_X4_get : zMth yX4_get cX4_get 2 (some .int) 1 := ⟨w_357, w_7, by decide +kernel, by decide +kernel, by decide +kernel⟩
theorem mth_X4_insert : zMth yX4_insert cX4_insert 4 none 3 := ⟨w_597, w_7, by decide +kernel, by decide +kernel, by decide +kernel⟩
theorem mth_X4_remove : zMth yX4_remove cX4_remove 3 none 2 := ⟨w_631, w_7, by decide +kernel, by decide +kernel, by decide +kernel⟩
theorem mth_X4_set : zMth yX4_set cX4_set 3 none 2 := ⟨w_349, w_7, by decide +kernel, by decide +kernel, by decide +kernel⟩
theorem mth_X5_init : zMth yX5_init cX5_init 8 none 7 := ⟨w_995, w_27, by decide +kernel, by decide +kernel, by decide +kernel⟩
theorem mth_X5_formAfter : zMth yX5_formAfter cX5_formAfter 2 (some .int) 1 := ⟨w_963, w_27, by decide +kernel, by decide +kernel, by decide +kernel⟩
theorem mth_X5_isAmong : zMth yX5_isAmong cX5_isAmong 3 (some .boolean) 2 := ⟨w_945, w_27, by decide +kernel, by decide +kernel, by decide +kernel⟩
theorem mth_X5_kindAfter : zMth yX5_kindAfter cX5_kindAfter 2 (some .int) 1 := ⟨w_959, w_27, by decide +kernel, by decide +kernel, by decide +kernel⟩
theorem mth_X5_usedOn : zMth yX5_usedOn cX5_usedOn 3 (some .int) 1 := ⟨w_949, w_27, by decide +kernel, by decide +kernel, by decide +kernel⟩
theorem mth_X6_init : zMth yX6_init cX6_init 6 none 5 := ⟨w_819, w_20, by decide +kernel, by decide +kernel, by decide +kernel⟩
theorem mth_X6_knownWith : zMth yX6_knownWith cX6_knownWith 6 (some .int) 2 := ⟨w_930, w_20, by decide +kernel, by decide +kernel, by decide +kernel⟩
theorem mth_X7_init : zMth yX7_init cX7_init 1 none 0 := ⟨w_258, w_13, by decide +kernel, by decide +kernel, by decide +kernel⟩
theorem mth_X7_addItem : zMth yX7_addItem cX7_addItem 2 none 1 := ⟨w_1159, w_13, by decide +kernel, by decide +kernel, by decide +kernel⟩
theorem mth_X7_fits : zMth yX7_fits cX7_fits 6 (some .boolean) 4 := ⟨w_493, w_13, by decide +kernel, by decide +kernel, by decide +kernel⟩
theorem mth_X7_fitsItem : zMth yX7_fitsItem cX7_fitsItem 3 (some .boolean) 3 := ⟨w_498, w_13, by decide +kernel, by decide +kernel, by decide +kernel⟩
theorem mth_X7_setChange : zMth yX7_setChange cX7_setChange 3 none 2 := ⟨w_1173, w_13, by decide +kernel, by decide +kernel, by decide +kernel⟩
theorem mth_X8_init : zMth yX8_init cX8_init 1 none 0 := ⟨w_122, w_8, by decide +kernel, by decide +kernel, by decide +kernel⟩
theorem mth_X8_addSound : zMth yX8_addSound cX8_addSound 4 (some .boolean) 2 := ⟨w_1070, w_8, by decide +kernel, by decide +kernel, by decide +kernel⟩
theorem mth_X8_addSuggestion : zMth yX8_addSuggestion cX8_addSuggestion 4 none 2 := ⟨w_593, w_8, by decide +kernel, by decide +kernel, by decide +kernel⟩
theorem mth_X8_costBefore : zMth yX8_costBefore cX8_costBefore 5 (some .int) 3 := ⟨w_579, w_8, by decide +kernel, by decide +kernel, by decide +kernel⟩
theorem mth_X8_costOfListed : zMth yX8_costOfListed cX8_costOfListed 3 (some .int) 1 := ⟨w_1332, w_8, by decide +kernel, by decide +kernel, by decide +kernel⟩
theorem mth_X8_costTo : zMth yX8_costTo cX8_costTo 7 (some .int) 2 := ⟨w_559, w_8, by decide +kernel, by decide +kernel, by decide +kernel⟩
theorem mth_X8_costToBecome : zMth yX8_costToBecome cX8_costToBecome 5 (some .int) 2 := ⟨w_584, w_8, by decide +kernel, by decide +kernel, by decide +kernel⟩
theorem mth_X8_count : zMth yX8_count cX8_count 1 (some .int) 0 := ⟨w_604, w_8, by decide +kernel, by decide +kernel, by decide +kernel⟩
theorem mth_X8_isSwapped : zMth yX8_isSwapped cX8_isSwapped 3 (some .boolean) 2 := ⟨w_588, w_8, by decide +kernel, by decide +kernel, by decide +kernel⟩
theorem mth_X8_leastCost : zMth yX8_leastCost cX8_leastCost 6 (some .int) 3 := ⟨w_575, w_8, by decide +kernel, by decide +kernel, by decide +kernel⟩
theorem mth_X8_list : zMth yX8_list cX8_list 8 none 4 := ⟨w_538, w_8, by decide +kernel, by decide +kernel, by decide +kernel⟩
theorem mth_X8_listedWord : zMth yX8_listedWord cX8_listedWord 2 (some .int) 1 := ⟨w_608, w_8, by decide +kernel, by decide +kernel, by decide +kernel⟩
theorem mth_X9_init : zMth yX9_init cX9_init 1 none 0 := ⟨w_174, w_10, by decide +kernel, by decide +kernel, by decide +kernel⟩
theorem mth_X9_addLetter : zMth yX9_addLetter cX9_addLetter 6 none 3 := ⟨w_649, w_10, by decide +kernel, by decide +kernel, by decide +kernel⟩
theorem mth_X9_becomeLike : zMth yX9_becomeLike cX9_becomeLike 3 none 1 := ⟨w_1192, w_10, by decide +kernel, by decide +kernel, by decide +kernel⟩
theorem mth_X9_countLike : zMth yX9_countLike cX9_countLike 6 (some .int) 3 := ⟨w_1206, w_10, by decide +kernel, by decide +kernel, by decide +kernel⟩
theorem mth_X9_endSentence : zMth yX9_endSentence cX9_endSentence 2 none 1 := ⟨w_657, w_10, by decide +kernel, by decide +kernel, by decide +kernel⟩
theorem mth_X9_findWords : zMth yX9_findWords cX9_findWords 6 none 0 := ⟨w_642, w_10, by decide +kernel, by decide +kernel, by decide +kernel⟩
theorem mth_X9_firstWordOf : zMth yX9_firstWordOf cX9_firstWordOf 2 (some .int) 1 := ⟨w_422, w_10, by decide +kernel, by decide +kernel, by decide +kernel⟩
theorem mth_X9_insertSign : zMth yX9_insertSign cX9_insertSign 3 none 2 := ⟨w_637, w_10, by decide +kernel, by decide +kernel, by decide +kernel⟩
theorem mth_X9_isLike : zMth yX9_isLike cX9_isLike 8 (some .boolean) 3 := ⟨w_1210, w_10, by decide +kernel, by decide +kernel, by decide +kernel⟩
theorem mth_X9_letterOfWord : zMth yX9_letterOfWord cX9_letterOfWord 3 (some .int) 2 := ⟨w_546, w_10, by decide +kernel, by decide +kernel, by decide +kernel⟩
theorem mth_X9_partOfWord : zMth yX9_partOfWord cX9_partOfWord 6 (some .int) 3 := ⟨w_1278, w_10, by decide +kernel, by decide +kernel, by decide +kernel⟩
theorem mth_X9_removeSign : zMth yX9_removeSign cX9_removeSign 2 none 1 := ⟨w_627, w_10, by decide +kernel, by decide +kernel, by decide +kernel⟩
theorem mth_X9_replaceWord : zMth yX9_replaceWord cX9_replaceWord 5 none 2 := ⟨w_618, w_10, by decide +kernel, by decide +kernel, by decide +kernel⟩
theorem mth_X9_sentenceCount : zMth yX9_sentenceCount cX9_sentenceCount 1 (some .int) 0 := ⟨w_418, w_10, by decide +kernel, by decide +kernel, by decide +kernel⟩
theorem mth_X9_signOn : zMth yX9_signOn cX9_signOn 2 (some .char) 1 := ⟨w_353, w_10, by decide +kernel, by decide +kernel, by decide +kernel⟩
theorem mth_X9_size : zMth yX9_size cX9_size 1 (some .int) 0 := ⟨w_345, w_10, by decide +kernel, by decide +kernel, by decide +kernel⟩
theorem mth_X9_wordCount : zMth yX9_wordCount cX9_wordCount 1 (some .int) 0 := ⟨w_365, w_10, by decide +kernel, by decide +kernel, by decide +kernel⟩
theorem mth_X9_wordNumbered : zMth yX9_wordNumbered cX9_wordNumbered 2 (some .int) 1 := ⟨w_369, w_10, by decide +kernel, by decide +kernel, by decide +kernel⟩
theorem mth_X9_wordSize : zMth yX9_wordSize cX9_wordSize 2 (some .int) 1 := ⟨w_542, w_10, by decide +kernel, by decide +kernel, by decide +kernel⟩
theorem mth_X9_wordStart : zMth yX9_wordStart cX9_wordStart 2 (some .int) 1 := ⟨w_622, w_10, by decide +kernel, by decide +kernel, by decide +kernel⟩
theorem mth_X9_wordsCheckedSince : zMth yX9_wordsCheckedSince cX9_wordsCheckedSince 5 (some .int) 1 := ⟨w_1202, w_10, by decide +kernel, by decide +kernel, by decide +kernel⟩
theorem mth_X10_init : zMth yX10_init cX10_init 2 none 1 := ⟨w_73, w_6, by decide +kernel, by decide +kernel, by decide +kernel⟩
theorem mth_X10_clear : zMth yX10_clear cX10_clear 1 none 0 := ⟨w_915, w_6, by decide +kernel, by decide +kernel, by decide +kernel⟩
theorem mth_X10_count : zMth yX10_count cX10_count 1 (some .int) 0 := ⟨w_551, w_6, by decide +kernel, by decide +kernel, by decide +kernel⟩
theorem mth_X10_drop : zMth yX10_drop cX10_drop 3 none 1 := ⟨w_1092, w_6, by decide +kernel, by decide +kernel, by decide +kernel⟩
theorem mth_X10_placeOf : zMth yX10_placeOf cX10_placeOf 6 (some .int) 1 := ⟨w_385, w_6, by decide +kernel, by decide +kernel, by decide +kernel⟩
theorem mth_X10_store : zMth yX10_store cX10_store 4 none 2 := ⟨w_938, w_6, by decide +kernel, by decide +kernel, by decide +kernel⟩
theorem mth_X10_valueOf : zMth yX10_valueOf cX10_valueOf 3 (some .int) 1 := ⟨w_381, w_6, by decide +kernel, by decide +kernel, by decide +kernel⟩
theorem mth_X10_valueOn : zMth yX10_valueOn cX10_valueOn 2 (some .int) 1 := ⟨w_976, w_6, by decide +kernel, by decide +kernel, by decide +kernel⟩
theorem mth_X10_wordOn : zMth yX10_wordOn cX10_wordOn 2 (some .int) 1 := ⟨w_555, w_6, by decide +kernel, by decide +kernel, by decide +kernel⟩
theorem mth_X12_init : zMth yX12_init cX12_init 1 none 0 := ⟨w_1346, w_14, by decide +kernel, by decide +kernel, by decide +kernel⟩
theorem mth_X12_away : zMth yX12_away cX12_away 1 (some .int) 1 := ⟨w_1739, w_14, by decide +kernel, by decide +kernel, by decide +kernel⟩
theorem mth_X12_bar : zMth yX12_bar cX12_bar 2 (some .int) 0 := ⟨w_1580, w_14, by decide +kernel, by decide +kernel, by decide +kernel⟩
theorem mth_X12_barOf : zMth yX12_barOf cX12_barOf 4 (some .int) 1 := ⟨w_1576, w_14, by decide +kernel, by decide +kernel, by decide +kernel⟩
theorem mth_X12_begins : zMth yX12_begins cX12_begins 9 none 4 := ⟨w_1600, w_14, by decide +kernel, by decide +kernel, by decide +kernel⟩
theorem mth_X12_both : zMth yX12_both cX12_both 4 (some .long) 2 := ⟨w_1624, w_14, by decide +kernel, by decide +kernel, by decide +kernel⟩
theorem mth_X12_breaks : zMth yX12_breaks cX12_breaks 4 (some .boolean) 2 := ⟨w_1673, w_14, by decide +kernel, by decide +kernel, by decide +kernel⟩
theorem mth_X12_changes : zMth yX12_changes cX12_changes 7 (some .boolean) 2 := ⟨w_1754, w_14, by decide +kernel, by decide +kernel, by decide +kernel⟩
theorem mth_X12_checks : zMth yX12_checks cX12_checks 6 (some .int) 0 := ⟨w_1705, w_14, by decide +kernel, by decide +kernel, by decide +kernel⟩
theorem mth_X12_chooses : zMth yX12_chooses cX12_chooses 7 none 0 := ⟨w_1657, w_14, by decide +kernel, by decide +kernel, by decide +kernel⟩
theorem mth_X12_correct : zMth yX12_correct cX12_correct 3 (some .int) 0 := ⟨w_1720, w_14, by decide +kernel, by decide +kernel, by decide +kernel⟩
theorem mth_X12_correctsOnce : zMth yX12_correctsOnce cX12_correctsOnce 2 (some .boolean) 0 := ⟨w_1728, w_14, by decide +kernel, by decide +kernel, by decide +kernel⟩
theorem mth_X12_cost : zMth yX12_cost cX12_cost 3 (some .int) 2 := ⟨w_1827, w_14, by decide +kernel, by decide +kernel, by decide +kernel⟩
theorem mth_X12_costOf : zMth yX12_costOf cX12_costOf 12 (some .int) 2 := ⟨w_1743, w_14, by decide +kernel, by decide +kernel, by decide +kernel⟩
theorem mth_X12_endOf : zMth yX12_endOf cX12_endOf 6 (some .int) 3 := ⟨w_1708, w_14, by decide +kernel, by decide +kernel, by decide +kernel⟩
theorem mth_X12_endings : zMth yX12_endings cX12_endings 16 none 6 := ⟨w_1631, w_14, by decide +kernel, by decide +kernel, by decide +kernel⟩
theorem mth_X12_fewestFrom : zMth yX12_fewestFrom cX12_fewestFrom 6 (some .int) 2 := ⟨w_1661, w_14, by decide +kernel, by decide +kernel, by decide +kernel⟩
theorem mth_X12_finds : zMth yX12_finds cX12_finds 8 none 0 := ⟨w_1635, w_14, by decide +kernel, by decide +kernel, by decide +kernel⟩
theorem mth_X12_firstOf : zMth yX12_firstOf cX12_firstOf 2 (some .int) 1 := ⟨w_1621, w_14, by decide +kernel, by decide +kernel, by decide +kernel⟩
theorem mth_X12_fits : zMth yX12_fits cX12_fits 6 (some .boolean) 2 := ⟨w_1681, w_14, by decide +kernel, by decide +kernel, by decide +kernel⟩
theorem mth_X12_has : zMth yX12_has cX12_has 3 (some .boolean) 2 := ⟨w_1669, w_14, by decide +kernel, by decide +kernel, by decide +kernel⟩
theorem mth_X12_hasSuggestion : zMth yX12_hasSuggestion cX12_hasSuggestion 3 (some .boolean) 2 := ⟨w_1831, w_14, by decide +kernel, by decide +kernel, by decide +kernel⟩
theorem mth_X12_hasWord : zMth yX12_hasWord cX12_hasWord 2 (some .boolean) 1 := ⟨w_1588, w_14, by decide +kernel, by decide +kernel, by decide +kernel⟩
theorem mth_X12_ignore : zMth yX12_ignore cX12_ignore 3 (some .int) 1 := ⟨w_1584, w_14, by decide +kernel, by decide +kernel, by decide +kernel⟩
theorem mth_X12_in : zMth yX12_in cX12_in 3 (some .boolean) 3 := ⟨w_1537, w_14, by decide +kernel, by decide +kernel, by decide +kernel⟩
theorem mth_X12_inJoins : zMth yX12_inJoins cX12_inJoins 3 (some .int) 1 := ⟨w_1650, w_14, by decide +kernel, by decide +kernel, by decide +kernel⟩
theorem mth_X12_isAhead : zMth yX12_isAhead cX12_isAhead 5 (some .boolean) 3 := ⟨w_1750, w_14, by decide +kernel, by decide +kernel, by decide +kernel⟩
theorem mth_X12_isLetter : zMth yX12_isLetter cX12_isLetter 1 (some .boolean) 1 := ⟨w_1638, w_14, by decide +kernel, by decide +kernel, by decide +kernel⟩
theorem mth_X12_isNext : zMth yX12_isNext cX12_isNext 2 (some .boolean) 1 := ⟨w_1665, w_14, by decide +kernel, by decide +kernel, by decide +kernel⟩
theorem mth_X12_isRight : zMth yX12_isRight cX12_isRight 2 (some .boolean) 1 := ⟨w_1778, w_14, by decide +kernel, by decide +kernel, by decide +kernel⟩
theorem mth_X12_isState : zMth yX12_isState cX12_isState 4 (some .boolean) 1 := ⟨w_1758, w_14, by decide +kernel, by decide +kernel, by decide +kernel⟩
theorem mth_X12_item : zMth yX12_item cX12_item 2 (some .int) 1 := ⟨w_1689, w_14, by decide +kernel, by decide +kernel, by decide +kernel⟩
theorem mth_X12_joinsOf : zMth yX12_joinsOf cX12_joinsOf 16 (some .int) 1 := ⟨w_1646, w_14, by decide +kernel, by decide +kernel, by decide +kernel⟩
theorem mth_X12_keeps : zMth yX12_keeps cX12_keeps 8 none 4 := ⟨w_1604, w_14, by decide +kernel, by decide +kernel, by decide +kernel⟩
theorem mth_X12_keepsState : zMth yX12_keepsState cX12_keepsState 3 none 1 := ⟨w_1724, w_14, by decide +kernel, by decide +kernel, by decide +kernel⟩
theorem mth_X12_lastOf : zMth yX12_lastOf cX12_lastOf 2 (some .int) 1 := ⟨w_1617, w_14, by decide +kernel, by decide +kernel, by decide +kernel⟩
theorem mth_X12_least : zMth yX12_least cX12_least 2 (some .int) 2 := ⟨w_1746, w_14, by decide +kernel, by decide +kernel, by decide +kernel⟩
theorem mth_X12_length : zMth yX12_length cX12_length 1 (some .int) 0 := ⟨w_1762, w_14, by decide +kernel, by decide +kernel, by decide +kernel⟩
theorem mth_X12_lengthOf : zMth yX12_lengthOf cX12_lengthOf 5 (some .int) 1 := ⟨w_1540, w_14, by decide +kernel, by decide +kernel, by decide +kernel⟩
theorem mth_X12_letter : zMth yX12_letter cX12_letter 2 (some .int) 1 := ⟨w_1534, w_14, by decide +kernel, by decide +kernel, by decide +kernel⟩
theorem mth_X12_like : zMth yX12_like cX12_like 11 (some .int) 5 := ⟨w_1712, w_14, by decide +kernel, by decide +kernel, by decide +kernel⟩
theorem mth_X12_made : zMth yX12_made cX12_made 1 (some .int) 0 := ⟨w_1839, w_14, by decide +kernel, by decide +kernel, by decide +kernel⟩
theorem mth_X12_makes : zMth yX12_makes cX12_makes 2 none 0 := ⟨w_1596, w_14, by decide +kernel, by decide +kernel, by decide +kernel⟩
theorem mth_X12_meets : zMth yX12_meets cX12_meets 4 (some .boolean) 2 := ⟨w_1653, w_14, by decide +kernel, by decide +kernel, by decide +kernel⟩
theorem mth_X12_mistakeAt : zMth yX12_mistakeAt cX12_mistakeAt 3 (some .int) 1 := ⟨w_1814, w_14, by decide +kernel, by decide +kernel, by decide +kernel⟩
theorem mth_X12_mistakeKind : zMth yX12_mistakeKind cX12_mistakeKind 4 (some .int) 1 := ⟨w_1806, w_14, by decide +kernel, by decide +kernel, by decide +kernel⟩
theorem mth_X12_mistakes : zMth yX12_mistakes cX12_mistakes 3 (some .int) 0 := ⟨w_1798, w_14, by decide +kernel, by decide +kernel, by decide +kernel⟩
theorem mth_X12_mistakesOf : zMth yX12_mistakesOf cX12_mistakesOf 2 (some .int) 1 := ⟨w_1802, w_14, by decide +kernel, by decide +kernel, by decide +kernel⟩
theorem mth_X12_more : zMth yX12_more cX12_more 4 (some .int) 2 := ⟨w_1556, w_14, by decide +kernel, by decide +kernel, by decide +kernel⟩
theorem mth_X12_numberOf : zMth yX12_numberOf cX12_numberOf 6 (some .long) 2 := ⟨w_1794, w_14, by decide +kernel, by decide +kernel, by decide +kernel⟩
theorem mth_X12_offers : zMth yX12_offers cX12_offers 6 none 2 := ⟨w_1736, w_14, by decide +kernel, by decide +kernel, by decide +kernel⟩
theorem mth_X12_own : zMth yX12_own cX12_own 4 (some .int) 2 := ⟨w_1564, w_14, by decide +kernel, by decide +kernel, by decide +kernel⟩
theorem mth_X12_ownOf : zMth yX12_ownOf cX12_ownOf 4 (some .int) 1 := ⟨w_1568, w_14, by decide +kernel, by decide +kernel, by decide +kernel⟩
theorem mth_X12_owns : zMth yX12_owns cX12_owns 5 none 2 := ⟨w_1572, w_14, by decide +kernel, by decide +kernel, by decide +kernel⟩
theorem mth_X12_part : zMth yX12_part cX12_part 6 (some .long) 3 := ⟨w_1627, w_14, by decide +kernel, by decide +kernel, by decide +kernel⟩
theorem mth_X12_put : zMth yX12_put cX12_put 5 (some .int) 2 := ⟨w_1697, w_14, by decide +kernel, by decide +kernel, by decide +kernel⟩
theorem mth_X12_reading : zMth yX12_reading cX12_reading 2 (some .int) 1 := ⟨w_1786, w_14, by decide +kernel, by decide +kernel, by decide +kernel⟩
theorem mth_X12_readings : zMth yX12_readings cX12_readings 2 (some .int) 1 := ⟨w_1782, w_14, by decide +kernel, by decide +kernel, by decide +kernel⟩
theorem mth_X12_readingsOf : zMth yX12_readingsOf cX12_readingsOf 4 (some .int) 1 := ⟨w_1642, w_14, by decide +kernel, by decide +kernel, by decide +kernel⟩
theorem mth_X12_reads : zMth yX12_reads cX12_reads 2 none 0 := ⟨w_1592, w_14, by decide +kernel, by decide +kernel, by decide +kernel⟩
theorem mth_X12_remembers : zMth yX12_remembers cX12_remembers 2 none 0 := ⟨w_1701, w_14, by decide +kernel, by decide +kernel, by decide +kernel⟩
theorem mth_X12_rule : zMth yX12_rule cX12_rule 8 (some .int) 6 := ⟨w_1552, w_14, by decide +kernel, by decide +kernel, by decide +kernel⟩
theorem mth_X12_scrap : zMth yX12_scrap cX12_scrap 2 (some .int) 0 := ⟨w_1544, w_14, by decide +kernel, by decide +kernel, by decide +kernel⟩
theorem mth_X12_signAt : zMth yX12_signAt cX12_signAt 2 (some .char) 1 := ⟨w_1766, w_14, by decide +kernel, by decide +kernel, by decide +kernel⟩
theorem mth_X12_slotOf : zMth yX12_slotOf cX12_slotOf 4 (some .int) 1 := ⟨w_1608, w_14, by decide +kernel, by decide +kernel, by decide +kernel⟩
theorem mth_X12_sound : zMth yX12_sound cX12_sound 6 (some .boolean) 2 := ⟨w_1560, w_14, by decide +kernel, by decide +kernel, by decide +kernel⟩
theorem mth_X12_split : zMth yX12_split cX12_split 4 (some .int) 1 := ⟨w_1790, w_14, by decide +kernel, by decide +kernel, by decide +kernel⟩
theorem mth_X12_stem : zMth yX12_stem cX12_stem 5 (some .int) 4 := ⟨w_1548, w_14, by decide +kernel, by decide +kernel, by decide +kernel⟩
theorem mth_X12_style : zMth yX12_style cX12_style 3 (some .int) 1 := ⟨w_1693, w_14, by decide +kernel, by decide +kernel, by decide +kernel⟩
theorem mth_X12_suggested : zMth yX12_suggested cX12_suggested 5 (some .char) 3 := ⟨w_1835, w_14, by decide +kernel, by decide +kernel, by decide +kernel⟩
theorem mth_X12_suggestions : zMth yX12_suggestions cX12_suggestions 2 (some .int) 1 := ⟨w_1818, w_14, by decide +kernel, by decide +kernel, by decide +kernel⟩
theorem mth_X12_suggestionsByAll : zMth yX12_suggestionsByAll cX12_suggestionsByAll 2 (some .int) 1 := ⟨w_1822, w_14, by decide +kernel, by decide +kernel, by decide +kernel⟩
theorem mth_X12_suggests : zMth yX12_suggests cX12_suggests 8 none 1 := ⟨w_1732, w_14, by decide +kernel, by decide +kernel, by decide +kernel⟩
theorem mth_X12_take : zMth yX12_take cX12_take 3 (some .int) 1 := ⟨w_1716, w_14, by decide +kernel, by decide +kernel, by decide +kernel⟩
theorem mth_X12_takesStyles : zMth yX12_takesStyles cX12_takesStyles 3 none 0 := ⟨w_1677, w_14, by decide +kernel, by decide +kernel, by decide +kernel⟩
theorem mth_X12_tell : zMth yX12_tell cX12_tell 5 (some .int) 3 := ⟨w_1685, w_14, by decide +kernel, by decide +kernel, by decide +kernel⟩
theorem mth_X12_thrown : zMth yX12_thrown cX12_thrown 1 (some .int) 0 := ⟨w_1530, w_14, by decide +kernel, by decide +kernel, by decide +kernel⟩
theorem mth_X12_uses : zMth yX12_uses cX12_uses 7 (some .long) 2 := ⟨w_1614, w_14, by decide +kernel, by decide +kernel, by decide +kernel⟩
theorem mth_X12_wordAt : zMth yX12_wordAt cX12_wordAt 2 (some .int) 1 := ⟨w_1774, w_14, by decide +kernel, by decide +kernel, by decide +kernel⟩
theorem mth_X12_wordOf : zMth yX12_wordOf cX12_wordOf 3 (some .int) 1 := ⟨w_1810, w_14, by decide +kernel, by decide +kernel, by decide +kernel⟩
theorem mth_X12_words : zMth yX12_words cX12_words 1 (some .int) 0 := ⟨w_1770, w_14, by decide +kernel, by decide +kernel, by decide +kernel⟩
theorem mth_J9_abs_0f7a4 : zMth yJ9_abs_0f7a4 cJ9_abs_0f7a4 1 (some .int) 1 := ⟨w_563, w_22, by decide +kernel, by decide +kernel, by decide +kernel⟩
theorem mth_J9_max_7cf53 : zMth yJ9_max_7cf53 cJ9_max_7cf53 2 (some .int) 2 := ⟨w_571, w_22, by decide +kernel, by decide +kernel, by decide +kernel⟩
theorem mth_J9_min_7cf53 : zMth yJ9_min_7cf53 cJ9_min_7cf53 2 (some .int) 2 := ⟨w_568, w_22, by decide +kernel, by decide +kernel, by decide +kernel⟩
theorem mth_Jxa1e45_init_da8c8 : zMth yJxa1e45_init_da8c8 cJxa1e45_init_da8c8 1 none 0 := ⟨w_53, w_3, by decide +kernel, by decide +kernel, by decide +kernel⟩
theorem mth_Jxc12de_init_da8c8 : zMth yJxc12de_init_da8c8 cJxc12de_init_da8c8 1 none 0 := ⟨w_50, w_4, by decide +kernel, by decide +kernel, by decide +kernel⟩
theorem mth_Jx4a65c_init_da8c8 : zMth yJx4a65c_init_da8c8 cJx4a65c_init_da8c8 1 none 0 := ⟨w_47, w_5, by decide +kernel, by decide +kernel, by decide +kernel⟩
theorem mth_Jx4a65c_add_9ea2d : zMth yJx4a65c_add_9ea2d cJx4a65c_add_9ea2d 2 (some .boolean) 1 := ⟨w_853, w_5, by decide +kernel, by decide +kernel, by decide +kernel⟩
theorem mth_Jx4a65c_add_72be8 : zMth yJx4a65c_add_72be8 cJx4a65c_add_72be8 4 none 3 := ⟨w_857, w_5, by decide +kernel, by decide +kernel, by decide +kernel⟩
theorem mth_Jx4a65c_elementData_915e3 : zMth yJx4a65c_elementData_915e3 cJx4a65c_elementData_915e3 2 (some (.object "java/lang/Object")) 1 := ⟨w_488, w_5, by decide +kernel, by decide +kernel, by decide +kernel⟩
theorem mth_Jx4a65c_get_915e3 : zMth yJx4a65c_get_915e3 cJx4a65c_get_915e3 2 (some (.object "java/lang/Object")) 1 := ⟨w_478, w_5, by decide +kernel, by decide +kernel, by decide +kernel⟩
theorem mth_Jx4a65c_grow_d5877 : zMth yJx4a65c_grow_d5877 cJx4a65c_grow_d5877 1 (some (.array (.object "java/lang/Object"))) 0 := ⟨w_861, w_5, by decide +kernel, by decide +kernel, by decide +kernel⟩
theorem mth_Jx4a65c_grow_92f84 : zMth yJx4a65c_grow_92f84 cJx4a65c_grow_92f84 4 (some (.array (.object "java/lang/Object"))) 1 := ⟨w_865, w_5, by decide +kernel, by decide +kernel, by decide +kernel⟩
theorem mth_Jx4a65c_size_8abf5 : zMth yJx4a65c_size_8abf5 cJx4a65c_size_8abf5 1 (some .int) 0 := ⟨w_469, w_5, by decide +kernel, by decide +kernel, by decide +kernel⟩
theorem mth_J7_copyOf_1904c : zMth yJ7_copyOf_1904c cJ7_copyOf_1904c 2 (some (.array (.object "java/lang/Object"))) 2 := ⟨w_876, w_23, by decide +kernel, by decide +kernel, by decide +kernel⟩
theorem mth_J7_copyOf_6403c : zMth yJ7_copyOf_6403c cJ7_copyOf_6403c 4 (some (.array (.object "java/lang/Object"))) 3 := ⟨w_900, w_23, by decide +kernel, by decide +kernel, by decide +kernel⟩
theorem mth_J15_checkIndex_7cf53 : zMth yJ15_checkIndex_7cf53 cJ15_checkIndex_7cf53 2 (some .int) 2 := ⟨w_481, w_25, by decide +kernel, by decide +kernel, by decide +kernel⟩
theorem mth_J8_hugeLength_7cf53 : zMth yJ8_hugeLength_7cf53 cJ8_hugeLength_7cf53 3 (some .int) 2 := ⟨w_873, w_21, by decide +kernel, by decide +kernel, by decide +kernel⟩
theorem mth_J8_newLength_cabcc : zMth yJ8_newLength_cabcc cJ8_newLength_cabcc 4 (some .int) 3 := ⟨w_868, w_21, by decide +kernel, by decide +kernel, by decide +kernel⟩
theorem mth_J3_checkIndex_8e157 : zMth yJ3_checkIndex_8e157 cJ3_checkIndex_8e157 3 (some .int) 3 := ⟨w_484, w_26, by decide +kernel, by decide +kernel, by decide +kernel⟩
theorem face_size : zFace "java/util/ArrayList" ⟨"java/util/List", "size", "()I"⟩ yJx4a65c_size_8abf5 0 := ⟨⟨by decide +kernel, by decide +kernel, by decide +kernel⟩, w_465, w_467, w_463, w_462, w_468, w_466, w_464⟩
theorem face_get : zFace "java/util/ArrayList" ⟨"java/util/List", "get", "(I)Ljava/lang/Object;"⟩ yJx4a65c_get_915e3 1 := ⟨⟨by decide +kernel, by decide +kernel, by decide +kernel⟩, w_474, w_476, w_473, w_472, w_477, w_475, w_464⟩
theorem face_add : zFace "java/util/ArrayList" ⟨"java/util/List", "add", "(Ljava/lang/Object;)Z"⟩ yJx4a65c_add_9ea2d 1 := ⟨⟨by decide +kernel, by decide +kernel, by decide +kernel⟩, w_849, w_851, w_848, w_847, w_852, w_850, w_464⟩
