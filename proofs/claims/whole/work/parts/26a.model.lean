def p_X12_init (v0 : Option Nat) : ZM Unit :=
  z_b (z_ii v0 (z_rt ())) fun _ => z_b (z_nA 2 12) fun x1 => z_b (z_pR 13 2 v0 x1) fun _ => z_b (z_nA 1 12) fun x2 => z_b (z_pR 13 3 v0 x2) fun _ => z_b (z_nA 1 12) fun x3 => z_b (z_pR 13 4 v0 x3) fun _ => z_b (z_nA 1 12) fun x4 => z_b (z_pR 13 5 v0 x4) fun _ => z_b (z_nA 1 12) fun x5 => z_b (z_pR 13 6 v0 x5) fun _ => z_b (z_nA 1 8) fun x6 => z_b (z_pR 13 8 v0 x6) fun _ => z_b (z_nA 1 8) fun x7 => z_b (z_pR 13 9 v0 x7) fun _ => z_b (z_nA 1 8) fun x8 => z_b (z_pR 13 10 v0 x8) fun _ => z_b (z_nA 2 8) fun x9 => z_b (z_pR 13 11 v0 x9) fun _ => z_b (z_nA 1 8) fun x10 => z_b (z_pR 13 12 v0 x10) fun _ => z_b (z_nA 1 8) fun x11 => z_b (z_pR 13 13 v0 x11) fun _ => z_b (z_nA 1 8) fun x12 => z_b (z_pR 13 14 v0 x12) fun _ => z_b (z_nA 1 8) fun x13 => z_b (z_pR 13 15 v0 x13) fun _ => z_b (z_nA 1 81) fun x14 => z_b (z_pR 13 16 v0 x14) fun _ => z_b (z_nA 2 10) fun x15 => z_b (z_pR 13 18 v0 x15) fun _ => z_b (z_nA 1 10) fun x16 => z_b (z_pR 13 19 v0 x16) fun _ => z_b (z_nA 2 10) fun x17 => z_b (z_pR 13 21 v0 x17) fun _ => z_b (z_nA 2 1024) fun x18 => z_b (z_pR 13 23 v0 x18) fun _ => z_b (z_nA 1 1024) fun x19 => z_b (z_pR 13 24 v0 x19) fun _ => z_b (z_nA 1 16) fun x20 => z_b (z_pR 13 25 v0 x20) fun _ => z_b (z_nA 1 27) fun x21 => z_b (z_pR 13 27 v0 x21) fun _ => z_b (z_nA 2 27) fun x22 => z_b (z_pR 13 28 v0 x22) fun _ => z_b (z_nA 1 9) fun x23 => z_b (z_pR 13 29 v0 x23) fun _ => z_b (z_nA 1 9) fun x24 => z_b (z_pR 13 30 v0 x24) fun _ => z_b (z_nA 2 9) fun x25 => z_b (z_pR 13 31 v0 x25) fun _ => z_b (z_nA 1 100) fun x26 => z_b (z_pR 13 33 v0 x26) fun _ => z_b (z_nA 2 16384) fun x27 => z_b (z_pR 13 36 v0 x27) fun _ => z_b (z_nA 1 16384) fun x28 => z_b (z_pR 13 37 v0 x28) fun _ => z_b (z_nA 1 16384) fun x29 => z_b (z_pR 13 38 v0 x29) fun _ => z_b (z_nA 1 16384) fun x30 => z_b (z_pR 13 39 v0 x30) fun _ => z_b (z_nA 1 101) fun x31 => z_b (z_pR 13 41 v0 x31) fun _ => z_b (z_nA 1 101) fun x32 => z_b (z_pR 13 42 v0 x32) fun _ => z_b (z_nA 1 101) fun x33 => z_b (z_pR 13 43 v0 x33) fun _ => z_b (z_nA 2 101) fun x34 => z_b (z_pR 13 44 v0 x34) fun _ => z_b (z_nA 1 101) fun x35 => z_b (z_pR 13 45 v0 x35) fun _ => z_b (z_nA 1 101) fun x36 => z_b (z_pR 13 46 v0 x36) fun _ => z_b (z_nA 1 101) fun x37 => z_b (z_pR 13 47 v0 x37) fun _ => z_b (z_nA 1 101) fun x38 => z_b (z_pR 13 48 v0 x38) fun _ => z_b (z_nA 1 808) fun x39 => z_b (z_pR 13 49 v0 x39) fun _ => z_b (z_nA 1 169) fun x40 => z_b (z_pR 13 50 v0 x40) fun _ => z_b (z_nA 1 13) fun x41 => z_b (z_pR 13 51 v0 x41) fun _ => z_b (z_nA 2 8200) fun x42 => z_b (z_pR 13 53 v0 x42) fun _ => z_b (z_nA 1 8200) fun x43 => z_b (z_pR 13 54 v0 x43) fun _ => z_b (z_nA 1 100) fun x44 => z_b (z_pR 13 55 v0 x44) fun _ => z_b (z_nA 1 2121) fun x45 => z_b (z_pR 13 57 v0 x45) fun _ => z_rt ()
abbrev M_X12_init (l : Launch) : ZMe := (l, "SpellScribeModel", cX12_init, 1, 1, 12, none, "<init>", [])
set_option maxRecDepth 20000 in
theorem sim_X12_init (l : Launch) (v0 : Option Nat) : Sim (M_X12_init l) (zFin zcV) 0 [(0, .inr (.inr v0))] [] (p_X12_init v0) := by
  unfold p_X12_init
  refine s_aloadn (j := 0) dX12_init_0 rfl ?_
  refine s_objInit dX12_init_1 w_1347 w_35 w_36 ⟨Nat.le_of_ble_eq_true rfl, Nat.le_of_ble_eq_true rfl⟩ ?_
  refine s_aloadn (j := 0) dX12_init_4 rfl ?_
  refine s_bipush (v := 12) dX12_init_5 (by decide) ?_
  refine s_newaL dX12_init_7 w_1526 (fun x1 => ?_)
  refine s_putRF (k := 2) cls_13 (by decide) rfl rfl rfl rfl rfl dX12_init_9 w_1350 rfl ?_
  refine s_aloadn (j := 0) dX12_init_12 rfl ?_
  refine s_bipush (v := 12) dX12_init_13 (by decide) ?_
  refine s_newaI dX12_init_15 w_85 (fun x2 => ?_)
  refine s_putRF (k := 3) cls_13 (by decide) rfl rfl rfl rfl rfl dX12_init_17 w_1351 rfl ?_
  refine s_aloadn (j := 0) dX12_init_20 rfl ?_
  refine s_bipush (v := 12) dX12_init_21 (by decide) ?_
  refine s_newaI dX12_init_23 w_85 (fun x3 => ?_)
  refine s_putRF (k := 4) cls_13 (by decide) rfl rfl rfl rfl rfl dX12_init_25 w_1352 rfl ?_
  refine s_aloadn (j := 0) dX12_init_28 rfl ?_
  refine s_bipush (v := 12) dX12_init_29 (by decide) ?_
  refine s_newaI dX12_init_31 w_85 (fun x4 => ?_)
  refine s_putRF (k := 5) cls_13 (by decide) rfl rfl rfl rfl rfl dX12_init_33 w_1353 rfl ?_
  refine s_aloadn (j := 0) dX12_init_36 rfl ?_
  refine s_bipush (v := 12) dX12_init_37 (by decide) ?_
  refine s_newaI dX12_init_39 w_85 (fun x5 => ?_)
  refine s_putRF (k := 6) cls_13 (by decide) rfl rfl rfl rfl rfl dX12_init_41 w_1354 rfl ?_
  refine s_aloadn (j := 0) dX12_init_44 rfl ?_
  refine s_bipush (v := 8) dX12_init_45 (by decide) ?_
  refine s_newaI dX12_init_47 w_85 (fun x6 => ?_)
  refine s_putRF (k := 8) cls_13 (by decide) rfl rfl rfl rfl rfl dX12_init_49 w_1356 rfl ?_
  refine s_aloadn (j := 0) dX12_init_52 rfl ?_
  refine s_bipush (v := 8) dX12_init_53 (by decide) ?_
  refine s_newaI dX12_init_55 w_85 (fun x7 => ?_)
  refine s_putRF (k := 9) cls_13 (by decide) rfl rfl rfl rfl rfl dX12_init_57 w_1357 rfl ?_
  refine s_aloadn (j := 0) dX12_init_60 rfl ?_
  refine s_bipush (v := 8) dX12_init_61 (by decide) ?_
  refine s_newaI dX12_init_63 w_85 (fun x8 => ?_)
  refine s_putRF (k := 10) cls_13 (by decide) rfl rfl rfl rfl rfl dX12_init_65 w_1358 rfl ?_
  refine s_aloadn (j := 0) dX12_init_68 rfl ?_
  refine s_bipush (v := 8) dX12_init_69 (by decide) ?_
  refine s_newaL dX12_init_71 w_1526 (fun x9 => ?_)
  refine s_putRF (k := 11) cls_13 (by decide) rfl rfl rfl rfl rfl dX12_init_73 w_1359 rfl ?_
  refine s_aloadn (j := 0) dX12_init_76 rfl ?_
  refine s_bipush (v := 8) dX12_init_77 (by decide) ?_
  refine s_newaI dX12_init_79 w_85 (fun x10 => ?_)
  refine s_putRF (k := 12) cls_13 (by decide) rfl rfl rfl rfl rfl dX12_init_81 w_1360 rfl ?_
  refine s_aloadn (j := 0) dX12_init_84 rfl ?_
  refine s_bipush (v := 8) dX12_init_85 (by decide) ?_
  refine s_newaI dX12_init_87 w_85 (fun x11 => ?_)
  refine s_putRF (k := 13) cls_13 (by decide) rfl rfl rfl rfl rfl dX12_init_89 w_1361 rfl ?_
  refine s_aloadn (j := 0) dX12_init_92 rfl ?_
  refine s_bipush (v := 8) dX12_init_93 (by decide) ?_
  refine s_newaI dX12_init_95 w_85 (fun x12 => ?_)
  refine s_putRF (k := 14) cls_13 (by decide) rfl rfl rfl rfl rfl dX12_init_97 w_1362 rfl ?_
  refine s_aloadn (j := 0) dX12_init_100 rfl ?_
  refine s_bipush (v := 8) dX12_init_101 (by decide) ?_
  refine s_newaI dX12_init_103 w_85 (fun x13 => ?_)
  refine s_putRF (k := 15) cls_13 (by decide) rfl rfl rfl rfl rfl dX12_init_105 w_1363 rfl ?_
  refine s_aloadn (j := 0) dX12_init_108 rfl ?_
  refine s_bipush (v := 81) dX12_init_109 (by decide) ?_
  refine s_newaI dX12_init_111 w_85 (fun x14 => ?_)
  refine s_putRF (k := 16) cls_13 (by decide) rfl rfl rfl rfl rfl dX12_init_113 w_1364 rfl ?_
  refine s_aloadn (j := 0) dX12_init_116 rfl ?_
  refine s_bipush (v := 10) dX12_init_117 (by decide) ?_
  refine s_newaL dX12_init_119 w_1526 (fun x15 => ?_)
  refine s_putRF (k := 18) cls_13 (by decide) rfl rfl rfl rfl rfl dX12_init_121 w_1366 rfl ?_
  refine s_aloadn (j := 0) dX12_init_124 rfl ?_
  refine s_bipush (v := 10) dX12_init_125 (by decide) ?_
  refine s_newaI dX12_init_127 w_85 (fun x16 => ?_)
  refine s_putRF (k := 19) cls_13 (by decide) rfl rfl rfl rfl rfl dX12_init_129 w_1367 rfl ?_
  refine s_aloadn (j := 0) dX12_init_132 rfl ?_
  refine s_bipush (v := 10) dX12_init_133 (by decide) ?_
  refine s_newaL dX12_init_135 w_1526 (fun x17 => ?_)
  refine s_putRF (k := 21) cls_13 (by decide) rfl rfl rfl rfl rfl dX12_init_137 w_1369 rfl ?_
  refine s_aloadn (j := 0) dX12_init_140 rfl ?_
  refine s_sipush (v := 1024) dX12_init_141 (by decide) ?_
  refine s_newaL dX12_init_144 w_1526 (fun x18 => ?_)
  refine s_putRF (k := 23) cls_13 (by decide) rfl rfl rfl rfl rfl dX12_init_146 w_1371 rfl ?_
  refine s_aloadn (j := 0) dX12_init_149 rfl ?_
  refine s_sipush (v := 1024) dX12_init_150 (by decide) ?_
  refine s_newaI dX12_init_153 w_85 (fun x19 => ?_)
  refine s_putRF (k := 24) cls_13 (by decide) rfl rfl rfl rfl rfl dX12_init_155 w_1372 rfl ?_
  refine s_aloadn (j := 0) dX12_init_158 rfl ?_
  refine s_bipush (v := 16) dX12_init_159 (by decide) ?_
  refine s_newaI dX12_init_161 w_85 (fun x20 => ?_)
  refine s_putRF (k := 25) cls_13 (by decide) rfl rfl rfl rfl rfl dX12_init_163 w_1373 rfl ?_
  refine s_aloadn (j := 0) dX12_init_166 rfl ?_
  refine s_bipush (v := 27) dX12_init_167 (by decide) ?_
  refine s_newaI dX12_init_169 w_85 (fun x21 => ?_)
  refine s_putRF (k := 27) cls_13 (by decide) rfl rfl rfl rfl rfl dX12_init_171 w_1375 rfl ?_
  refine s_aloadn (j := 0) dX12_init_174 rfl ?_
  refine s_bipush (v := 27) dX12_init_175 (by decide) ?_
  refine s_newaL dX12_init_177 w_1526 (fun x22 => ?_)
  refine s_putRF (k := 28) cls_13 (by decide) rfl rfl rfl rfl rfl dX12_init_179 w_1376 rfl ?_
  refine s_aloadn (j := 0) dX12_init_182 rfl ?_
  refine s_bipush (v := 9) dX12_init_183 (by decide) ?_
  refine s_newaI dX12_init_185 w_85 (fun x23 => ?_)
  refine s_putRF (k := 29) cls_13 (by decide) rfl rfl rfl rfl rfl dX12_init_187 w_1377 rfl ?_
  refine s_aloadn (j := 0) dX12_init_190 rfl ?_
  refine s_bipush (v := 9) dX12_init_191 (by decide) ?_
  refine s_newaI dX12_init_193 w_85 (fun x24 => ?_)
  refine s_putRF (k := 30) cls_13 (by decide) rfl rfl rfl rfl rfl dX12_init_195 w_1378 rfl ?_
  refine s_aloadn (j := 0) dX12_init_198 rfl ?_
  refine s_bipush (v := 9) dX12_init_199 (by decide) ?_
  refine s_newaL dX12_init_201 w_1526 (fun x25 => ?_)
  refine s_putRF (k := 31) cls_13 (by decide) rfl rfl rfl rfl rfl dX12_init_203 w_1379 rfl ?_
  refine s_aloadn (j := 0) dX12_init_206 rfl ?_
  refine s_bipush (v := 100) dX12_init_207 (by decide) ?_
  refine s_newaI dX12_init_209 w_85 (fun x26 => ?_)
  refine s_putRF (k := 33) cls_13 (by decide) rfl rfl rfl rfl rfl dX12_init_211 w_1381 rfl ?_
  refine s_aloadn (j := 0) dX12_init_214 rfl ?_
  refine s_sipush (v := 16384) dX12_init_215 (by decide) ?_
  refine s_newaL dX12_init_218 w_1526 (fun x27 => ?_)
  refine s_putRF (k := 36) cls_13 (by decide) rfl rfl rfl rfl rfl dX12_init_220 w_1384 rfl ?_
  refine s_aloadn (j := 0) dX12_init_223 rfl ?_
  refine s_sipush (v := 16384) dX12_init_224 (by decide) ?_
  refine s_newaI dX12_init_227 w_85 (fun x28 => ?_)
  refine s_putRF (k := 37) cls_13 (by decide) rfl rfl rfl rfl rfl dX12_init_229 w_1385 rfl ?_
  refine s_aloadn (j := 0) dX12_init_232 rfl ?_
  refine s_sipush (v := 16384) dX12_init_233 (by decide) ?_
  refine s_newaI dX12_init_236 w_85 (fun x29 => ?_)
  refine s_putRF (k := 38) cls_13 (by decide) rfl rfl rfl rfl rfl dX12_init_238 w_1386 rfl ?_
  refine s_aloadn (j := 0) dX12_init_241 rfl ?_
  refine s_sipush (v := 16384) dX12_init_242 (by decide) ?_
  refine s_newaI dX12_init_245 w_85 (fun x30 => ?_)
  refine s_putRF (k := 39) cls_13 (by decide) rfl rfl rfl rfl rfl dX12_init_247 w_1387 rfl ?_
  refine s_aloadn (j := 0) dX12_init_250 rfl ?_
  refine s_bipush (v := 101) dX12_init_251 (by decide) ?_
  refine s_newaI dX12_init_253 w_85 (fun x31 => ?_)
  refine s_putRF (k := 41) cls_13 (by decide) rfl rfl rfl rfl rfl dX12_init_255 w_1389 rfl ?_
  refine s_aloadn (j := 0) dX12_init_258 rfl ?_
  refine s_bipush (v := 101) dX12_init_259 (by decide) ?_
  refine s_newaI dX12_init_261 w_85 (fun x32 => ?_)
  refine s_putRF (k := 42) cls_13 (by decide) rfl rfl rfl rfl rfl dX12_init_263 w_1390 rfl ?_
  refine s_aloadn (j := 0) dX12_init_266 rfl ?_
  refine s_bipush (v := 101) dX12_init_267 (by decide) ?_
  refine s_newaI dX12_init_269 w_85 (fun x33 => ?_)
  refine s_putRF (k := 43) cls_13 (by decide) rfl rfl rfl rfl rfl dX12_init_271 w_1391 rfl ?_
  refine s_aloadn (j := 0) dX12_init_274 rfl ?_
  refine s_bipush (v := 101) dX12_init_275 (by decide) ?_
  refine s_newaL dX12_init_277 w_1526 (fun x34 => ?_)
  refine s_putRF (k := 44) cls_13 (by decide) rfl rfl rfl rfl rfl dX12_init_279 w_1392 rfl ?_
  refine s_aloadn (j := 0) dX12_init_282 rfl ?_
  refine s_bipush (v := 101) dX12_init_283 (by decide) ?_
  refine s_newaI dX12_init_285 w_85 (fun x35 => ?_)
  refine s_putRF (k := 45) cls_13 (by decide) rfl rfl rfl rfl rfl dX12_init_287 w_1393 rfl ?_
  refine s_aloadn (j := 0) dX12_init_290 rfl ?_
  refine s_bipush (v := 101) dX12_init_291 (by decide) ?_
  refine s_newaI dX12_init_293 w_85 (fun x36 => ?_)
  refine s_putRF (k := 46) cls_13 (by decide) rfl rfl rfl rfl rfl dX12_init_295 w_1394 rfl ?_
  refine s_aloadn (j := 0) dX12_init_298 rfl ?_
  refine s_bipush (v := 101) dX12_init_299 (by decide) ?_
  refine s_newaI dX12_init_301 w_85 (fun x37 => ?_)
  refine s_putRF (k := 47) cls_13 (by decide) rfl rfl rfl rfl rfl dX12_init_303 w_1395 rfl ?_
  refine s_aloadn (j := 0) dX12_init_306 rfl ?_
  refine s_bipush (v := 101) dX12_init_307 (by decide) ?_
  refine s_newaI dX12_init_309 w_85 (fun x38 => ?_)
  refine s_putRF (k := 48) cls_13 (by decide) rfl rfl rfl rfl rfl dX12_init_311 w_1396 rfl ?_
  refine s_aloadn (j := 0) dX12_init_314 rfl ?_
  refine s_sipush (v := 808) dX12_init_315 (by decide) ?_
  refine s_newaI dX12_init_318 w_85 (fun x39 => ?_)
  refine s_putRF (k := 49) cls_13 (by decide) rfl rfl rfl rfl rfl dX12_init_320 w_1397 rfl ?_
  refine s_aloadn (j := 0) dX12_init_323 rfl ?_
  refine s_sipush (v := 169) dX12_init_324 (by decide) ?_
  refine s_newaI dX12_init_327 w_85 (fun x40 => ?_)
  refine s_putRF (k := 50) cls_13 (by decide) rfl rfl rfl rfl rfl dX12_init_329 w_1398 rfl ?_
  refine s_aloadn (j := 0) dX12_init_332 rfl ?_
  refine s_bipush (v := 13) dX12_init_333 (by decide) ?_
  refine s_newaI dX12_init_335 w_85 (fun x41 => ?_)
  refine s_putRF (k := 51) cls_13 (by decide) rfl rfl rfl rfl rfl dX12_init_337 w_1399 rfl ?_
  refine s_aloadn (j := 0) dX12_init_340 rfl ?_
  refine s_sipush (v := 8200) dX12_init_341 (by decide) ?_
  refine s_newaL dX12_init_344 w_1526 (fun x42 => ?_)
  refine s_putRF (k := 53) cls_13 (by decide) rfl rfl rfl rfl rfl dX12_init_346 w_1401 rfl ?_
  refine s_aloadn (j := 0) dX12_init_349 rfl ?_
  refine s_sipush (v := 8200) dX12_init_350 (by decide) ?_
  refine s_newaI dX12_init_353 w_85 (fun x43 => ?_)
  refine s_putRF (k := 54) cls_13 (by decide) rfl rfl rfl rfl rfl dX12_init_355 w_1402 rfl ?_
  refine s_aloadn (j := 0) dX12_init_358 rfl ?_
  refine s_bipush (v := 100) dX12_init_359 (by decide) ?_
  refine s_newaI dX12_init_361 w_85 (fun x44 => ?_)
  refine s_putRF (k := 55) cls_13 (by decide) rfl rfl rfl rfl rfl dX12_init_363 w_1403 rfl ?_
  refine s_aloadn (j := 0) dX12_init_366 rfl ?_
  refine s_sipush (v := 2121) dX12_init_367 (by decide) ?_
  refine s_newaI dX12_init_370 w_85 (fun x45 => ?_)
  refine s_putRF (k := 57) cls_13 (by decide) rfl rfl rfl rfl rfl dX12_init_372 w_1405 rfl ?_
  exact s_vret dX12_init_375 rfl
theorem met_X12_init (l : Launch) (v0 : Option Nat) : zMet l yX12_init cX12_init 1 none 1 12 [.inr (.inr v0)] zcV (p_X12_init v0) :=
  zMet.of (by decide +kernel) (Nat.le_of_ble_eq_true rfl) rfl (sim_X12_init l v0)
def p_X12_thrown (v0 : Option Nat) : ZM Int32 :=
  z_b (z_gI 13 58 v0) fun x1 => z_rt x1
abbrev M_X12_thrown (l : Launch) : ZMe := (l, "SpellScribeModel", cX12_thrown, 1, 0, 0, (some .int), "thrown", [])
set_option maxRecDepth 20000 in
theorem sim_X12_thrown (l : Launch) (v0 : Option Nat) : Sim (M_X12_thrown l) (zFin zcI) 0 [(0, .inr (.inr v0))] [] (p_X12_thrown v0) := by
  unfold p_X12_thrown
  refine s_aloadn (j := 0) dX12_thrown_0 rfl ?_
  refine s_getI (k := 58) cls_13 (by decide) rfl dX12_thrown_1 w_1406 rfl (fun x1 => ?_)
  exact s_iret dX12_thrown_4 rfl
theorem met_X12_thrown (l : Launch) (v0 : Option Nat) : zMet l yX12_thrown cX12_thrown 1 (some .int) 0 0 [.inr (.inr v0)] zcI (p_X12_thrown v0) :=
  zMet.of (by decide +kernel) (Nat.le_of_ble_eq_true rfl) rfl (sim_X12_thrown l v0)
def p_X12_in (v0 : Int32) (v1 : Int32) (v2 : Int32) : ZM Int32 :=
  if v0 < v1 then (z_rz 0)
  else (if v2 < v0 then (z_rz 0)
  else (z_rz 1))
abbrev M_X12_in (l : Launch) : ZMe := (l, "SpellScribeModel", cX12_in, 3, 0, 0, (some .boolean), "in", [])
set_option maxRecDepth 20000 in
theorem sim_X12_in (l : Launch) (v0 : Int32) (v1 : Int32) (v2 : Int32) : Sim (M_X12_in l) (zFin zcI) 0 [(0, .inl v0), (1, .inl v1), (2, .inl v2)] [] (p_X12_in v0 v1 v2) := by
  unfold p_X12_in
  refine s_iloadn (j := 0) dX12_in_0 rfl ?_
  refine s_iloadn (j := 1) dX12_in_1 rfl ?_
  refine s_icmp_lt (tgt := 14) dX12_in_2 (by decide) ?_ ?_
  · refine s_iconst (v := 0) dX12_in_14 (by decide) ?_
    exact s_zret dX12_in_15 rfl
  · refine s_iloadn (j := 0) dX12_in_5 rfl ?_
    refine s_iloadn (j := 2) dX12_in_6 rfl ?_
    refine s_icmp_gt (tgt := 14) dX12_in_7 (by decide) ?_ ?_
    · refine s_iconst (v := 0) dX12_in_14 (by decide) ?_
      exact s_zret dX12_in_15 rfl
    · refine s_iconst (v := 1) dX12_in_10 (by decide) ?_
      refine s_goto (tgt := 15) dX12_in_11 (by decide) ?_
      exact s_zret dX12_in_15 rfl
theorem met_X12_in (l : Launch) (v0 : Int32) (v1 : Int32) (v2 : Int32) : zMet l yX12_in cX12_in 3 (some .boolean) 0 0 [.inl v0, .inl v1, .inl v2] zcI (p_X12_in v0 v1 v2) :=
  zMet.of (by decide +kernel) (Nat.le_of_ble_eq_true rfl) rfl (sim_X12_in l v0 v1 v2)
def p_X12_lengthOf_c4 (r4 : Int32 → Int64 → ZM Int32) (v2 : Int32) (v3 : Int64) : ZM Int32 :=
  if (lg_cmp v3 0) ≤ 0 then (z_rt v2)
  else (z_n (v2 + 1 : Int32) fun y1 => z_n ((v3 >>> (Int32.toInt64 4 &&& 63)) : Int64) fun y2 => r4 y1 y2)
def p_X12_lengthOf_l4 : Nat → Int32 → Int64 → ZM Int32
  | 0, _, _ => z_fl
  | n + 1, v2, v3 => p_X12_lengthOf_c4 (p_X12_lengthOf_l4 n) v2 v3
def p_X12_lengthOf (v0 : Int64) : ZM Int32 :=
  p_X12_lengthOf_l4 zFuel 0 v0
abbrev M_X12_lengthOf (l : Launch) : ZMe := (l, "SpellScribeModel", cX12_lengthOf, 5, 0, 0, (some .int), "lengthOf", [])
set_option maxRecDepth 20000 in
theorem sim_X12_lengthOf_c4 (l : Launch) (r4 : Int32 → Int64 → ZM Int32) (hr4 : ∀ (v2 : Int32) (v3 : Int64), Sim (M_X12_lengthOf l) (zFin zcI) 4 [(2, .inl v2), (3, .inr (.inl v3))] [] (r4 v2 v3)) (v2 : Int32) (v3 : Int64) : Sim (M_X12_lengthOf l) (zFin zcI) 4 [(2, .inl v2), (3, .inr (.inl v3))] [] (p_X12_lengthOf_c4 r4 v2 v3) := by
  unfold p_X12_lengthOf_c4
  refine s_lloadn (j := 1) dX12_lengthOf_4 rfl ?_
  refine s_lconst (v := 0) dX12_lengthOf_5 (by decide) ?_
  refine s_lcmp dX12_lengthOf_6 ?_
  refine s_if_le (tgt := 20) dX12_lengthOf_7 (by decide) ?_ ?_
  · refine s_iloadn (j := 0) dX12_lengthOf_20 rfl ?_
    exact s_iret dX12_lengthOf_21 rfl
  · refine s_n0 (fun y1 hy1 => ?_)
    refine s_iinc (j := 0) (v := y1) (d := 1) (lv' := [(2, .inl y1), (3, .inr (.inl v3))]) dX12_lengthOf_10 rfl (by decide) hy1 (Nat.le_of_ble_eq_true rfl) rfl ?_
    refine s_lloadn (j := 1) dX12_lengthOf_13 rfl ?_
    refine s_iconst (v := 4) dX12_lengthOf_14 (by decide) ?_
    refine s_lshr dX12_lengthOf_15 ?_
    refine s_nJ (fun y2 => ?_)
    refine s_lstoren (lv' := [(3, .inr (.inl y2)), (2, .inl y1)]) dX12_lengthOf_16 (Nat.le_of_ble_eq_true rfl) rfl ?_
    refine s_goto (tgt := 4) dX12_lengthOf_17 (by decide) ?_
    exact Sim.sub [1, 0] rfl (hr4 y1 y2)
theorem sim_X12_lengthOf_l4 (l : Launch) : ∀ (n : Nat) (v2 : Int32) (v3 : Int64), Sim (M_X12_lengthOf l) (zFin zcI) 4 [(2, .inl v2), (3, .inr (.inl v3))] [] (p_X12_lengthOf_l4 n v2 v3)
  | 0, _, _ => s_fl
  | n + 1, v2, v3 => sim_X12_lengthOf_c4 l (p_X12_lengthOf_l4 n) (sim_X12_lengthOf_l4 l n) v2 v3
set_option maxRecDepth 20000 in
theorem sim_X12_lengthOf (l : Launch) (v0 : Int64) : Sim (M_X12_lengthOf l) (zFin zcI) 0 [(0, .inr (.inl v0))] [] (p_X12_lengthOf v0) := by
  unfold p_X12_lengthOf
  refine s_iconst (v := 0) dX12_lengthOf_0 (by decide) ?_
  refine s_istoren (lv' := [(2, .inl 0), (0, .inr (.inl v0))]) dX12_lengthOf_1 (Nat.le_of_ble_eq_true rfl) rfl ?_
  refine s_lloadn (j := 1) dX12_lengthOf_2 rfl ?_
  refine s_lstoren (lv' := [(3, .inr (.inl v0)), (2, .inl 0), (0, .inr (.inl v0))]) dX12_lengthOf_3 (Nat.le_of_ble_eq_true rfl) rfl ?_
  exact Sim.sub [1, 0] rfl (sim_X12_lengthOf_l4 l zFuel 0 v0)
theorem met_X12_lengthOf (l : Launch) (v0 : Int64) : zMet l yX12_lengthOf cX12_lengthOf 5 (some .int) 0 0 [.inr (.inl v0)] zcI (p_X12_lengthOf v0) :=
  zMet.of (by decide +kernel) (Nat.le_of_ble_eq_true rfl) rfl (sim_X12_lengthOf l v0)
def p_X12_lastOf (v0 : Int64) : ZM Int32 :=
  z_rt (Int64.toInt32 (v0 &&& 15))
abbrev M_X12_lastOf (l : Launch) : ZMe := (l, "SpellScribeModel", cX12_lastOf, 2, 0, 0, (some .int), "lastOf", [])
set_option maxRecDepth 20000 in
theorem sim_X12_lastOf (l : Launch) (v0 : Int64) : Sim (M_X12_lastOf l) (zFin zcI) 0 [(0, .inr (.inl v0))] [] (p_X12_lastOf v0) := by
  unfold p_X12_lastOf
  refine s_lloadn (j := 0) dX12_lastOf_0 rfl ?_
  refine s_ldc2 (v := 15) dX12_lastOf_1 w_1618 ?_
  refine s_land dX12_lastOf_4 ?_
  refine s_l2i dX12_lastOf_5 ?_
  exact s_iret dX12_lastOf_6 rfl
theorem met_X12_lastOf (l : Launch) (v0 : Int64) : zMet l yX12_lastOf cX12_lastOf 2 (some .int) 0 0 [.inr (.inl v0)] zcI (p_X12_lastOf v0) :=
  zMet.of (by decide +kernel) (Nat.le_of_ble_eq_true rfl) rfl (sim_X12_lastOf l v0)
def p_X12_firstOf (v0 : Int64) : ZM Int32 :=
  z_b (p_X12_lengthOf v0) fun x1 => z_rt (Int64.toInt32 (v0 >>> (Int32.toInt64 (4 * (x1 - 1)) &&& 63)))
abbrev M_X12_firstOf (l : Launch) : ZMe := (l, "SpellScribeModel", cX12_firstOf, 2, 1, 24, (some .int), "firstOf", [])
set_option maxRecDepth 20000 in
theorem sim_X12_firstOf (l : Launch) (v0 : Int64) : Sim (M_X12_firstOf l) (zFin zcI) 0 [(0, .inr (.inl v0))] [] (p_X12_firstOf v0) := by
  unfold p_X12_firstOf
  refine s_lloadn (j := 0) dX12_firstOf_0 rfl ?_
  refine s_iconst (v := 4) dX12_firstOf_1 (by decide) ?_
  refine s_lloadn (j := 0) dX12_firstOf_2 rfl ?_
  refine s_cSI (rest := [.inl 4, .inr (.inl v0)]) (met_X12_lengthOf l v0) mth_X12_lengthOf rfl dX12_firstOf_3 w_1538 w_1539 ⟨Nat.le_of_ble_eq_true rfl, Nat.le_of_ble_eq_true rfl⟩ (Nat.le_of_ble_eq_true rfl) rfl (fun x1 => ?_)
  refine s_iconst (v := 1) dX12_firstOf_6 (by decide) ?_
  refine s_isub dX12_firstOf_7 ?_
  refine s_imul dX12_firstOf_8 ?_
  refine s_lshr dX12_firstOf_9 ?_
  refine s_l2i dX12_firstOf_10 ?_
  exact s_iret dX12_firstOf_11 rfl
theorem met_X12_firstOf (l : Launch) (v0 : Int64) : zMet l yX12_firstOf cX12_firstOf 2 (some .int) 1 24 [.inr (.inl v0)] zcI (p_X12_firstOf v0) :=
  zMet.of (by decide +kernel) (Nat.le_of_ble_eq_true rfl) rfl (sim_X12_firstOf l v0)
def p_X12_both (v0 : Int64) (v2 : Int64) : ZM Int64 :=
  z_b (p_X12_lengthOf v2) fun x1 => z_rt ((v0 <<< (Int32.toInt64 (4 * x1) &&& 63)) ||| v2)
abbrev M_X12_both (l : Launch) : ZMe := (l, "SpellScribeModel", cX12_both, 4, 1, 24, (some .long), "both", [])
set_option maxRecDepth 20000 in
theorem sim_X12_both (l : Launch) (v0 : Int64) (v2 : Int64) : Sim (M_X12_both l) (zFin zcL) 0 [(0, .inr (.inl v0)), (2, .inr (.inl v2))] [] (p_X12_both v0 v2) := by
  unfold p_X12_both
  refine s_lloadn (j := 0) dX12_both_0 rfl ?_
  refine s_iconst (v := 4) dX12_both_1 (by decide) ?_
  refine s_lloadn (j := 1) dX12_both_2 rfl ?_
  refine s_cSI (rest := [.inl 4, .inr (.inl v0)]) (met_X12_lengthOf l v2) mth_X12_lengthOf rfl dX12_both_3 w_1538 w_1539 ⟨Nat.le_of_ble_eq_true rfl, Nat.le_of_ble_eq_true rfl⟩ (Nat.le_of_ble_eq_true rfl) rfl (fun x1 => ?_)
  refine s_imul dX12_both_6 ?_
  refine s_lshl dX12_both_7 ?_
  refine s_lloadn (j := 1) dX12_both_8 rfl ?_
  refine s_lor dX12_both_9 ?_
  exact s_lret dX12_both_10 rfl
theorem met_X12_both (l : Launch) (v0 : Int64) (v2 : Int64) : zMet l yX12_both cX12_both 4 (some .long) 1 24 [.inr (.inl v0), .inr (.inl v2)] zcL (p_X12_both v0 v2) :=
  zMet.of (by decide +kernel) (Nat.le_of_ble_eq_true rfl) rfl (sim_X12_both l v0 v2)
def p_X12_part (v0 : Int64) (v2 : Int32) (v3 : Int32) : ZM Int64 :=
  z_b (p_X12_lengthOf v0) fun x1 => z_n ((v0 >>> (Int32.toInt64 (4 * (x1 - v3)) &&& 63)) : Int64) fun y2 => z_rt (y2 &&& (((1 : Int64) <<< (Int32.toInt64 (4 * (v3 - v2)) &&& 63)) - 1))
abbrev M_X12_part (l : Launch) : ZMe := (l, "SpellScribeModel", cX12_part, 6, 1, 24, (some .long), "part", [])
set_option maxRecDepth 20000 in
theorem sim_X12_part (l : Launch) (v0 : Int64) (v2 : Int32) (v3 : Int32) : Sim (M_X12_part l) (zFin zcL) 0 [(0, .inr (.inl v0)), (2, .inl v2), (3, .inl v3)] [] (p_X12_part v0 v2 v3) := by
  unfold p_X12_part
  refine s_lloadn (j := 0) dX12_part_0 rfl ?_
  refine s_iconst (v := 4) dX12_part_1 (by decide) ?_
  refine s_lloadn (j := 0) dX12_part_2 rfl ?_
  refine s_cSI (rest := [.inl 4, .inr (.inl v0)]) (met_X12_lengthOf l v0) mth_X12_lengthOf rfl dX12_part_3 w_1538 w_1539 ⟨Nat.le_of_ble_eq_true rfl, Nat.le_of_ble_eq_true rfl⟩ (Nat.le_of_ble_eq_true rfl) rfl (fun x1 => ?_)
  refine s_iloadn (j := 2) dX12_part_6 rfl ?_
  refine s_isub dX12_part_7 ?_
  refine s_imul dX12_part_8 ?_
  refine s_lshr dX12_part_9 ?_
  refine s_nJ (fun y2 => ?_)
  refine s_lstore (lv' := [(4, .inr (.inl y2)), (0, .inr (.inl v0)), (2, .inl v2), (3, .inl v3)]) dX12_part_10 (Nat.le_of_ble_eq_true rfl) rfl ?_
  refine s_lload (j := 0) dX12_part_12 rfl ?_
  refine s_lconst (v := 1) dX12_part_14 (by decide) ?_
  refine s_iconst (v := 4) dX12_part_15 (by decide) ?_
  refine s_iloadn (j := 3) dX12_part_16 rfl ?_
  refine s_iloadn (j := 2) dX12_part_17 rfl ?_
  refine s_isub dX12_part_18 ?_
  refine s_imul dX12_part_19 ?_
  refine s_lshl dX12_part_20 ?_
  refine s_lconst (v := 1) dX12_part_21 (by decide) ?_
  refine s_lsub dX12_part_22 ?_
  refine s_land dX12_part_23 ?_
  exact s_lret dX12_part_24 rfl
theorem met_X12_part (l : Launch) (v0 : Int64) (v2 : Int32) (v3 : Int32) : zMet l yX12_part cX12_part 6 (some .long) 1 24 [.inr (.inl v0), .inl v2, .inl v3] zcL (p_X12_part v0 v2 v3) :=
  zMet.of (by decide +kernel) (Nat.le_of_ble_eq_true rfl) rfl (sim_X12_part l v0 v2 v3)
def p_X12_letter_b33 (v0 : Option Nat) (v1 : Int32) (s0 : Option Nat) (s1 : Int32) : ZM Int32 :=
  z_b (z_pI 13 58 s0 s1) fun _ => z_b (z_gI 13 58 v0) fun x1 => if x1 ≤ 0 then (z_b (z_gL 13 0 v0) fun x2 => z_b (z_pL 13 0 v0 ((x2 <<< (Int32.toInt64 4 &&& 63)) ||| (Int32.toInt64 ((v1 - 97) + 1)))) fun _ => z_b (z_gL 13 0 v0) fun x3 => z_b (p_X12_lengthOf x3) fun x4 => z_rt x4)
  else (z_rt 0)
def p_X12_letter (v0 : Option Nat) (v1 : Int32) : ZM Int32 :=
  z_b (p_X12_in v1 97 104) fun x5 => if ¬ x5 = 0 then (z_b (z_gL 13 0 v0) fun x6 => z_b (p_X12_lengthOf x6) fun x7 => if ¬ x7 = 10 then (p_X12_letter_b33 v0 v1 v0 0)
  else (p_X12_letter_b33 v0 v1 v0 2))
  else (p_X12_letter_b33 v0 v1 v0 1)
abbrev M_X12_letter (l : Launch) : ZMe := (l, "SpellScribeModel", cX12_letter, 2, 1, 24, (some .int), "letter", [])
set_option maxRecDepth 20000 in
theorem sim_X12_letter_b33 (l : Launch) (v0 : Option Nat) (v1 : Int32) (s0 : Option Nat) (s1 : Int32) : Sim (M_X12_letter l) (zFin zcI) 33 [(0, .inr (.inr v0)), (1, .inl v1)] [.inl s1, .inr (.inr s0)] (p_X12_letter_b33 v0 v1 s0 s1) := by
  unfold p_X12_letter_b33
  refine s_putI (k := 58) cls_13 (by decide) rfl rfl rfl dX12_letter_33 w_1406 rfl ?_
  refine s_aloadn (j := 0) dX12_letter_36 rfl ?_
  refine s_getI (k := 58) cls_13 (by decide) rfl dX12_letter_37 w_1406 rfl (fun x1 => ?_)
  refine s_if_le (tgt := 45) dX12_letter_40 (by decide) ?_ ?_
  · refine s_aloadn (j := 0) dX12_letter_45 rfl ?_
    refine s_aloadn (j := 0) dX12_letter_46 rfl ?_
    refine s_getL (k := 0) cls_13 (by decide) rfl dX12_letter_47 w_1348 rfl (fun x2 => ?_)
    refine s_iconst (v := 4) dX12_letter_50 (by decide) ?_
    refine s_lshl dX12_letter_51 ?_
    refine s_iloadn (j := 1) dX12_letter_52 rfl ?_
    refine s_bipush (v := 97) dX12_letter_53 (by decide) ?_
    refine s_isub dX12_letter_55 ?_
    refine s_iconst (v := 1) dX12_letter_56 (by decide) ?_
    refine s_iadd dX12_letter_57 ?_
    refine s_i2l dX12_letter_58 ?_
    refine s_lor dX12_letter_59 ?_
    refine s_putL (k := 0) cls_13 (by decide) rfl rfl rfl dX12_letter_60 w_1348 rfl ?_
    refine s_aloadn (j := 0) dX12_letter_63 rfl ?_
    refine s_getL (k := 0) cls_13 (by decide) rfl dX12_letter_64 w_1348 rfl (fun x3 => ?_)
    refine s_cSI (rest := []) (met_X12_lengthOf l x3) mth_X12_lengthOf rfl dX12_letter_67 w_1538 w_1539 ⟨Nat.le_of_ble_eq_true rfl, Nat.le_of_ble_eq_true rfl⟩ (Nat.le_of_ble_eq_true rfl) rfl (fun x4 => ?_)
    exact s_iret dX12_letter_70 rfl
  · refine s_iconst (v := 0) dX12_letter_43 (by decide) ?_
    exact s_iret dX12_letter_44 rfl
set_option maxRecDepth 20000 in
theorem sim_X12_letter (l : Launch) (v0 : Option Nat) (v1 : Int32) : Sim (M_X12_letter l) (zFin zcI) 0 [(0, .inr (.inr v0)), (1, .inl v1)] [] (p_X12_letter v0 v1) := by
  unfold p_X12_letter
  refine s_aloadn (j := 0) dX12_letter_0 rfl ?_
  refine s_iloadn (j := 1) dX12_letter_1 rfl ?_
  refine s_bipush (v := 97) dX12_letter_2 (by decide) ?_
  refine s_bipush (v := 104) dX12_letter_4 (by decide) ?_
  refine s_cSI (rest := [.inr (.inr v0)]) (met_X12_in l v1 97 104) mth_X12_in rfl dX12_letter_6 w_1535 w_1536 ⟨Nat.le_of_ble_eq_true rfl, Nat.le_of_ble_eq_true rfl⟩ (Nat.le_of_ble_eq_true rfl) rfl (fun x5 => ?_)
  refine s_if_ne (tgt := 16) dX12_letter_9 (by decide) ?_ ?_
  · refine s_aloadn (j := 0) dX12_letter_16 rfl ?_
    refine s_getL (k := 0) cls_13 (by decide) rfl dX12_letter_17 w_1348 rfl (fun x6 => ?_)
    refine s_cSI (rest := [.inr (.inr v0)]) (met_X12_lengthOf l x6) mth_X12_lengthOf rfl dX12_letter_20 w_1538 w_1539 ⟨Nat.le_of_ble_eq_true rfl, Nat.le_of_ble_eq_true rfl⟩ (Nat.le_of_ble_eq_true rfl) rfl (fun x7 => ?_)
    refine s_bipush (v := 10) dX12_letter_23 (by decide) ?_
    refine s_icmp_ne (tgt := 32) dX12_letter_25 (by decide) ?_ ?_
    · refine s_iconst (v := 0) dX12_letter_32 (by decide) ?_
      exact Sim.sub [0, 1] rfl (sim_X12_letter_b33 l v0 v1 v0 0)
    · refine s_iconst (v := 2) dX12_letter_28 (by decide) ?_
      refine s_goto (tgt := 33) dX12_letter_29 (by decide) ?_
      exact Sim.sub [0, 1] rfl (sim_X12_letter_b33 l v0 v1 v0 2)
  · refine s_iconst (v := 1) dX12_letter_12 (by decide) ?_
    refine s_goto (tgt := 33) dX12_letter_13 (by decide) ?_
    exact Sim.sub [0, 1] rfl (sim_X12_letter_b33 l v0 v1 v0 1)
theorem met_X12_letter (l : Launch) (v0 : Option Nat) (v1 : Int32) : zMet l yX12_letter cX12_letter 2 (some .int) 1 24 [.inr (.inr v0), .inl v1] zcI (p_X12_letter v0 v1) :=
  zMet.of (by decide +kernel) (Nat.le_of_ble_eq_true rfl) rfl (sim_X12_letter l v0 v1)
def p_X12_scrap (v0 : Option Nat) : ZM Int32 :=
  z_b (z_pI 13 58 v0 0) fun _ => z_b (z_gL 13 0 v0) fun x1 => z_b (p_X12_lengthOf x1) fun x2 => z_b (z_pL 13 0 v0 0) fun _ => z_rt x2
abbrev M_X12_scrap (l : Launch) : ZMe := (l, "SpellScribeModel", cX12_scrap, 2, 1, 24, (some .int), "scrap", [])
set_option maxRecDepth 20000 in
theorem sim_X12_scrap (l : Launch) (v0 : Option Nat) : Sim (M_X12_scrap l) (zFin zcI) 0 [(0, .inr (.inr v0))] [] (p_X12_scrap v0) := by
  unfold p_X12_scrap
  refine s_aloadn (j := 0) dX12_scrap_0 rfl ?_
  refine s_iconst (v := 0) dX12_scrap_1 (by decide) ?_
  refine s_putI (k := 58) cls_13 (by decide) rfl rfl rfl dX12_scrap_2 w_1406 rfl ?_
  refine s_aloadn (j := 0) dX12_scrap_5 rfl ?_
  refine s_getL (k := 0) cls_13 (by decide) rfl dX12_scrap_6 w_1348 rfl (fun x1 => ?_)
  refine s_cSI (rest := []) (met_X12_lengthOf l x1) mth_X12_lengthOf rfl dX12_scrap_9 w_1538 w_1539 ⟨Nat.le_of_ble_eq_true rfl, Nat.le_of_ble_eq_true rfl⟩ (Nat.le_of_ble_eq_true rfl) rfl (fun x2 => ?_)
  refine s_istoren (lv' := [(1, .inl x2), (0, .inr (.inr v0))]) dX12_scrap_12 (Nat.le_of_ble_eq_true rfl) rfl ?_
  refine s_aloadn (j := 1) dX12_scrap_13 rfl ?_
  refine s_lconst (v := 0) dX12_scrap_14 (by decide) ?_
  refine s_putL (k := 0) cls_13 (by decide) rfl rfl rfl dX12_scrap_15 w_1348 rfl ?_
  refine s_iloadn (j := 0) dX12_scrap_18 rfl ?_
  exact s_iret dX12_scrap_19 rfl
theorem met_X12_scrap (l : Launch) (v0 : Option Nat) : zMet l yX12_scrap cX12_scrap 2 (some .int) 1 24 [.inr (.inr v0)] zcI (p_X12_scrap v0) :=
  zMet.of (by decide +kernel) (Nat.le_of_ble_eq_true rfl) rfl (sim_X12_scrap l v0)
def p_X12_stem_b67 (v0 : Option Nat) (v1 : Int32) (v2 : Int32) (v3 : Int32) (v4 : Int32) (s0 : Option Nat) (s1 : Int32) : ZM Int32 :=
  z_b (z_pI 13 58 s0 s1) fun _ => z_b (z_gI 13 58 v0) fun x1 => if x1 ≤ 0 then (z_b (z_gR 13 2 v0) fun x2 => z_b (z_gI 13 1 v0) fun x3 => z_b (z_gL 13 0 v0) fun x4 => z_b (z_sL x2 x3 x4) fun _ => z_b (z_gR 13 3 v0) fun x5 => z_b (z_gI 13 1 v0) fun x6 => z_b (z_sI x5 x6 v1) fun _ => z_b (z_gR 13 4 v0) fun x7 => z_b (z_gI 13 1 v0) fun x8 => z_b (z_sI x7 x8 v2) fun _ => z_b (z_gR 13 5 v0) fun x9 => z_b (z_gI 13 1 v0) fun x10 => z_b (z_sI x9 x10 v3) fun _ => z_b (z_gR 13 6 v0) fun x11 => z_b (z_gI 13 1 v0) fun x12 => z_b (z_sI x11 x12 v4) fun _ => z_b (z_gI 13 1 v0) fun x13 => z_b (z_pI 13 1 v0 (x13 + 1)) fun _ => z_b (z_pL 13 0 v0 0) fun _ => z_b (z_pZ 13 34 v0 0) fun _ => z_b (z_gI 13 1 v0) fun x14 => z_rt (x14 - 1))
  else (z_rt 0)
def p_X12_stem_b40 (v0 : Option Nat) (v1 : Int32) (v2 : Int32) (v3 : Int32) (v4 : Int32) (s0 : Option Nat) : ZM Int32 :=
  p_X12_stem_b67 v0 v1 v2 v3 v4 s0 1
def p_X12_stem_b62 (v0 : Option Nat) (v1 : Int32) (v2 : Int32) (v3 : Int32) (v4 : Int32) (s0 : Option Nat) : ZM Int32 :=
  p_X12_stem_b67 v0 v1 v2 v3 v4 s0 2
def p_X12_stem (v0 : Option Nat) (v1 : Int32) (v2 : Int32) (v3 : Int32) (v4 : Int32) : ZM Int32 :=
  z_b (p_X12_in v1 0 63) fun x15 => if x15 = 0 then (p_X12_stem_b40 v0 v1 v2 v3 v4 v0)
  else (z_b (p_X12_in v2 0 3) fun x16 => if x16 = 0 then (p_X12_stem_b40 v0 v1 v2 v3 v4 v0)
  else (z_b (p_X12_in v3 0 1) fun x17 => if x17 = 0 then (p_X12_stem_b40 v0 v1 v2 v3 v4 v0)
  else (z_b (p_X12_in v4 0 7) fun x18 => if ¬ x18 = 0 then (z_b (z_gL 13 0 v0) fun x19 => if (lg_cmp x19 0) = 0 then (p_X12_stem_b62 v0 v1 v2 v3 v4 v0)
  else (z_b (z_gI 13 1 v0) fun x20 => if ¬ x20 = 12 then (p_X12_stem_b67 v0 v1 v2 v3 v4 v0 0)
  else (p_X12_stem_b62 v0 v1 v2 v3 v4 v0)))
  else (p_X12_stem_b40 v0 v1 v2 v3 v4 v0))))
abbrev M_X12_stem (l : Launch) : ZMe := (l, "SpellScribeModel", cX12_stem, 5, 1, 22, (some .int), "stem", [])
set_option maxRecDepth 20000 in
theorem sim_X12_stem_b67 (l : Launch) (v0 : Option Nat) (v1 : Int32) (v2 : Int32) (v3 : Int32) (v4 : Int32) (s0 : Option Nat) (s1 : Int32) : Sim (M_X12_stem l) (zFin zcI) 67 [(0, .inr (.inr v0)), (1, .inl v1), (2, .inl v2), (3, .inl v3), (4, .inl v4)] [.inl s1, .inr (.inr s0)] (p_X12_stem_b67 v0 v1 v2 v3 v4 s0 s1) := by
  unfold p_X12_stem_b67
  refine s_putI (k := 58) cls_13 (by decide) rfl rfl rfl dX12_stem_67 w_1406 rfl ?_
  refine s_aloadn (j := 0) dX12_stem_70 rfl ?_
  refine s_getI (k := 58) cls_13 (by decide) rfl dX12_stem_71 w_1406 rfl (fun x1 => ?_)
  refine s_if_le (tgt := 79) dX12_stem_74 (by decide) ?_ ?_
  · refine s_aloadn (j := 0) dX12_stem_79 rfl ?_
    refine s_getR (k := 2) cls_13 (by decide) rfl dX12_stem_80 w_1350 rfl (fun x2 => ?_)
    refine s_aloadn (j := 0) dX12_stem_83 rfl ?_
    refine s_getI (k := 1) cls_13 (by decide) rfl dX12_stem_84 w_1349 rfl (fun x3 => ?_)
    refine s_aloadn (j := 0) dX12_stem_87 rfl ?_
    refine s_getL (k := 0) cls_13 (by decide) rfl dX12_stem_88 w_1348 rfl (fun x4 => ?_)
    refine s_last dX12_stem_91 ?_
    refine s_aloadn (j := 0) dX12_stem_92 rfl ?_
    refine s_getR (k := 3) cls_13 (by decide) rfl dX12_stem_93 w_1351 rfl (fun x5 => ?_)
    refine s_aloadn (j := 0) dX12_stem_96 rfl ?_
    refine s_getI (k := 1) cls_13 (by decide) rfl dX12_stem_97 w_1349 rfl (fun x6 => ?_)
    refine s_iloadn (j := 1) dX12_stem_100 rfl ?_
    refine s_iast dX12_stem_101 ?_
    refine s_aloadn (j := 0) dX12_stem_102 rfl ?_
    refine s_getR (k := 4) cls_13 (by decide) rfl dX12_stem_103 w_1352 rfl (fun x7 => ?_)
    refine s_aloadn (j := 0) dX12_stem_106 rfl ?_
    refine s_getI (k := 1) cls_13 (by decide) rfl dX12_stem_107 w_1349 rfl (fun x8 => ?_)
    refine s_iloadn (j := 2) dX12_stem_110 rfl ?_
    refine s_iast dX12_stem_111 ?_
    refine s_aloadn (j := 0) dX12_stem_112 rfl ?_
    refine s_getR (k := 5) cls_13 (by decide) rfl dX12_stem_113 w_1353 rfl (fun x9 => ?_)
    refine s_aloadn (j := 0) dX12_stem_116 rfl ?_
    refine s_getI (k := 1) cls_13 (by decide) rfl dX12_stem_117 w_1349 rfl (fun x10 => ?_)
    refine s_iloadn (j := 3) dX12_stem_120 rfl ?_
    refine s_iast dX12_stem_121 ?_
    refine s_aloadn (j := 0) dX12_stem_122 rfl ?_
    refine s_getR (k := 6) cls_13 (by decide) rfl dX12_stem_123 w_1354 rfl (fun x11 => ?_)
    refine s_aloadn (j := 0) dX12_stem_126 rfl ?_
    refine s_getI (k := 1) cls_13 (by decide) rfl dX12_stem_127 w_1349 rfl (fun x12 => ?_)
    refine s_iload (j := 4) dX12_stem_130 rfl ?_
    refine s_iast dX12_stem_132 ?_
    refine s_aloadn (j := 0) dX12_stem_133 rfl ?_
    refine s_dupR dX12_stem_134 ?_
    refine s_getI (k := 1) cls_13 (by decide) rfl dX12_stem_135 w_1349 rfl (fun x13 => ?_)
    refine s_iconst (v := 1) dX12_stem_138 (by decide) ?_
    refine s_iadd dX12_stem_139 ?_
    refine s_putI (k := 1) cls_13 (by decide) rfl rfl rfl dX12_stem_140 w_1349 rfl ?_
    refine s_aloadn (j := 0) dX12_stem_143 rfl ?_
    refine s_lconst (v := 0) dX12_stem_144 (by decide) ?_
    refine s_putL (k := 0) cls_13 (by decide) rfl rfl rfl dX12_stem_145 w_1348 rfl ?_
    refine s_aloadn (j := 0) dX12_stem_148 rfl ?_
    refine s_iconst (v := 0) dX12_stem_149 (by decide) ?_
    refine s_putZ (k := 34) cls_13 (by decide) rfl rfl rfl dX12_stem_150 w_1382 rfl ?_
    refine s_aloadn (j := 0) dX12_stem_153 rfl ?_
    refine s_getI (k := 1) cls_13 (by decide) rfl dX12_stem_154 w_1349 rfl (fun x14 => ?_)
    refine s_iconst (v := 1) dX12_stem_157 (by decide) ?_
    refine s_isub dX12_stem_158 ?_
    exact s_iret dX12_stem_159 rfl
  · refine s_iconst (v := 0) dX12_stem_77 (by decide) ?_
    exact s_iret dX12_stem_78 rfl
set_option maxRecDepth 20000 in
theorem sim_X12_stem_b40 (l : Launch) (v0 : Option Nat) (v1 : Int32) (v2 : Int32) (v3 : Int32) (v4 : Int32) (s0 : Option Nat) : Sim (M_X12_stem l) (zFin zcI) 40 [(0, .inr (.inr v0)), (1, .inl v1), (2, .inl v2), (3, .inl v3), (4, .inl v4)] [.inr (.inr s0)] (p_X12_stem_b40 v0 v1 v2 v3 v4 s0) := by
  unfold p_X12_stem_b40
  refine s_iconst (v := 1) dX12_stem_40 (by decide) ?_
  refine s_goto (tgt := 67) dX12_stem_41 (by decide) ?_
  exact Sim.sub [0, 1, 2, 3, 4] rfl (sim_X12_stem_b67 l v0 v1 v2 v3 v4 s0 1)
set_option maxRecDepth 20000 in
theorem sim_X12_stem_b62 (l : Launch) (v0 : Option Nat) (v1 : Int32) (v2 : Int32) (v3 : Int32) (v4 : Int32) (s0 : Option Nat) : Sim (M_X12_stem l) (zFin zcI) 62 [(0, .inr (.inr v0)), (1, .inl v1), (2, .inl v2), (3, .inl v3), (4, .inl v4)] [.inr (.inr s0)] (p_X12_stem_b62 v0 v1 v2 v3 v4 s0) := by
  unfold p_X12_stem_b62
  refine s_iconst (v := 2) dX12_stem_62 (by decide) ?_
  refine s_goto (tgt := 67) dX12_stem_63 (by decide) ?_
  exact Sim.sub [0, 1, 2, 3, 4] rfl (sim_X12_stem_b67 l v0 v1 v2 v3 v4 s0 2)
set_option maxRecDepth 20000 in
theorem sim_X12_stem (l : Launch) (v0 : Option Nat) (v1 : Int32) (v2 : Int32) (v3 : Int32) (v4 : Int32) : Sim (M_X12_stem l) (zFin zcI) 0 [(0, .inr (.inr v0)), (1, .inl v1), (2, .inl v2), (3, .inl v3), (4, .inl v4)] [] (p_X12_stem v0 v1 v2 v3 v4) := by
  unfold p_X12_stem
  refine s_aloadn (j := 0) dX12_stem_0 rfl ?_
  refine s_iloadn (j := 1) dX12_stem_1 rfl ?_
  refine s_iconst (v := 0) dX12_stem_2 (by decide) ?_
  refine s_bipush (v := 63) dX12_stem_3 (by decide) ?_
  refine s_cSI (rest := [.inr (.inr v0)]) (met_X12_in l v1 0 63) mth_X12_in rfl dX12_stem_5 w_1535 w_1536 ⟨Nat.le_of_ble_eq_true rfl, Nat.le_of_ble_eq_true rfl⟩ (Nat.le_of_ble_eq_true rfl) rfl (fun x15 => ?_)
  refine s_if_eq (tgt := 40) dX12_stem_8 (by decide) ?_ ?_
  · exact Sim.sub [0, 1, 2, 3, 4] rfl (sim_X12_stem_b40 l v0 v1 v2 v3 v4 v0)
  · refine s_iloadn (j := 2) dX12_stem_11 rfl ?_
    refine s_iconst (v := 0) dX12_stem_12 (by decide) ?_
    refine s_iconst (v := 3) dX12_stem_13 (by decide) ?_
    refine s_cSI (rest := [.inr (.inr v0)]) (met_X12_in l v2 0 3) mth_X12_in rfl dX12_stem_14 w_1535 w_1536 ⟨Nat.le_of_ble_eq_true rfl, Nat.le_of_ble_eq_true rfl⟩ (Nat.le_of_ble_eq_true rfl) rfl (fun x16 => ?_)
    refine s_if_eq (tgt := 40) dX12_stem_17 (by decide) ?_ ?_
    · exact Sim.sub [0, 1, 2, 3, 4] rfl (sim_X12_stem_b40 l v0 v1 v2 v3 v4 v0)
    · refine s_iloadn (j := 3) dX12_stem_20 rfl ?_
      refine s_iconst (v := 0) dX12_stem_21 (by decide) ?_
      refine s_iconst (v := 1) dX12_stem_22 (by decide) ?_
      refine s_cSI (rest := [.inr (.inr v0)]) (met_X12_in l v3 0 1) mth_X12_in rfl dX12_stem_23 w_1535 w_1536 ⟨Nat.le_of_ble_eq_true rfl, Nat.le_of_ble_eq_true rfl⟩ (Nat.le_of_ble_eq_true rfl) rfl (fun x17 => ?_)
      refine s_if_eq (tgt := 40) dX12_stem_26 (by decide) ?_ ?_
      · exact Sim.sub [0, 1, 2, 3, 4] rfl (sim_X12_stem_b40 l v0 v1 v2 v3 v4 v0)
      · refine s_iload (j := 4) dX12_stem_29 rfl ?_
        refine s_iconst (v := 0) dX12_stem_31 (by decide) ?_
        refine s_bipush (v := 7) dX12_stem_32 (by decide) ?_
        refine s_cSI (rest := [.inr (.inr v0)]) (met_X12_in l v4 0 7) mth_X12_in rfl dX12_stem_34 w_1535 w_1536 ⟨Nat.le_of_ble_eq_true rfl, Nat.le_of_ble_eq_true rfl⟩ (Nat.le_of_ble_eq_true rfl) rfl (fun x18 => ?_)
        refine s_if_ne (tgt := 44) dX12_stem_37 (by decide) ?_ ?_
        · refine s_aloadn (j := 0) dX12_stem_44 rfl ?_
          refine s_getL (k := 0) cls_13 (by decide) rfl dX12_stem_45 w_1348 rfl (fun x19 => ?_)
          refine s_lconst (v := 0) dX12_stem_48 (by decide) ?_
          refine s_lcmp dX12_stem_49 ?_
          refine s_if_eq (tgt := 62) dX12_stem_50 (by decide) ?_ ?_
          · exact Sim.sub [0, 1, 2, 3, 4] rfl (sim_X12_stem_b62 l v0 v1 v2 v3 v4 v0)
          · refine s_aloadn (j := 0) dX12_stem_53 rfl ?_
            refine s_getI (k := 1) cls_13 (by decide) rfl dX12_stem_54 w_1349 rfl (fun x20 => ?_)
            refine s_bipush (v := 12) dX12_stem_57 (by decide) ?_
            refine s_icmp_ne (tgt := 66) dX12_stem_59 (by decide) ?_ ?_
            · refine s_iconst (v := 0) dX12_stem_66 (by decide) ?_
              exact Sim.sub [0, 1, 2, 3, 4] rfl (sim_X12_stem_b67 l v0 v1 v2 v3 v4 v0 0)
            · exact Sim.sub [0, 1, 2, 3, 4] rfl (sim_X12_stem_b62 l v0 v1 v2 v3 v4 v0)
        · exact Sim.sub [0, 1, 2, 3, 4] rfl (sim_X12_stem_b40 l v0 v1 v2 v3 v4 v0)
theorem met_X12_stem (l : Launch) (v0 : Option Nat) (v1 : Int32) (v2 : Int32) (v3 : Int32) (v4 : Int32) : zMet l yX12_stem cX12_stem 5 (some .int) 1 22 [.inr (.inr v0), .inl v1, .inl v2, .inl v3, .inl v4] zcI (p_X12_stem v0 v1 v2 v3 v4) :=
  zMet.of (by decide +kernel) (Nat.le_of_ble_eq_true rfl) rfl (sim_X12_stem l v0 v1 v2 v3 v4)
def p_X12_rule_b201 (v0 : Option Nat) (v5 : Int32) (v6 : Int32) (s0 : Option Nat) (s1 : Int32) (s2 : Int32) : ZM Int32 :=
  z_b (z_sI s0 s1 s2) fun _ => z_b (z_gR 13 13 v0) fun x1 => z_b (z_gI 13 7 v0) fun x2 => z_b (z_sI x1 x2 v5) fun _ => z_b (z_gR 13 14 v0) fun x3 => z_b (z_gI 13 7 v0) fun x4 => z_b (z_sI x3 x4 v6) fun _ => z_b (z_gI 13 7 v0) fun x5 => z_b (z_pI 13 7 v0 (x5 + 1)) fun _ => z_b (z_pL 13 0 v0 0) fun _ => z_b (z_pZ 13 34 v0 0) fun _ => z_b (z_gI 13 7 v0) fun x6 => z_rt (x6 - 1)
def p_X12_rule_b151 (v0 : Option Nat) (v3 : Int32) (v4 : Int32) (v5 : Int32) (v6 : Int32) (s0 : Option Nat) (s1 : Int32) (s2 : Int32) : ZM Int32 :=
  z_b (z_sI s0 s1 s2) fun _ => z_b (z_gR 13 10 v0) fun x7 => z_b (z_gI 13 7 v0) fun x8 => z_b (z_sI x7 x8 v3) fun _ => z_b (z_gR 13 11 v0) fun x9 => z_b (z_gI 13 7 v0) fun x10 => z_b (z_gL 13 0 v0) fun x11 => z_b (z_sL x9 x10 x11) fun _ => z_b (z_gR 13 12 v0) fun x12 => z_b (z_gI 13 7 v0) fun x13 => if ¬ v4 = 32 then (p_X12_rule_b201 v0 v5 v6 x12 x13 ((v4 - 97) + 1))
  else (p_X12_rule_b201 v0 v5 v6 x12 x13 0)
def p_X12_rule_b112 (v0 : Option Nat) (v1 : Int32) (v2 : Int32) (v3 : Int32) (v4 : Int32) (v5 : Int32) (v6 : Int32) (s0 : Option Nat) (s1 : Int32) : ZM Int32 :=
  z_b (z_pI 13 58 s0 s1) fun _ => z_b (z_gI 13 58 v0) fun x14 => if x14 ≤ 0 then (z_b (z_gR 13 8 v0) fun x15 => z_b (z_gI 13 7 v0) fun x16 => z_b (z_sI x15 x16 v1) fun _ => z_b (z_gR 13 9 v0) fun x17 => z_b (z_gI 13 7 v0) fun x18 => if v2 = 0 then (p_X12_rule_b151 v0 v3 v4 v5 v6 x17 x18 0)
  else (p_X12_rule_b151 v0 v3 v4 v5 v6 x17 x18 1))
  else (z_rt 0)
def p_X12_rule_b107 (v0 : Option Nat) (v1 : Int32) (v2 : Int32) (v3 : Int32) (v4 : Int32) (v5 : Int32) (v6 : Int32) (s0 : Option Nat) : ZM Int32 :=
  p_X12_rule_b112 v0 v1 v2 v3 v4 v5 v6 s0 2
def p_X12_rule_b98 (v0 : Option Nat) (v1 : Int32) (v2 : Int32) (v3 : Int32) (v4 : Int32) (v5 : Int32) (v6 : Int32) (s0 : Option Nat) : ZM Int32 :=
  z_b (z_gI 13 7 v0) fun x19 => if ¬ x19 = 8 then (p_X12_rule_b112 v0 v1 v2 v3 v4 v5 v6 s0 0)
  else (p_X12_rule_b107 v0 v1 v2 v3 v4 v5 v6 s0)
def p_X12_rule_b62 (v0 : Option Nat) (v1 : Int32) (v2 : Int32) (v3 : Int32) (v4 : Int32) (v5 : Int32) (v6 : Int32) (s0 : Int32) : ZM Int32 :=
  if ¬ s0 = 0 then (z_b (z_gL 13 0 v0) fun x20 => z_b (p_X12_lengthOf x20) fun x21 => if 4 < x21 then (p_X12_rule_b107 v0 v1 v2 v3 v4 v5 v6 v0)
  else (z_b (z_gL 13 0 v0) fun x22 => if ¬ (lg_cmp x22 0) = 0 then (p_X12_rule_b98 v0 v1 v2 v3 v4 v5 v6 v0)
  else (if v3 = 0 then (p_X12_rule_b107 v0 v1 v2 v3 v4 v5 v6 v0)
  else (p_X12_rule_b98 v0 v1 v2 v3 v4 v5 v6 v0))))
  else (p_X12_rule_b112 v0 v1 v2 v3 v4 v5 v6 v0 1)
def p_X12_rule_b61 (v0 : Option Nat) (v1 : Int32) (v2 : Int32) (v3 : Int32) (v4 : Int32) (v5 : Int32) (v6 : Int32) : ZM Int32 :=
  p_X12_rule_b62 v0 v1 v2 v3 v4 v5 v6 0
def p_X12_rule_b37 (v0 : Option Nat) (v1 : Int32) (v2 : Int32) (v3 : Int32) (v4 : Int32) (v5 : Int32) (v6 : Int32) : ZM Int32 :=
  z_b (p_X12_in v5 (-1) 3) fun x23 => if x23 = 0 then (p_X12_rule_b61 v0 v1 v2 v3 v4 v5 v6)
  else (z_b (p_X12_in v6 (-1) 1) fun x24 => if x24 = 0 then (p_X12_rule_b61 v0 v1 v2 v3 v4 v5 v6)
  else (p_X12_rule_b62 v0 v1 v2 v3 v4 v5 v6 1))
def p_X12_rule (v0 : Option Nat) (v1 : Int32) (v2 : Int32) (v3 : Int32) (v4 : Int32) (v5 : Int32) (v6 : Int32) : ZM Int32 :=
  z_b (p_X12_in v1 0 5) fun x25 => if x25 = 0 then (p_X12_rule_b61 v0 v1 v2 v3 v4 v5 v6)
  else (z_b (p_X12_in v3 0 2) fun x26 => if x26 = 0 then (p_X12_rule_b61 v0 v1 v2 v3 v4 v5 v6)
  else (if v4 = 32 then (p_X12_rule_b37 v0 v1 v2 v3 v4 v5 v6)
  else (z_b (p_X12_in v4 97 104) fun x27 => if x27 = 0 then (p_X12_rule_b61 v0 v1 v2 v3 v4 v5 v6)
  else (p_X12_rule_b37 v0 v1 v2 v3 v4 v5 v6))))
abbrev M_X12_rule (l : Launch) : ZMe := (l, "SpellScribeModel", cX12_rule, 8, 1, 24, (some .int), "rule", [])
set_option maxRecDepth 20000 in
theorem sim_X12_rule_b201 (l : Launch) (v0 : Option Nat) (v5 : Int32) (v6 : Int32) (s0 : Option Nat) (s1 : Int32) (s2 : Int32) : Sim (M_X12_rule l) (zFin zcI) 201 [(0, .inr (.inr v0)), (5, .inl v5), (6, .inl v6)] [.inl s2, .inl s1, .inr (.inr s0)] (p_X12_rule_b201 v0 v5 v6 s0 s1 s2) := by
  unfold p_X12_rule_b201
  refine s_iast dX12_rule_201 ?_
  refine s_aloadn (j := 0) dX12_rule_202 rfl ?_
  refine s_getR (k := 13) cls_13 (by decide) rfl dX12_rule_203 w_1361 rfl (fun x1 => ?_)
  refine s_aloadn (j := 0) dX12_rule_206 rfl ?_
  refine s_getI (k := 7) cls_13 (by decide) rfl dX12_rule_207 w_1355 rfl (fun x2 => ?_)
  refine s_iload (j := 1) dX12_rule_210 rfl ?_
  refine s_iast dX12_rule_212 ?_
  refine s_aloadn (j := 0) dX12_rule_213 rfl ?_
  refine s_getR (k := 14) cls_13 (by decide) rfl dX12_rule_214 w_1362 rfl (fun x3 => ?_)
  refine s_aloadn (j := 0) dX12_rule_217 rfl ?_
  refine s_getI (k := 7) cls_13 (by decide) rfl dX12_rule_218 w_1355 rfl (fun x4 => ?_)
  refine s_iload (j := 2) dX12_rule_221 rfl ?_
  refine s_iast dX12_rule_223 ?_
  refine s_aloadn (j := 0) dX12_rule_224 rfl ?_
  refine s_dupR dX12_rule_225 ?_
  refine s_getI (k := 7) cls_13 (by decide) rfl dX12_rule_226 w_1355 rfl (fun x5 => ?_)
  refine s_iconst (v := 1) dX12_rule_229 (by decide) ?_
  refine s_iadd dX12_rule_230 ?_
  refine s_putI (k := 7) cls_13 (by decide) rfl rfl rfl dX12_rule_231 w_1355 rfl ?_
  refine s_aloadn (j := 0) dX12_rule_234 rfl ?_
  refine s_lconst (v := 0) dX12_rule_235 (by decide) ?_
  refine s_putL (k := 0) cls_13 (by decide) rfl rfl rfl dX12_rule_236 w_1348 rfl ?_
  refine s_aloadn (j := 0) dX12_rule_239 rfl ?_
  refine s_iconst (v := 0) dX12_rule_240 (by decide) ?_
  refine s_putZ (k := 34) cls_13 (by decide) rfl rfl rfl dX12_rule_241 w_1382 rfl ?_
  refine s_aloadn (j := 0) dX12_rule_244 rfl ?_
  refine s_getI (k := 7) cls_13 (by decide) rfl dX12_rule_245 w_1355 rfl (fun x6 => ?_)
  refine s_iconst (v := 1) dX12_rule_248 (by decide) ?_
  refine s_isub dX12_rule_249 ?_
  exact s_iret dX12_rule_250 rfl
set_option maxRecDepth 20000 in
theorem sim_X12_rule_b151 (l : Launch) (v0 : Option Nat) (v3 : Int32) (v4 : Int32) (v5 : Int32) (v6 : Int32) (s0 : Option Nat) (s1 : Int32) (s2 : Int32) : Sim (M_X12_rule l) (zFin zcI) 151 [(0, .inr (.inr v0)), (3, .inl v3), (4, .inl v4), (5, .inl v5), (6, .inl v6)] [.inl s2, .inl s1, .inr (.inr s0)] (p_X12_rule_b151 v0 v3 v4 v5 v6 s0 s1 s2) := by
  unfold p_X12_rule_b151
  refine s_iast dX12_rule_151 ?_
  refine s_aloadn (j := 0) dX12_rule_152 rfl ?_
  refine s_getR (k := 10) cls_13 (by decide) rfl dX12_rule_153 w_1358 rfl (fun x7 => ?_)
  refine s_aloadn (j := 0) dX12_rule_156 rfl ?_
  refine s_getI (k := 7) cls_13 (by decide) rfl dX12_rule_157 w_1355 rfl (fun x8 => ?_)
  refine s_iloadn (j := 1) dX12_rule_160 rfl ?_
  refine s_iast dX12_rule_161 ?_
  refine s_aloadn (j := 0) dX12_rule_162 rfl ?_
  refine s_getR (k := 11) cls_13 (by decide) rfl dX12_rule_163 w_1359 rfl (fun x9 => ?_)
  refine s_aloadn (j := 0) dX12_rule_166 rfl ?_
  refine s_getI (k := 7) cls_13 (by decide) rfl dX12_rule_167 w_1355 rfl (fun x10 => ?_)
  refine s_aloadn (j := 0) dX12_rule_170 rfl ?_
  refine s_getL (k := 0) cls_13 (by decide) rfl dX12_rule_171 w_1348 rfl (fun x11 => ?_)
  refine s_last dX12_rule_174 ?_
  refine s_aloadn (j := 0) dX12_rule_175 rfl ?_
  refine s_getR (k := 12) cls_13 (by decide) rfl dX12_rule_176 w_1360 rfl (fun x12 => ?_)
  refine s_aloadn (j := 0) dX12_rule_179 rfl ?_
  refine s_getI (k := 7) cls_13 (by decide) rfl dX12_rule_180 w_1355 rfl (fun x13 => ?_)
  refine s_iload (j := 2) dX12_rule_183 rfl ?_
  refine s_bipush (v := 32) dX12_rule_185 (by decide) ?_
  refine s_icmp_ne (tgt := 194) dX12_rule_187 (by decide) ?_ ?_
  · refine s_iload (j := 2) dX12_rule_194 rfl ?_
    refine s_bipush (v := 97) dX12_rule_196 (by decide) ?_
    refine s_isub dX12_rule_198 ?_
    refine s_iconst (v := 1) dX12_rule_199 (by decide) ?_
    refine s_iadd dX12_rule_200 ?_
    exact Sim.sub [0, 3, 4] rfl (sim_X12_rule_b201 l v0 v5 v6 x12 x13 ((v4 - 97) + 1))
  · refine s_iconst (v := 0) dX12_rule_190 (by decide) ?_
    refine s_goto (tgt := 201) dX12_rule_191 (by decide) ?_
    exact Sim.sub [0, 3, 4] rfl (sim_X12_rule_b201 l v0 v5 v6 x12 x13 0)
set_option maxRecDepth 20000 in
theorem sim_X12_rule_b112 (l : Launch) (v0 : Option Nat) (v1 : Int32) (v2 : Int32) (v3 : Int32) (v4 : Int32) (v5 : Int32) (v6 : Int32) (s0 : Option Nat) (s1 : Int32) : Sim (M_X12_rule l) (zFin zcI) 112 [(0, .inr (.inr v0)), (1, .inl v1), (2, .inl v2), (3, .inl v3), (4, .inl v4), (5, .inl v5), (6, .inl v6)] [.inl s1, .inr (.inr s0)] (p_X12_rule_b112 v0 v1 v2 v3 v4 v5 v6 s0 s1) := by
  unfold p_X12_rule_b112
  refine s_putI (k := 58) cls_13 (by decide) rfl rfl rfl dX12_rule_112 w_1406 rfl ?_
  refine s_aloadn (j := 0) dX12_rule_115 rfl ?_
  refine s_getI (k := 58) cls_13 (by decide) rfl dX12_rule_116 w_1406 rfl (fun x14 => ?_)
  refine s_if_le (tgt := 124) dX12_rule_119 (by decide) ?_ ?_
  · refine s_aloadn (j := 0) dX12_rule_124 rfl ?_
    refine s_getR (k := 8) cls_13 (by decide) rfl dX12_rule_125 w_1356 rfl (fun x15 => ?_)
    refine s_aloadn (j := 0) dX12_rule_128 rfl ?_
    refine s_getI (k := 7) cls_13 (by decide) rfl dX12_rule_129 w_1355 rfl (fun x16 => ?_)
    refine s_iloadn (j := 1) dX12_rule_132 rfl ?_
    refine s_iast dX12_rule_133 ?_
    refine s_aloadn (j := 0) dX12_rule_134 rfl ?_
    refine s_getR (k := 9) cls_13 (by decide) rfl dX12_rule_135 w_1357 rfl (fun x17 => ?_)
    refine s_aloadn (j := 0) dX12_rule_138 rfl ?_
    refine s_getI (k := 7) cls_13 (by decide) rfl dX12_rule_139 w_1355 rfl (fun x18 => ?_)
    refine s_iloadn (j := 2) dX12_rule_142 rfl ?_
    refine s_if_eq (tgt := 150) dX12_rule_143 (by decide) ?_ ?_
    · refine s_iconst (v := 0) dX12_rule_150 (by decide) ?_
      exact Sim.sub [0, 3, 4, 5, 6] rfl (sim_X12_rule_b151 l v0 v3 v4 v5 v6 x17 x18 0)
    · refine s_iconst (v := 1) dX12_rule_146 (by decide) ?_
      refine s_goto (tgt := 151) dX12_rule_147 (by decide) ?_
      exact Sim.sub [0, 3, 4, 5, 6] rfl (sim_X12_rule_b151 l v0 v3 v4 v5 v6 x17 x18 1)
  · refine s_iconst (v := 0) dX12_rule_122 (by decide) ?_
    exact s_iret dX12_rule_123 rfl
set_option maxRecDepth 20000 in
theorem sim_X12_rule_b107 (l : Launch) (v0 : Option Nat) (v1 : Int32) (v2 : Int32) (v3 : Int32) (v4 : Int32) (v5 : Int32) (v6 : Int32) (s0 : Option Nat) : Sim (M_X12_rule l) (zFin zcI) 107 [(0, .inr (.inr v0)), (1, .inl v1), (2, .inl v2), (3, .inl v3), (4, .inl v4), (5, .inl v5), (6, .inl v6)] [.inr (.inr s0)] (p_X12_rule_b107 v0 v1 v2 v3 v4 v5 v6 s0) := by
  unfold p_X12_rule_b107
  refine s_iconst (v := 2) dX12_rule_107 (by decide) ?_
  refine s_goto (tgt := 112) dX12_rule_108 (by decide) ?_
  exact Sim.sub [0, 1, 2, 3, 4, 5, 6] rfl (sim_X12_rule_b112 l v0 v1 v2 v3 v4 v5 v6 s0 2)
set_option maxRecDepth 20000 in
theorem sim_X12_rule_b98 (l : Launch) (v0 : Option Nat) (v1 : Int32) (v2 : Int32) (v3 : Int32) (v4 : Int32) (v5 : Int32) (v6 : Int32) (s0 : Option Nat) : Sim (M_X12_rule l) (zFin zcI) 98 [(0, .inr (.inr v0)), (1, .inl v1), (2, .inl v2), (3, .inl v3), (4, .inl v4), (5, .inl v5), (6, .inl v6)] [.inr (.inr s0)] (p_X12_rule_b98 v0 v1 v2 v3 v4 v5 v6 s0) := by
  unfold p_X12_rule_b98
  refine s_aloadn (j := 0) dX12_rule_98 rfl ?_
  refine s_getI (k := 7) cls_13 (by decide) rfl dX12_rule_99 w_1355 rfl (fun x19 => ?_)
  refine s_bipush (v := 8) dX12_rule_102 (by decide) ?_
  refine s_icmp_ne (tgt := 111) dX12_rule_104 (by decide) ?_ ?_
  · refine s_iconst (v := 0) dX12_rule_111 (by decide) ?_
    exact Sim.sub [0, 1, 2, 3, 4, 5, 6] rfl (sim_X12_rule_b112 l v0 v1 v2 v3 v4 v5 v6 s0 0)
  · exact Sim.sub [0, 1, 2, 3, 4, 5, 6] rfl (sim_X12_rule_b107 l v0 v1 v2 v3 v4 v5 v6 s0)
set_option maxRecDepth 20000 in
theorem sim_X12_rule_b62 (l : Launch) (v0 : Option Nat) (v1 : Int32) (v2 : Int32) (v3 : Int32) (v4 : Int32) (v5 : Int32) (v6 : Int32) (s0 : Int32) : Sim (M_X12_rule l) (zFin zcI) 62 [(0, .inr (.inr v0)), (1, .inl v1), (2, .inl v2), (3, .inl v3), (4, .inl v4), (5, .inl v5), (6, .inl v6)] [.inl s0] (p_X12_rule_b62 v0 v1 v2 v3 v4 v5 v6 s0) := by
  unfold p_X12_rule_b62
  refine s_istore (lv' := [(7, .inl s0), (0, .inr (.inr v0)), (1, .inl v1), (2, .inl v2), (3, .inl v3), (4, .inl v4), (5, .inl v5), (6, .inl v6)]) dX12_rule_62 (Nat.le_of_ble_eq_true rfl) rfl ?_
  refine s_aloadn (j := 1) dX12_rule_64 rfl ?_
  refine s_iload (j := 0) dX12_rule_65 rfl ?_
  refine s_if_ne (tgt := 74) dX12_rule_67 (by decide) ?_ ?_
  · refine s_aloadn (j := 1) dX12_rule_74 rfl ?_
    refine s_getL (k := 0) cls_13 (by decide) rfl dX12_rule_75 w_1348 rfl (fun x20 => ?_)
    refine s_cSI (rest := [.inr (.inr v0)]) (met_X12_lengthOf l x20) mth_X12_lengthOf rfl dX12_rule_78 w_1538 w_1539 ⟨Nat.le_of_ble_eq_true rfl, Nat.le_of_ble_eq_true rfl⟩ (Nat.le_of_ble_eq_true rfl) rfl (fun x21 => ?_)
    refine s_iconst (v := 4) dX12_rule_81 (by decide) ?_
    refine s_icmp_gt (tgt := 107) dX12_rule_82 (by decide) ?_ ?_
    · exact Sim.sub [1, 2, 3, 4, 5, 6, 7] rfl (sim_X12_rule_b107 l v0 v1 v2 v3 v4 v5 v6 v0)
    · refine s_aloadn (j := 1) dX12_rule_85 rfl ?_
      refine s_getL (k := 0) cls_13 (by decide) rfl dX12_rule_86 w_1348 rfl (fun x22 => ?_)
      refine s_lconst (v := 0) dX12_rule_89 (by decide) ?_
      refine s_lcmp dX12_rule_90 ?_
      refine s_if_ne (tgt := 98) dX12_rule_91 (by decide) ?_ ?_
      · exact Sim.sub [1, 2, 3, 4, 5, 6, 7] rfl (sim_X12_rule_b98 l v0 v1 v2 v3 v4 v5 v6 v0)
      · refine s_iloadn (j := 4) dX12_rule_94 rfl ?_
        refine s_if_eq (tgt := 107) dX12_rule_95 (by decide) ?_ ?_
        · exact Sim.sub [1, 2, 3, 4, 5, 6, 7] rfl (sim_X12_rule_b107 l v0 v1 v2 v3 v4 v5 v6 v0)
        · exact Sim.sub [1, 2, 3, 4, 5, 6, 7] rfl (sim_X12_rule_b98 l v0 v1 v2 v3 v4 v5 v6 v0)
  · refine s_iconst (v := 1) dX12_rule_70 (by decide) ?_
    refine s_goto (tgt := 112) dX12_rule_71 (by decide) ?_
    exact Sim.sub [1, 2, 3, 4, 5, 6, 7] rfl (sim_X12_rule_b112 l v0 v1 v2 v3 v4 v5 v6 v0 1)
set_option maxRecDepth 20000 in
theorem sim_X12_rule_b61 (l : Launch) (v0 : Option Nat) (v1 : Int32) (v2 : Int32) (v3 : Int32) (v4 : Int32) (v5 : Int32) (v6 : Int32) : Sim (M_X12_rule l) (zFin zcI) 61 [(0, .inr (.inr v0)), (1, .inl v1), (2, .inl v2), (3, .inl v3), (4, .inl v4), (5, .inl v5), (6, .inl v6)] [] (p_X12_rule_b61 v0 v1 v2 v3 v4 v5 v6) := by
  unfold p_X12_rule_b61
  refine s_iconst (v := 0) dX12_rule_61 (by decide) ?_
  exact Sim.sub [0, 1, 2, 3, 4, 5, 6] rfl (sim_X12_rule_b62 l v0 v1 v2 v3 v4 v5 v6 0)
set_option maxRecDepth 20000 in
theorem sim_X12_rule_b37 (l : Launch) (v0 : Option Nat) (v1 : Int32) (v2 : Int32) (v3 : Int32) (v4 : Int32) (v5 : Int32) (v6 : Int32) : Sim (M_X12_rule l) (zFin zcI) 37 [(0, .inr (.inr v0)), (1, .inl v1), (2, .inl v2), (3, .inl v3), (4, .inl v4), (5, .inl v5), (6, .inl v6)] [] (p_X12_rule_b37 v0 v1 v2 v3 v4 v5 v6) := by
  unfold p_X12_rule_b37
  refine s_iload (j := 5) dX12_rule_37 rfl ?_
  refine s_iconst (v := (-1)) dX12_rule_39 (by decide) ?_
  refine s_iconst (v := 3) dX12_rule_40 (by decide) ?_
  refine s_cSI (rest := []) (met_X12_in l v5 (-1) 3) mth_X12_in rfl dX12_rule_41 w_1535 w_1536 ⟨Nat.le_of_ble_eq_true rfl, Nat.le_of_ble_eq_true rfl⟩ (Nat.le_of_ble_eq_true rfl) rfl (fun x23 => ?_)
  refine s_if_eq (tgt := 61) dX12_rule_44 (by decide) ?_ ?_
  · exact Sim.sub [0, 1, 2, 3, 4, 5, 6] rfl (sim_X12_rule_b61 l v0 v1 v2 v3 v4 v5 v6)
  · refine s_iload (j := 6) dX12_rule_47 rfl ?_
    refine s_iconst (v := (-1)) dX12_rule_49 (by decide) ?_
    refine s_iconst (v := 1) dX12_rule_50 (by decide) ?_
    refine s_cSI (rest := []) (met_X12_in l v6 (-1) 1) mth_X12_in rfl dX12_rule_51 w_1535 w_1536 ⟨Nat.le_of_ble_eq_true rfl, Nat.le_of_ble_eq_true rfl⟩ (Nat.le_of_ble_eq_true rfl) rfl (fun x24 => ?_)
    refine s_if_eq (tgt := 61) dX12_rule_54 (by decide) ?_ ?_
    · exact Sim.sub [0, 1, 2, 3, 4, 5, 6] rfl (sim_X12_rule_b61 l v0 v1 v2 v3 v4 v5 v6)
    · refine s_iconst (v := 1) dX12_rule_57 (by decide) ?_
      refine s_goto (tgt := 62) dX12_rule_58 (by decide) ?_
      exact Sim.sub [0, 1, 2, 3, 4, 5, 6] rfl (sim_X12_rule_b62 l v0 v1 v2 v3 v4 v5 v6 1)
set_option maxRecDepth 20000 in
theorem sim_X12_rule (l : Launch) (v0 : Option Nat) (v1 : Int32) (v2 : Int32) (v3 : Int32) (v4 : Int32) (v5 : Int32) (v6 : Int32) : Sim (M_X12_rule l) (zFin zcI) 0 [(0, .inr (.inr v0)), (1, .inl v1), (2, .inl v2), (3, .inl v3), (4, .inl v4), (5, .inl v5), (6, .inl v6)] [] (p_X12_rule v0 v1 v2 v3 v4 v5 v6) := by
  unfold p_X12_rule
  refine s_iloadn (j := 1) dX12_rule_0 rfl ?_
  refine s_iconst (v := 0) dX12_rule_1 (by decide) ?_
  refine s_iconst (v := 5) dX12_rule_2 (by decide) ?_
  refine s_cSI (rest := []) (met_X12_in l v1 0 5) mth_X12_in rfl dX12_rule_3 w_1535 w_1536 ⟨Nat.le_of_ble_eq_true rfl, Nat.le_of_ble_eq_true rfl⟩ (Nat.le_of_ble_eq_true rfl) rfl (fun x25 => ?_)
  refine s_if_eq (tgt := 61) dX12_rule_6 (by decide) ?_ ?_
  · exact Sim.sub [0, 1, 2, 3, 4, 5, 6] rfl (sim_X12_rule_b61 l v0 v1 v2 v3 v4 v5 v6)
  · refine s_iloadn (j := 3) dX12_rule_9 rfl ?_
    refine s_iconst (v := 0) dX12_rule_10 (by decide) ?_
    refine s_iconst (v := 2) dX12_rule_11 (by decide) ?_
    refine s_cSI (rest := []) (met_X12_in l v3 0 2) mth_X12_in rfl dX12_rule_12 w_1535 w_1536 ⟨Nat.le_of_ble_eq_true rfl, Nat.le_of_ble_eq_true rfl⟩ (Nat.le_of_ble_eq_true rfl) rfl (fun x26 => ?_)
    refine s_if_eq (tgt := 61) dX12_rule_15 (by decide) ?_ ?_
    · exact Sim.sub [0, 1, 2, 3, 4, 5, 6] rfl (sim_X12_rule_b61 l v0 v1 v2 v3 v4 v5 v6)
    · refine s_iload (j := 4) dX12_rule_18 rfl ?_
      refine s_bipush (v := 32) dX12_rule_20 (by decide) ?_
      refine s_icmp_eq (tgt := 37) dX12_rule_22 (by decide) ?_ ?_
      · exact Sim.sub [0, 1, 2, 3, 4, 5, 6] rfl (sim_X12_rule_b37 l v0 v1 v2 v3 v4 v5 v6)
      · refine s_iload (j := 4) dX12_rule_25 rfl ?_
        refine s_bipush (v := 97) dX12_rule_27 (by decide) ?_
        refine s_bipush (v := 104) dX12_rule_29 (by decide) ?_
        refine s_cSI (rest := []) (met_X12_in l v4 97 104) mth_X12_in rfl dX12_rule_31 w_1535 w_1536 ⟨Nat.le_of_ble_eq_true rfl, Nat.le_of_ble_eq_true rfl⟩ (Nat.le_of_ble_eq_true rfl) rfl (fun x27 => ?_)
        refine s_if_eq (tgt := 61) dX12_rule_34 (by decide) ?_ ?_
        · exact Sim.sub [0, 1, 2, 3, 4, 5, 6] rfl (sim_X12_rule_b61 l v0 v1 v2 v3 v4 v5 v6)
        · exact Sim.sub [0, 1, 2, 3, 4, 5, 6] rfl (sim_X12_rule_b37 l v0 v1 v2 v3 v4 v5 v6)
theorem met_X12_rule (l : Launch) (v0 : Option Nat) (v1 : Int32) (v2 : Int32) (v3 : Int32) (v4 : Int32) (v5 : Int32) (v6 : Int32) : zMet l yX12_rule cX12_rule 8 (some .int) 1 24 [.inr (.inr v0), .inl v1, .inl v2, .inl v3, .inl v4, .inl v5, .inl v6] zcI (p_X12_rule v0 v1 v2 v3 v4 v5 v6) :=
  zMet.of (by decide +kernel) (Nat.le_of_ble_eq_true rfl) rfl (sim_X12_rule l v0 v1 v2 v3 v4 v5 v6)
def p_X12_more_b47 (v0 : Option Nat) (v1 : Int32) (v2 : Int32) (s0 : Option Nat) (s1 : Int32) : ZM Int32 :=
  z_b (z_pI 13 58 s0 s1) fun _ => z_b (z_gI 13 58 v0) fun x1 => if x1 ≤ 0 then (z_b (z_gR 13 15 v0) fun x2 => z_b (z_aI x2 v1) fun x3 => z_b (z_gR 13 15 v0) fun x4 => z_b (z_sI x4 v1 v2) fun _ => z_b (z_pZ 13 34 v0 0) fun _ => z_rt x3)
  else (z_rt 0)
def p_X12_more (v0 : Option Nat) (v1 : Int32) (v2 : Int32) : ZM Int32 :=
  z_b (z_gI 13 7 v0) fun x5 => z_b (p_X12_in v1 0 (x5 - 1)) fun x6 => if ¬ x6 = 0 then (z_b (p_X12_in v2 0 63) fun x7 => if ¬ x7 = 0 then (z_b (z_gR 13 9 v0) fun x8 => z_b (z_aI x8 v1) fun x9 => if ¬ x9 = 0 then (p_X12_more_b47 v0 v1 v2 v0 0)
  else (p_X12_more_b47 v0 v1 v2 v0 3))
  else (p_X12_more_b47 v0 v1 v2 v0 2))
  else (p_X12_more_b47 v0 v1 v2 v0 1)
abbrev M_X12_more (l : Launch) : ZMe := (l, "SpellScribeModel", cX12_more, 4, 1, 22, (some .int), "more", [])
set_option maxRecDepth 20000 in
theorem sim_X12_more_b47 (l : Launch) (v0 : Option Nat) (v1 : Int32) (v2 : Int32) (s0 : Option Nat) (s1 : Int32) : Sim (M_X12_more l) (zFin zcI) 47 [(0, .inr (.inr v0)), (1, .inl v1), (2, .inl v2)] [.inl s1, .inr (.inr s0)] (p_X12_more_b47 v0 v1 v2 s0 s1) := by
  unfold p_X12_more_b47
  refine s_putI (k := 58) cls_13 (by decide) rfl rfl rfl dX12_more_47 w_1406 rfl ?_
  refine s_aloadn (j := 0) dX12_more_50 rfl ?_
  refine s_getI (k := 58) cls_13 (by decide) rfl dX12_more_51 w_1406 rfl (fun x1 => ?_)
  refine s_if_le (tgt := 59) dX12_more_54 (by decide) ?_ ?_
  · refine s_aloadn (j := 0) dX12_more_59 rfl ?_
    refine s_getR (k := 15) cls_13 (by decide) rfl dX12_more_60 w_1363 rfl (fun x2 => ?_)
    refine s_iloadn (j := 1) dX12_more_63 rfl ?_
    refine s_iald dX12_more_64 (fun x3 => ?_)
    refine s_istoren (lv' := [(3, .inl x3), (0, .inr (.inr v0)), (1, .inl v1), (2, .inl v2)]) dX12_more_65 (Nat.le_of_ble_eq_true rfl) rfl ?_
    refine s_aloadn (j := 1) dX12_more_66 rfl ?_
    refine s_getR (k := 15) cls_13 (by decide) rfl dX12_more_67 w_1363 rfl (fun x4 => ?_)
    refine s_iloadn (j := 2) dX12_more_70 rfl ?_
    refine s_iloadn (j := 3) dX12_more_71 rfl ?_
    refine s_iast dX12_more_72 ?_
    refine s_aloadn (j := 1) dX12_more_73 rfl ?_
    refine s_iconst (v := 0) dX12_more_74 (by decide) ?_
    refine s_putZ (k := 34) cls_13 (by decide) rfl rfl rfl dX12_more_75 w_1382 rfl ?_
    refine s_iloadn (j := 0) dX12_more_78 rfl ?_
    exact s_iret dX12_more_79 rfl
  · refine s_iconst (v := 0) dX12_more_57 (by decide) ?_
    exact s_iret dX12_more_58 rfl
set_option maxRecDepth 20000 in
theorem sim_X12_more (l : Launch) (v0 : Option Nat) (v1 : Int32) (v2 : Int32) : Sim (M_X12_more l) (zFin zcI) 0 [(0, .inr (.inr v0)), (1, .inl v1), (2, .inl v2)] [] (p_X12_more v0 v1 v2) := by
  unfold p_X12_more
  refine s_aloadn (j := 0) dX12_more_0 rfl ?_
  refine s_iloadn (j := 1) dX12_more_1 rfl ?_
  refine s_iconst (v := 0) dX12_more_2 (by decide) ?_
  refine s_aloadn (j := 0) dX12_more_3 rfl ?_
  refine s_getI (k := 7) cls_13 (by decide) rfl dX12_more_4 w_1355 rfl (fun x5 => ?_)
  refine s_iconst (v := 1) dX12_more_7 (by decide) ?_
  refine s_isub dX12_more_8 ?_
  refine s_cSI (rest := [.inr (.inr v0)]) (met_X12_in l v1 0 (x5 - 1)) mth_X12_in rfl dX12_more_9 w_1535 w_1536 ⟨Nat.le_of_ble_eq_true rfl, Nat.le_of_ble_eq_true rfl⟩ (Nat.le_of_ble_eq_true rfl) rfl (fun x6 => ?_)
  refine s_if_ne (tgt := 19) dX12_more_12 (by decide) ?_ ?_
  · refine s_iloadn (j := 2) dX12_more_19 rfl ?_
    refine s_iconst (v := 0) dX12_more_20 (by decide) ?_
    refine s_bipush (v := 63) dX12_more_21 (by decide) ?_
    refine s_cSI (rest := [.inr (.inr v0)]) (met_X12_in l v2 0 63) mth_X12_in rfl dX12_more_23 w_1535 w_1536 ⟨Nat.le_of_ble_eq_true rfl, Nat.le_of_ble_eq_true rfl⟩ (Nat.le_of_ble_eq_true rfl) rfl (fun x7 => ?_)
    refine s_if_ne (tgt := 33) dX12_more_26 (by decide) ?_ ?_
    · refine s_aloadn (j := 0) dX12_more_33 rfl ?_
      refine s_getR (k := 9) cls_13 (by decide) rfl dX12_more_34 w_1357 rfl (fun x8 => ?_)
      refine s_iloadn (j := 1) dX12_more_37 rfl ?_
      refine s_iald dX12_more_38 (fun x9 => ?_)
      refine s_if_ne (tgt := 46) dX12_more_39 (by decide) ?_ ?_
      · refine s_iconst (v := 0) dX12_more_46 (by decide) ?_
        exact Sim.sub [0, 1, 2] rfl (sim_X12_more_b47 l v0 v1 v2 v0 0)
      · refine s_iconst (v := 3) dX12_more_42 (by decide) ?_
        refine s_goto (tgt := 47) dX12_more_43 (by decide) ?_
        exact Sim.sub [0, 1, 2] rfl (sim_X12_more_b47 l v0 v1 v2 v0 3)
    · refine s_iconst (v := 2) dX12_more_29 (by decide) ?_
      refine s_goto (tgt := 47) dX12_more_30 (by decide) ?_
      exact Sim.sub [0, 1, 2] rfl (sim_X12_more_b47 l v0 v1 v2 v0 2)
  · refine s_iconst (v := 1) dX12_more_15 (by decide) ?_
    refine s_goto (tgt := 47) dX12_more_16 (by decide) ?_
    exact Sim.sub [0, 1, 2] rfl (sim_X12_more_b47 l v0 v1 v2 v0 1)
theorem met_X12_more (l : Launch) (v0 : Option Nat) (v1 : Int32) (v2 : Int32) : zMet l yX12_more cX12_more 4 (some .int) 1 22 [.inr (.inr v0), .inl v1, .inl v2] zcI (p_X12_more v0 v1 v2) :=
  zMet.of (by decide +kernel) (Nat.le_of_ble_eq_true rfl) rfl (sim_X12_more l v0 v1 v2)
def p_X12_sound_b80 (v0 : Option Nat) (v3 : Int32) (v4 : Int32) (s0 : Int32) : ZM Int32 :=
  z_b (z_gR 13 16 v0) fun x1 => z_b (z_sI x1 ((9 * v3) + v4) 1) fun _ => z_b (z_gR 13 16 v0) fun x2 => z_b (z_sI x2 ((9 * v4) + v3) 1) fun _ => z_rz s0
def p_X12_sound_b33 (v0 : Option Nat) (v1 : Int32) (v2 : Int32) (s0 : Option Nat) (s1 : Int32) : ZM Int32 :=
  z_b (z_pI 13 58 s0 s1) fun _ => z_b (z_gI 13 58 v0) fun x3 => if x3 ≤ 0 then (z_n (((v1 - 97) + 1) : Int32) fun y4 => z_n (((v2 - 97) + 1) : Int32) fun y5 => z_b (z_gR 13 16 v0) fun x6 => z_b (z_aI x6 ((9 * y4) + y5)) fun x7 => if ¬ x7 = 0 then (p_X12_sound_b80 v0 y4 y5 0)
  else (p_X12_sound_b80 v0 y4 y5 1))
  else (z_rz 0)
def p_X12_sound_b28 (v0 : Option Nat) (v1 : Int32) (v2 : Int32) (s0 : Option Nat) : ZM Int32 :=
  p_X12_sound_b33 v0 v1 v2 s0 1
def p_X12_sound (v0 : Option Nat) (v1 : Int32) (v2 : Int32) : ZM Int32 :=
  z_b (p_X12_in v1 97 104) fun x8 => if x8 = 0 then (p_X12_sound_b28 v0 v1 v2 v0)
  else (z_b (p_X12_in v2 97 104) fun x9 => if x9 = 0 then (p_X12_sound_b28 v0 v1 v2 v0)
  else (if ¬ v1 = v2 then (p_X12_sound_b33 v0 v1 v2 v0 0)
  else (p_X12_sound_b28 v0 v1 v2 v0)))
abbrev M_X12_sound (l : Launch) : ZMe := (l, "SpellScribeModel", cX12_sound, 6, 1, 22, (some .boolean), "sound", [])
set_option maxRecDepth 20000 in
theorem sim_X12_sound_b80 (l : Launch) (v0 : Option Nat) (v3 : Int32) (v4 : Int32) (s0 : Int32) : Sim (M_X12_sound l) (zFin zcI) 80 [(0, .inr (.inr v0)), (3, .inl v3), (4, .inl v4)] [.inl s0] (p_X12_sound_b80 v0 v3 v4 s0) := by
  unfold p_X12_sound_b80
  refine s_istore (lv' := [(5, .inl s0), (0, .inr (.inr v0)), (3, .inl v3), (4, .inl v4)]) dX12_sound_80 (Nat.le_of_ble_eq_true rfl) rfl ?_
  refine s_aloadn (j := 1) dX12_sound_82 rfl ?_
  refine s_getR (k := 16) cls_13 (by decide) rfl dX12_sound_83 w_1364 rfl (fun x1 => ?_)
  refine s_bipush (v := 9) dX12_sound_86 (by decide) ?_
  refine s_iloadn (j := 2) dX12_sound_88 rfl ?_
  refine s_imul dX12_sound_89 ?_
  refine s_iload (j := 3) dX12_sound_90 rfl ?_
  refine s_iadd dX12_sound_92 ?_
  refine s_iconst (v := 1) dX12_sound_93 (by decide) ?_
  refine s_iast dX12_sound_94 ?_
  refine s_aloadn (j := 1) dX12_sound_95 rfl ?_
  refine s_getR (k := 16) cls_13 (by decide) rfl dX12_sound_96 w_1364 rfl (fun x2 => ?_)
  refine s_bipush (v := 9) dX12_sound_99 (by decide) ?_
  refine s_iload (j := 3) dX12_sound_101 rfl ?_
  refine s_imul dX12_sound_103 ?_
  refine s_iloadn (j := 2) dX12_sound_104 rfl ?_
  refine s_iadd dX12_sound_105 ?_
  refine s_iconst (v := 1) dX12_sound_106 (by decide) ?_
  refine s_iast dX12_sound_107 ?_
  refine s_iload (j := 0) dX12_sound_108 rfl ?_
  exact s_zret dX12_sound_110 rfl
set_option maxRecDepth 20000 in
theorem sim_X12_sound_b33 (l : Launch) (v0 : Option Nat) (v1 : Int32) (v2 : Int32) (s0 : Option Nat) (s1 : Int32) : Sim (M_X12_sound l) (zFin zcI) 33 [(0, .inr (.inr v0)), (1, .inl v1), (2, .inl v2)] [.inl s1, .inr (.inr s0)] (p_X12_sound_b33 v0 v1 v2 s0 s1) := by
  unfold p_X12_sound_b33
  refine s_putI (k := 58) cls_13 (by decide) rfl rfl rfl dX12_sound_33 w_1406 rfl ?_
  refine s_aloadn (j := 0) dX12_sound_36 rfl ?_
  refine s_getI (k := 58) cls_13 (by decide) rfl dX12_sound_37 w_1406 rfl (fun x3 => ?_)
  refine s_if_le (tgt := 45) dX12_sound_40 (by decide) ?_ ?_
  · refine s_iloadn (j := 1) dX12_sound_45 rfl ?_
    refine s_bipush (v := 97) dX12_sound_46 (by decide) ?_
    refine s_isub dX12_sound_48 ?_
    refine s_iconst (v := 1) dX12_sound_49 (by decide) ?_
    refine s_iadd dX12_sound_50 ?_
    refine s_nI (fun y4 => ?_)
    refine s_istoren (lv' := [(3, .inl y4), (0, .inr (.inr v0)), (1, .inl v1), (2, .inl v2)]) dX12_sound_51 (Nat.le_of_ble_eq_true rfl) rfl ?_
    refine s_iloadn (j := 3) dX12_sound_52 rfl ?_
    refine s_bipush (v := 97) dX12_sound_53 (by decide) ?_
    refine s_isub dX12_sound_55 ?_
    refine s_iconst (v := 1) dX12_sound_56 (by decide) ?_
    refine s_iadd dX12_sound_57 ?_
    refine s_nI (fun y5 => ?_)
    refine s_istore (lv' := [(4, .inl y5), (3, .inl y4), (0, .inr (.inr v0)), (1, .inl v1), (2, .inl v2)]) dX12_sound_58 (Nat.le_of_ble_eq_true rfl) rfl ?_
    refine s_aloadn (j := 2) dX12_sound_60 rfl ?_
    refine s_getR (k := 16) cls_13 (by decide) rfl dX12_sound_61 w_1364 rfl (fun x6 => ?_)
    refine s_bipush (v := 9) dX12_sound_64 (by decide) ?_
    refine s_iloadn (j := 1) dX12_sound_66 rfl ?_
    refine s_imul dX12_sound_67 ?_
    refine s_iload (j := 0) dX12_sound_68 rfl ?_
    refine s_iadd dX12_sound_70 ?_
    refine s_iald dX12_sound_71 (fun x7 => ?_)
    refine s_if_ne (tgt := 79) dX12_sound_72 (by decide) ?_ ?_
    · refine s_iconst (v := 0) dX12_sound_79 (by decide) ?_
      exact Sim.sub [2, 1, 0] rfl (sim_X12_sound_b80 l v0 y4 y5 0)
    · refine s_iconst (v := 1) dX12_sound_75 (by decide) ?_
      refine s_goto (tgt := 80) dX12_sound_76 (by decide) ?_
      exact Sim.sub [2, 1, 0] rfl (sim_X12_sound_b80 l v0 y4 y5 1)
  · refine s_iconst (v := 0) dX12_sound_43 (by decide) ?_
    exact s_zret dX12_sound_44 rfl
set_option maxRecDepth 20000 in
theorem sim_X12_sound_b28 (l : Launch) (v0 : Option Nat) (v1 : Int32) (v2 : Int32) (s0 : Option Nat) : Sim (M_X12_sound l) (zFin zcI) 28 [(0, .inr (.inr v0)), (1, .inl v1), (2, .inl v2)] [.inr (.inr s0)] (p_X12_sound_b28 v0 v1 v2 s0) := by
  unfold p_X12_sound_b28
  refine s_iconst (v := 1) dX12_sound_28 (by decide) ?_
  refine s_goto (tgt := 33) dX12_sound_29 (by decide) ?_
  exact Sim.sub [0, 1, 2] rfl (sim_X12_sound_b33 l v0 v1 v2 s0 1)
set_option maxRecDepth 20000 in
theorem sim_X12_sound (l : Launch) (v0 : Option Nat) (v1 : Int32) (v2 : Int32) : Sim (M_X12_sound l) (zFin zcI) 0 [(0, .inr (.inr v0)), (1, .inl v1), (2, .inl v2)] [] (p_X12_sound v0 v1 v2) := by
  unfold p_X12_sound
  refine s_aloadn (j := 0) dX12_sound_0 rfl ?_
  refine s_iloadn (j := 1) dX12_sound_1 rfl ?_
  refine s_bipush (v := 97) dX12_sound_2 (by decide) ?_
  refine s_bipush (v := 104) dX12_sound_4 (by decide) ?_
  refine s_cSI (rest := [.inr (.inr v0)]) (met_X12_in l v1 97 104) mth_X12_in rfl dX12_sound_6 w_1535 w_1536 ⟨Nat.le_of_ble_eq_true rfl, Nat.le_of_ble_eq_true rfl⟩ (Nat.le_of_ble_eq_true rfl) rfl (fun x8 => ?_)
  refine s_if_eq (tgt := 28) dX12_sound_9 (by decide) ?_ ?_
  · exact Sim.sub [0, 1, 2] rfl (sim_X12_sound_b28 l v0 v1 v2 v0)
  · refine s_iloadn (j := 2) dX12_sound_12 rfl ?_
    refine s_bipush (v := 97) dX12_sound_13 (by decide) ?_
    refine s_bipush (v := 104) dX12_sound_15 (by decide) ?_
    refine s_cSI (rest := [.inr (.inr v0)]) (met_X12_in l v2 97 104) mth_X12_in rfl dX12_sound_17 w_1535 w_1536 ⟨Nat.le_of_ble_eq_true rfl, Nat.le_of_ble_eq_true rfl⟩ (Nat.le_of_ble_eq_true rfl) rfl (fun x9 => ?_)
    refine s_if_eq (tgt := 28) dX12_sound_20 (by decide) ?_ ?_
    · exact Sim.sub [0, 1, 2] rfl (sim_X12_sound_b28 l v0 v1 v2 v0)
    · refine s_iloadn (j := 1) dX12_sound_23 rfl ?_
      refine s_iloadn (j := 2) dX12_sound_24 rfl ?_
      refine s_icmp_ne (tgt := 32) dX12_sound_25 (by decide) ?_ ?_
      · refine s_iconst (v := 0) dX12_sound_32 (by decide) ?_
        exact Sim.sub [0, 1, 2] rfl (sim_X12_sound_b33 l v0 v1 v2 v0 0)
      · exact Sim.sub [0, 1, 2] rfl (sim_X12_sound_b28 l v0 v1 v2 v0)
theorem met_X12_sound (l : Launch) (v0 : Option Nat) (v1 : Int32) (v2 : Int32) : zMet l yX12_sound cX12_sound 6 (some .boolean) 1 22 [.inr (.inr v0), .inl v1, .inl v2] zcI (p_X12_sound v0 v1 v2) :=
  zMet.of (by decide +kernel) (Nat.le_of_ble_eq_true rfl) rfl (sim_X12_sound l v0 v1 v2)
def p_X12_uses_b65 (v0 : Option Nat) (v1 : Int64) (v3 : Int32) (v4 : Int32) (v5 : Int32) : ZM Int64 :=
  z_b (z_gR 13 11 v0) fun x1 => z_b (z_aL x1 v3) fun x2 => z_b (p_X12_lengthOf x2) fun x3 => if (v5 + x3) ≤ 10 then (z_b (z_gR 13 9 v0) fun x4 => z_b (z_aI x4 v3) fun x5 => if ¬ x5 = 1 then (z_b (z_gR 13 11 v0) fun x6 => z_b (z_aL x6 v3) fun x7 => z_b (z_gR 13 10 v0) fun x8 => z_b (z_aI x8 v3) fun x9 => z_b (p_X12_part v1 x9 v4) fun x10 => z_b (p_X12_both x7 x10) fun x11 => z_rt x11)
  else (z_b (z_gR 13 10 v0) fun x12 => z_b (z_aI x12 v3) fun x13 => z_b (z_gR 13 11 v0) fun x14 => z_b (z_aL x14 v3) fun x15 => z_b (p_X12_both (v1 >>> (Int32.toInt64 (4 * x13) &&& 63)) x15) fun x16 => z_rt x16))
  else (z_rt 0)
def p_X12_uses_b38 (v0 : Option Nat) (v1 : Int64) (v3 : Int32) (v4 : Int32) (v5 : Int32) (s0 : Int32) : ZM Int64 :=
  if v5 ≤ 0 then (z_rt 0)
  else (z_b (z_gR 13 12 v0) fun x17 => z_b (z_aI x17 v3) fun x18 => if x18 ≤ 0 then (p_X12_uses_b65 v0 v1 v3 v4 v5)
  else (z_b (z_gR 13 12 v0) fun x19 => z_b (z_aI x19 v3) fun x20 => if ¬ x20 = s0 then (z_rt 0)
  else (p_X12_uses_b65 v0 v1 v3 v4 v5)))
def p_X12_uses (v0 : Option Nat) (v1 : Int64) (v3 : Int32) : ZM Int64 :=
  z_b (p_X12_lengthOf v1) fun x21 => z_b (z_gR 13 10 v0) fun x22 => z_b (z_aI x22 v3) fun x23 => z_n ((x21 - x23) : Int32) fun y24 => z_b (z_gR 13 9 v0) fun x25 => z_b (z_aI x25 v3) fun x26 => if ¬ x26 = 1 then (z_b (p_X12_firstOf v1) fun x27 => p_X12_uses_b38 v0 v1 v3 x21 y24 x27)
  else (z_b (p_X12_lastOf v1) fun x28 => p_X12_uses_b38 v0 v1 v3 x21 y24 x28)
abbrev M_X12_uses (l : Launch) : ZMe := (l, "SpellScribeModel", cX12_uses, 7, 2, 49, (some .long), "uses", [])
set_option maxRecDepth 20000 in
theorem sim_X12_uses_b65 (l : Launch) (v0 : Option Nat) (v1 : Int64) (v3 : Int32) (v4 : Int32) (v5 : Int32) : Sim (M_X12_uses l) (zFin zcL) 65 [(0, .inr (.inr v0)), (1, .inr (.inl v1)), (3, .inl v3), (4, .inl v4), (5, .inl v5)] [] (p_X12_uses_b65 v0 v1 v3 v4 v5) := by
  unfold p_X12_uses_b65
  refine s_iload (j := 4) dX12_uses_65 rfl ?_
  refine s_aloadn (j := 0) dX12_uses_67 rfl ?_
  refine s_getR (k := 11) cls_13 (by decide) rfl dX12_uses_68 w_1359 rfl (fun x1 => ?_)
  refine s_iloadn (j := 2) dX12_uses_71 rfl ?_
  refine s_lald dX12_uses_72 (fun x2 => ?_)
  refine s_cSI (rest := [.inl v5]) (met_X12_lengthOf l x2) mth_X12_lengthOf rfl dX12_uses_73 w_1538 w_1539 ⟨Nat.le_of_ble_eq_true rfl, Nat.le_of_ble_eq_true rfl⟩ (Nat.le_of_ble_eq_true rfl) rfl (fun x3 => ?_)
  refine s_iadd dX12_uses_76 ?_
  refine s_bipush (v := 10) dX12_uses_77 (by decide) ?_
  refine s_icmp_le (tgt := 84) dX12_uses_79 (by decide) ?_ ?_
  · refine s_aloadn (j := 0) dX12_uses_84 rfl ?_
    refine s_getR (k := 9) cls_13 (by decide) rfl dX12_uses_85 w_1357 rfl (fun x4 => ?_)
    refine s_iloadn (j := 2) dX12_uses_88 rfl ?_
    refine s_iald dX12_uses_89 (fun x5 => ?_)
    refine s_iconst (v := 1) dX12_uses_90 (by decide) ?_
    refine s_icmp_ne (tgt := 116) dX12_uses_91 (by decide) ?_ ?_
    · refine s_aloadn (j := 0) dX12_uses_116 rfl ?_
      refine s_getR (k := 11) cls_13 (by decide) rfl dX12_uses_117 w_1359 rfl (fun x6 => ?_)
      refine s_iloadn (j := 2) dX12_uses_120 rfl ?_
      refine s_lald dX12_uses_121 (fun x7 => ?_)
      refine s_lloadn (j := 1) dX12_uses_122 rfl ?_
      refine s_aloadn (j := 0) dX12_uses_123 rfl ?_
      refine s_getR (k := 10) cls_13 (by decide) rfl dX12_uses_124 w_1358 rfl (fun x8 => ?_)
      refine s_iloadn (j := 2) dX12_uses_127 rfl ?_
      refine s_iald dX12_uses_128 (fun x9 => ?_)
      refine s_iload (j := 3) dX12_uses_129 rfl ?_
      refine s_cSL (rest := [.inr (.inl x7)]) (met_X12_part l v1 x9 v4) mth_X12_part rfl dX12_uses_131 w_1625 w_1626 ⟨Nat.le_of_ble_eq_true rfl, Nat.le_of_ble_eq_true rfl⟩ (Nat.le_of_ble_eq_true rfl) rfl (fun x10 => ?_)
      refine s_cSL (rest := []) (met_X12_both l x7 x10) mth_X12_both rfl dX12_uses_134 w_1622 w_1623 ⟨Nat.le_of_ble_eq_true rfl, Nat.le_of_ble_eq_true rfl⟩ (Nat.le_of_ble_eq_true rfl) rfl (fun x11 => ?_)
      exact s_lret dX12_uses_137 rfl
    · refine s_lloadn (j := 1) dX12_uses_94 rfl ?_
      refine s_iconst (v := 4) dX12_uses_95 (by decide) ?_
      refine s_aloadn (j := 0) dX12_uses_96 rfl ?_
      refine s_getR (k := 10) cls_13 (by decide) rfl dX12_uses_97 w_1358 rfl (fun x12 => ?_)
      refine s_iloadn (j := 2) dX12_uses_100 rfl ?_
      refine s_iald dX12_uses_101 (fun x13 => ?_)
      refine s_imul dX12_uses_102 ?_
      refine s_lshr dX12_uses_103 ?_
      refine s_aloadn (j := 0) dX12_uses_104 rfl ?_
      refine s_getR (k := 11) cls_13 (by decide) rfl dX12_uses_105 w_1359 rfl (fun x14 => ?_)
      refine s_iloadn (j := 2) dX12_uses_108 rfl ?_
      refine s_lald dX12_uses_109 (fun x15 => ?_)
      refine s_cSL (rest := []) (met_X12_both l (v1 >>> (Int32.toInt64 (4 * x13) &&& 63)) x15) mth_X12_both rfl dX12_uses_110 w_1622 w_1623 ⟨Nat.le_of_ble_eq_true rfl, Nat.le_of_ble_eq_true rfl⟩ (Nat.le_of_ble_eq_true rfl) rfl (fun x16 => ?_)
      refine s_goto (tgt := 137) dX12_uses_113 (by decide) ?_
      exact s_lret dX12_uses_137 rfl
  · refine s_lconst (v := 0) dX12_uses_82 (by decide) ?_
    exact s_lret dX12_uses_83 rfl
set_option maxRecDepth 20000 in
theorem sim_X12_uses_b38 (l : Launch) (v0 : Option Nat) (v1 : Int64) (v3 : Int32) (v4 : Int32) (v5 : Int32) (s0 : Int32) : Sim (M_X12_uses l) (zFin zcL) 38 [(0, .inr (.inr v0)), (1, .inr (.inl v1)), (3, .inl v3), (4, .inl v4), (5, .inl v5)] [.inl s0] (p_X12_uses_b38 v0 v1 v3 v4 v5 s0) := by
  unfold p_X12_uses_b38
  refine s_istore (lv' := [(6, .inl s0), (0, .inr (.inr v0)), (1, .inr (.inl v1)), (3, .inl v3), (4, .inl v4), (5, .inl v5)]) dX12_uses_38 (Nat.le_of_ble_eq_true rfl) rfl ?_
  refine s_iload (j := 5) dX12_uses_40 rfl ?_
  refine s_if_le (tgt := 82) dX12_uses_42 (by decide) ?_ ?_
  · refine s_lconst (v := 0) dX12_uses_82 (by decide) ?_
    exact s_lret dX12_uses_83 rfl
  · refine s_aloadn (j := 1) dX12_uses_45 rfl ?_
    refine s_getR (k := 12) cls_13 (by decide) rfl dX12_uses_46 w_1360 rfl (fun x17 => ?_)
    refine s_iloadn (j := 3) dX12_uses_49 rfl ?_
    refine s_iald dX12_uses_50 (fun x18 => ?_)
    refine s_if_le (tgt := 65) dX12_uses_51 (by decide) ?_ ?_
    · exact Sim.sub [1, 2, 3, 4, 5] rfl (sim_X12_uses_b65 l v0 v1 v3 v4 v5)
    · refine s_aloadn (j := 1) dX12_uses_54 rfl ?_
      refine s_getR (k := 12) cls_13 (by decide) rfl dX12_uses_55 w_1360 rfl (fun x19 => ?_)
      refine s_iloadn (j := 3) dX12_uses_58 rfl ?_
      refine s_iald dX12_uses_59 (fun x20 => ?_)
      refine s_iload (j := 0) dX12_uses_60 rfl ?_
      refine s_icmp_ne (tgt := 82) dX12_uses_62 (by decide) ?_ ?_
      · refine s_lconst (v := 0) dX12_uses_82 (by decide) ?_
        exact s_lret dX12_uses_83 rfl
      · exact Sim.sub [1, 2, 3, 4, 5] rfl (sim_X12_uses_b65 l v0 v1 v3 v4 v5)
set_option maxRecDepth 20000 in
theorem sim_X12_uses (l : Launch) (v0 : Option Nat) (v1 : Int64) (v3 : Int32) : Sim (M_X12_uses l) (zFin zcL) 0 [(0, .inr (.inr v0)), (1, .inr (.inl v1)), (3, .inl v3)] [] (p_X12_uses v0 v1 v3) := by
  unfold p_X12_uses
  refine s_lloadn (j := 1) dX12_uses_0 rfl ?_
  refine s_cSI (rest := []) (met_X12_lengthOf l v1) mth_X12_lengthOf rfl dX12_uses_1 w_1538 w_1539 ⟨Nat.le_of_ble_eq_true rfl, Nat.le_of_ble_eq_true rfl⟩ (Nat.le_of_ble_eq_true rfl) rfl (fun x21 => ?_)
  refine s_istore (lv' := [(4, .inl x21), (0, .inr (.inr v0)), (1, .inr (.inl v1)), (3, .inl v3)]) dX12_uses_4 (Nat.le_of_ble_eq_true rfl) rfl ?_
  refine s_iload (j := 0) dX12_uses_6 rfl ?_
  refine s_aloadn (j := 1) dX12_uses_8 rfl ?_
  refine s_getR (k := 10) cls_13 (by decide) rfl dX12_uses_9 w_1358 rfl (fun x22 => ?_)
  refine s_iloadn (j := 3) dX12_uses_12 rfl ?_
  refine s_iald dX12_uses_13 (fun x23 => ?_)
  refine s_isub dX12_uses_14 ?_
  refine s_nI (fun y24 => ?_)
  refine s_istore (lv' := [(5, .inl y24), (4, .inl x21), (0, .inr (.inr v0)), (1, .inr (.inl v1)), (3, .inl v3)]) dX12_uses_15 (Nat.le_of_ble_eq_true rfl) rfl ?_
  refine s_aloadn (j := 2) dX12_uses_17 rfl ?_
  refine s_getR (k := 9) cls_13 (by decide) rfl dX12_uses_18 w_1357 rfl (fun x25 => ?_)
  refine s_iloadn (j := 4) dX12_uses_21 rfl ?_
  refine s_iald dX12_uses_22 (fun x26 => ?_)
  refine s_iconst (v := 1) dX12_uses_23 (by decide) ?_
  refine s_icmp_ne (tgt := 34) dX12_uses_24 (by decide) ?_ ?_
  · refine s_lloadn (j := 3) dX12_uses_34 rfl ?_
    refine s_cSI (rest := []) (met_X12_firstOf l v1) mth_X12_firstOf rfl dX12_uses_35 w_1619 w_1620 ⟨Nat.le_of_ble_eq_true rfl, Nat.le_of_ble_eq_true rfl⟩ (Nat.le_of_ble_eq_true rfl) rfl (fun x27 => ?_)
    exact Sim.sub [2, 3, 4, 1, 0] rfl (sim_X12_uses_b38 l v0 v1 v3 x21 y24 x27)
  · refine s_lloadn (j := 3) dX12_uses_27 rfl ?_
    refine s_cSI (rest := []) (met_X12_lastOf l v1) mth_X12_lastOf rfl dX12_uses_28 w_1615 w_1616 ⟨Nat.le_of_ble_eq_true rfl, Nat.le_of_ble_eq_true rfl⟩ (Nat.le_of_ble_eq_true rfl) rfl (fun x28 => ?_)
    refine s_goto (tgt := 38) dX12_uses_31 (by decide) ?_
    exact Sim.sub [2, 3, 4, 1, 0] rfl (sim_X12_uses_b38 l v0 v1 v3 x21 y24 x28)
theorem met_X12_uses (l : Launch) (v0 : Option Nat) (v1 : Int64) (v3 : Int32) : zMet l yX12_uses cX12_uses 7 (some .long) 2 49 [.inr (.inr v0), .inr (.inl v1), .inl v3] zcL (p_X12_uses v0 v1 v3) :=
  zMet.of (by decide +kernel) (Nat.le_of_ble_eq_true rfl) rfl (sim_X12_uses l v0 v1 v3)
def p_X12_slotOf_c16 (r16 : Option Nat → Int64 → Int32 → ZM Int32) (v0 : Option Nat) (v1 : Int64) (v3 : Int32) : ZM Int32 :=
  z_b (z_gR 13 36 v0) fun x1 => z_b (z_aL x1 v3) fun x2 => if (lg_cmp x2 0) = 0 then (z_rt v3)
  else (z_b (z_gR 13 36 v0) fun x3 => z_b (z_aL x3 v3) fun x4 => if (lg_cmp x4 v1) = 0 then (z_rt v3)
  else (z_n (((v3 + 1) &&& 16383) : Int32) fun y5 => r16 v0 v1 y5))
def p_X12_slotOf_l16 : Nat → Option Nat → Int64 → Int32 → ZM Int32
  | 0, _, _, _ => z_fl
  | n + 1, v0, v1, v3 => p_X12_slotOf_c16 (p_X12_slotOf_l16 n) v0 v1 v3
def p_X12_slotOf (v0 : Option Nat) (v1 : Int64) : ZM Int32 :=
  z_n ((Int64.toInt32 (((v1 * 31) + (v1 >>> (Int32.toInt64 17 &&& 63))) &&& 16383)) : Int32) fun y6 => p_X12_slotOf_l16 zFuel v0 v1 y6
abbrev M_X12_slotOf (l : Launch) : ZMe := (l, "SpellScribeModel", cX12_slotOf, 4, 0, 0, (some .int), "slotOf", [])
set_option maxRecDepth 20000 in
theorem sim_X12_slotOf_c16 (l : Launch) (r16 : Option Nat → Int64 → Int32 → ZM Int32) (hr16 : ∀ (v0 : Option Nat) (v1 : Int64) (v3 : Int32), Sim (M_X12_slotOf l) (zFin zcI) 16 [(0, .inr (.inr v0)), (1, .inr (.inl v1)), (3, .inl v3)] [] (r16 v0 v1 v3)) (v0 : Option Nat) (v1 : Int64) (v3 : Int32) : Sim (M_X12_slotOf l) (zFin zcI) 16 [(0, .inr (.inr v0)), (1, .inr (.inl v1)), (3, .inl v3)] [] (p_X12_slotOf_c16 r16 v0 v1 v3) := by
  unfold p_X12_slotOf_c16
  refine s_aloadn (j := 0) dX12_slotOf_16 rfl ?_
  refine s_getR (k := 36) cls_13 (by decide) rfl dX12_slotOf_17 w_1384 rfl (fun x1 => ?_)
  refine s_iloadn (j := 2) dX12_slotOf_20 rfl ?_
  refine s_lald dX12_slotOf_21 (fun x2 => ?_)
  refine s_lconst (v := 0) dX12_slotOf_22 (by decide) ?_
  refine s_lcmp dX12_slotOf_23 ?_
  refine s_if_eq (tgt := 49) dX12_slotOf_24 (by decide) ?_ ?_
  · refine s_iloadn (j := 2) dX12_slotOf_49 rfl ?_
    exact s_iret dX12_slotOf_50 rfl
  · refine s_aloadn (j := 0) dX12_slotOf_27 rfl ?_
    refine s_getR (k := 36) cls_13 (by decide) rfl dX12_slotOf_28 w_1384 rfl (fun x3 => ?_)
    refine s_iloadn (j := 2) dX12_slotOf_31 rfl ?_
    refine s_lald dX12_slotOf_32 (fun x4 => ?_)
    refine s_lloadn (j := 1) dX12_slotOf_33 rfl ?_
    refine s_lcmp dX12_slotOf_34 ?_
    refine s_if_eq (tgt := 49) dX12_slotOf_35 (by decide) ?_ ?_
    · refine s_iloadn (j := 2) dX12_slotOf_49 rfl ?_
      exact s_iret dX12_slotOf_50 rfl
    · refine s_iloadn (j := 2) dX12_slotOf_38 rfl ?_
      refine s_iconst (v := 1) dX12_slotOf_39 (by decide) ?_
      refine s_iadd dX12_slotOf_40 ?_
      refine s_sipush (v := 16383) dX12_slotOf_41 (by decide) ?_
      refine s_iand dX12_slotOf_44 ?_
      refine s_nI (fun y5 => ?_)
      refine s_istoren (lv' := [(3, .inl y5), (0, .inr (.inr v0)), (1, .inr (.inl v1))]) dX12_slotOf_45 (Nat.le_of_ble_eq_true rfl) rfl ?_
      refine s_goto (tgt := 16) dX12_slotOf_46 (by decide) ?_
      exact Sim.sub [1, 2, 0] rfl (hr16 v0 v1 y5)
theorem sim_X12_slotOf_l16 (l : Launch) : ∀ (n : Nat) (v0 : Option Nat) (v1 : Int64) (v3 : Int32), Sim (M_X12_slotOf l) (zFin zcI) 16 [(0, .inr (.inr v0)), (1, .inr (.inl v1)), (3, .inl v3)] [] (p_X12_slotOf_l16 n v0 v1 v3)
  | 0, _, _, _ => s_fl
  | n + 1, v0, v1, v3 => sim_X12_slotOf_c16 l (p_X12_slotOf_l16 n) (sim_X12_slotOf_l16 l n) v0 v1 v3
set_option maxRecDepth 20000 in
theorem sim_X12_slotOf (l : Launch) (v0 : Option Nat) (v1 : Int64) : Sim (M_X12_slotOf l) (zFin zcI) 0 [(0, .inr (.inr v0)), (1, .inr (.inl v1))] [] (p_X12_slotOf v0 v1) := by
  unfold p_X12_slotOf
  refine s_lloadn (j := 1) dX12_slotOf_0 rfl ?_
  refine s_ldc2 (v := 31) dX12_slotOf_1 w_1609 ?_
  refine s_lmul dX12_slotOf_4 ?_
  refine s_lloadn (j := 1) dX12_slotOf_5 rfl ?_
  refine s_bipush (v := 17) dX12_slotOf_6 (by decide) ?_
  refine s_lshr dX12_slotOf_8 ?_
  refine s_ladd dX12_slotOf_9 ?_
  refine s_ldc2 (v := 16383) dX12_slotOf_10 w_1610 ?_
  refine s_land dX12_slotOf_13 ?_
  refine s_l2i dX12_slotOf_14 ?_
  refine s_nI (fun y6 => ?_)
  refine s_istoren (lv' := [(3, .inl y6), (0, .inr (.inr v0)), (1, .inr (.inl v1))]) dX12_slotOf_15 (Nat.le_of_ble_eq_true rfl) rfl ?_
  exact Sim.sub [1, 2, 0] rfl (sim_X12_slotOf_l16 l zFuel v0 v1 y6)
theorem met_X12_slotOf (l : Launch) (v0 : Option Nat) (v1 : Int64) : zMet l yX12_slotOf cX12_slotOf 4 (some .int) 0 0 [.inr (.inr v0), .inr (.inl v1)] zcI (p_X12_slotOf v0 v1) :=
  zMet.of (by decide +kernel) (Nat.le_of_ble_eq_true rfl) rfl (sim_X12_slotOf l v0 v1)
def p_X12_keeps_b118 (s0 : Option Nat) (s1 : Int32) (s2 : Int32) (s3 : Int32) : ZM Unit :=
  z_b (z_sI s0 s1 (s2 ||| s3)) fun _ => z_rt ()
def p_X12_keeps_b96 (v0 : Option Nat) (v5 : Int32) (v6 : Int32) (s0 : Option Nat) (s1 : Int32) (s2 : Int32) (s3 : Int32) : ZM Unit :=
  z_b (z_sI s0 s1 (s2 ||| s3)) fun _ => z_b (z_gR 13 39 v0) fun x1 => z_b (z_aI x1 v6) fun x2 => if ¬ (v5 &&& 3) = 0 then (p_X12_keeps_b118 x1 v6 x2 0)
  else (p_X12_keeps_b118 x1 v6 x2 1)
def p_X12_keeps_b72 (v0 : Option Nat) (v5 : Int32) (v6 : Int32) (v7 : Int32) (s0 : Option Nat) (s1 : Int32) (s2 : Int32) (s3 : Int32) : ZM Unit :=
  z_b (z_sI s0 s1 (s2 ||| s3)) fun _ => z_b (z_gR 13 38 v0) fun x3 => z_b (z_aI x3 v6) fun x4 => if (v5 &&& 6) = 0 then (p_X12_keeps_b96 v0 v5 v6 x3 v6 x4 0)
  else (p_X12_keeps_b96 v0 v5 v6 x3 v6 x4 v7)
def p_X12_keeps_b39 (v0 : Option Nat) (v1 : Int64) (v5 : Int32) (v6 : Int32) (v7 : Int32) (s0 : Option Nat) (s1 : Int32) (s2 : Int32) : ZM Unit :=
  z_b (z_pI 13 35 s0 (s1 + s2)) fun _ => z_b (z_gR 13 36 v0) fun x5 => z_b (z_sL x5 v6 v1) fun _ => z_b (z_gR 13 37 v0) fun x6 => z_b (z_aI x6 v6) fun x7 => if ¬ (v5 &&& 2) = 0 then (p_X12_keeps_b72 v0 v5 v6 v7 x6 v6 x7 0)
  else (p_X12_keeps_b72 v0 v5 v6 v7 x6 v6 x7 v7)
def p_X12_keeps (v0 : Option Nat) (v1 : Int64) (v3 : Int32) (v4 : Int32) (v5 : Int32) : ZM Unit :=
  z_b (z_vr 13 v0 (p_X12_slotOf v0 v1)) fun x8 => z_n (((1 : Int32) <<< (((2 * v3) + v4) &&& 31)) : Int32) fun y9 => z_b (z_gI 13 35 v0) fun x10 => z_b (z_gR 13 36 v0) fun x11 => z_b (z_aL x11 x8) fun x12 => if ¬ (lg_cmp x12 0) = 0 then (p_X12_keeps_b39 v0 v1 v5 x8 y9 v0 x10 0)
  else (p_X12_keeps_b39 v0 v1 v5 x8 y9 v0 x10 1)
abbrev M_X12_keeps (l : Launch) : ZMe := (l, "SpellScribeModel", cX12_keeps, 8, 1, 23, none, "keeps", [])
set_option maxRecDepth 20000 in
theorem sim_X12_keeps_b118 (l : Launch) (s0 : Option Nat) (s1 : Int32) (s2 : Int32) (s3 : Int32) : Sim (M_X12_keeps l) (zFin zcV) 118 [] [.inl s3, .inl s2, .inl s1, .inr (.inr s0)] (p_X12_keeps_b118 s0 s1 s2 s3) := by
  unfold p_X12_keeps_b118
  refine s_ior dX12_keeps_118 ?_
  refine s_iast dX12_keeps_119 ?_
  exact s_vret dX12_keeps_120 rfl
set_option maxRecDepth 20000 in
theorem sim_X12_keeps_b96 (l : Launch) (v0 : Option Nat) (v5 : Int32) (v6 : Int32) (s0 : Option Nat) (s1 : Int32) (s2 : Int32) (s3 : Int32) : Sim (M_X12_keeps l) (zFin zcV) 96 [(0, .inr (.inr v0)), (5, .inl v5), (6, .inl v6)] [.inl s3, .inl s2, .inl s1, .inr (.inr s0)] (p_X12_keeps_b96 v0 v5 v6 s0 s1 s2 s3) := by
  unfold p_X12_keeps_b96
  refine s_ior dX12_keeps_96 ?_
  refine s_iast dX12_keeps_97 ?_
  refine s_aloadn (j := 0) dX12_keeps_98 rfl ?_
  refine s_getR (k := 39) cls_13 (by decide) rfl dX12_keeps_99 w_1387 rfl (fun x1 => ?_)
  refine s_iload (j := 2) dX12_keeps_102 rfl ?_
  refine s_dup2RI dX12_keeps_104 ?_
  refine s_iald dX12_keeps_105 (fun x2 => ?_)
  refine s_iload (j := 1) dX12_keeps_106 rfl ?_
  refine s_iconst (v := 3) dX12_keeps_108 (by decide) ?_
  refine s_iand dX12_keeps_109 ?_
  refine s_if_ne (tgt := 117) dX12_keeps_110 (by decide) ?_ ?_
  · refine s_iconst (v := 0) dX12_keeps_117 (by decide) ?_
    exact Sim.sub [] rfl (sim_X12_keeps_b118 l x1 v6 x2 0)
  · refine s_iconst (v := 1) dX12_keeps_113 (by decide) ?_
    refine s_goto (tgt := 118) dX12_keeps_114 (by decide) ?_
    exact Sim.sub [] rfl (sim_X12_keeps_b118 l x1 v6 x2 1)
set_option maxRecDepth 20000 in
theorem sim_X12_keeps_b72 (l : Launch) (v0 : Option Nat) (v5 : Int32) (v6 : Int32) (v7 : Int32) (s0 : Option Nat) (s1 : Int32) (s2 : Int32) (s3 : Int32) : Sim (M_X12_keeps l) (zFin zcV) 72 [(0, .inr (.inr v0)), (5, .inl v5), (6, .inl v6), (7, .inl v7)] [.inl s3, .inl s2, .inl s1, .inr (.inr s0)] (p_X12_keeps_b72 v0 v5 v6 v7 s0 s1 s2 s3) := by
  unfold p_X12_keeps_b72
  refine s_ior dX12_keeps_72 ?_
  refine s_iast dX12_keeps_73 ?_
  refine s_aloadn (j := 0) dX12_keeps_74 rfl ?_
  refine s_getR (k := 38) cls_13 (by decide) rfl dX12_keeps_75 w_1386 rfl (fun x3 => ?_)
  refine s_iload (j := 2) dX12_keeps_78 rfl ?_
  refine s_dup2RI dX12_keeps_80 ?_
  refine s_iald dX12_keeps_81 (fun x4 => ?_)
  refine s_iload (j := 1) dX12_keeps_82 rfl ?_
  refine s_bipush (v := 6) dX12_keeps_84 (by decide) ?_
  refine s_iand dX12_keeps_86 ?_
  refine s_if_eq (tgt := 95) dX12_keeps_87 (by decide) ?_ ?_
  · refine s_iconst (v := 0) dX12_keeps_95 (by decide) ?_
    exact Sim.sub [0, 1, 2] rfl (sim_X12_keeps_b96 l v0 v5 v6 x3 v6 x4 0)
  · refine s_iload (j := 3) dX12_keeps_90 rfl ?_
    refine s_goto (tgt := 96) dX12_keeps_92 (by decide) ?_
    exact Sim.sub [0, 1, 2] rfl (sim_X12_keeps_b96 l v0 v5 v6 x3 v6 x4 v7)
set_option maxRecDepth 20000 in
theorem sim_X12_keeps_b39 (l : Launch) (v0 : Option Nat) (v1 : Int64) (v5 : Int32) (v6 : Int32) (v7 : Int32) (s0 : Option Nat) (s1 : Int32) (s2 : Int32) : Sim (M_X12_keeps l) (zFin zcV) 39 [(0, .inr (.inr v0)), (1, .inr (.inl v1)), (5, .inl v5), (6, .inl v6), (7, .inl v7)] [.inl s2, .inl s1, .inr (.inr s0)] (p_X12_keeps_b39 v0 v1 v5 v6 v7 s0 s1 s2) := by
  unfold p_X12_keeps_b39
  refine s_iadd dX12_keeps_39 ?_
  refine s_putI (k := 35) cls_13 (by decide) rfl rfl rfl dX12_keeps_40 w_1383 rfl ?_
  refine s_aloadn (j := 0) dX12_keeps_43 rfl ?_
  refine s_getR (k := 36) cls_13 (by decide) rfl dX12_keeps_44 w_1384 rfl (fun x5 => ?_)
  refine s_iload (j := 3) dX12_keeps_47 rfl ?_
  refine s_lloadn (j := 1) dX12_keeps_49 rfl ?_
  refine s_last dX12_keeps_50 ?_
  refine s_aloadn (j := 0) dX12_keeps_51 rfl ?_
  refine s_getR (k := 37) cls_13 (by decide) rfl dX12_keeps_52 w_1385 rfl (fun x6 => ?_)
  refine s_iload (j := 3) dX12_keeps_55 rfl ?_
  refine s_dup2RI dX12_keeps_57 ?_
  refine s_iald dX12_keeps_58 (fun x7 => ?_)
  refine s_iload (j := 2) dX12_keeps_59 rfl ?_
  refine s_iconst (v := 2) dX12_keeps_61 (by decide) ?_
  refine s_iand dX12_keeps_62 ?_
  refine s_if_ne (tgt := 71) dX12_keeps_63 (by decide) ?_ ?_
  · refine s_iconst (v := 0) dX12_keeps_71 (by decide) ?_
    exact Sim.sub [0, 2, 3, 4] rfl (sim_X12_keeps_b72 l v0 v5 v6 v7 x6 v6 x7 0)
  · refine s_iload (j := 4) dX12_keeps_66 rfl ?_
    refine s_goto (tgt := 72) dX12_keeps_68 (by decide) ?_
    exact Sim.sub [0, 2, 3, 4] rfl (sim_X12_keeps_b72 l v0 v5 v6 v7 x6 v6 x7 v7)
set_option maxRecDepth 20000 in
theorem sim_X12_keeps (l : Launch) (v0 : Option Nat) (v1 : Int64) (v3 : Int32) (v4 : Int32) (v5 : Int32) : Sim (M_X12_keeps l) (zFin zcV) 0 [(0, .inr (.inr v0)), (1, .inr (.inl v1)), (3, .inl v3), (4, .inl v4), (5, .inl v5)] [] (p_X12_keeps v0 v1 v3 v4 v5) := by
  unfold p_X12_keeps
  refine s_aloadn (j := 0) dX12_keeps_0 rfl ?_
  refine s_lloadn (j := 1) dX12_keeps_1 rfl ?_
  refine s_cVI (rest := []) (met_X12_slotOf l v0 v1) cls_13 mth_X12_slotOf rfl dX12_keeps_2 w_1605 w_1607 wp_49 ⟨Nat.le_of_ble_eq_true rfl, Nat.le_of_ble_eq_true rfl⟩ (Nat.le_of_ble_eq_true rfl) rfl (fun x8 => ?_)
  refine s_istore (lv' := [(6, .inl x8), (0, .inr (.inr v0)), (1, .inr (.inl v1)), (3, .inl v3), (4, .inl v4), (5, .inl v5)]) dX12_keeps_5 (Nat.le_of_ble_eq_true rfl) rfl ?_
  refine s_iconst (v := 1) dX12_keeps_7 (by decide) ?_
  refine s_iconst (v := 2) dX12_keeps_8 (by decide) ?_
  refine s_iloadn (j := 3) dX12_keeps_9 rfl ?_
  refine s_imul dX12_keeps_10 ?_
  refine s_iload (j := 4) dX12_keeps_11 rfl ?_
  refine s_iadd dX12_keeps_13 ?_
  refine s_ishl dX12_keeps_14 ?_
  refine s_nI (fun y9 => ?_)
  refine s_istore (lv' := [(7, .inl y9), (6, .inl x8), (0, .inr (.inr v0)), (1, .inr (.inl v1)), (3, .inl v3), (4, .inl v4), (5, .inl v5)]) dX12_keeps_15 (Nat.le_of_ble_eq_true rfl) rfl ?_
  refine s_aloadn (j := 2) dX12_keeps_17 rfl ?_
  refine s_dupR dX12_keeps_18 ?_
  refine s_getI (k := 35) cls_13 (by decide) rfl dX12_keeps_19 w_1383 rfl (fun x10 => ?_)
  refine s_aloadn (j := 2) dX12_keeps_22 rfl ?_
  refine s_getR (k := 36) cls_13 (by decide) rfl dX12_keeps_23 w_1384 rfl (fun x11 => ?_)
  refine s_iload (j := 1) dX12_keeps_26 rfl ?_
  refine s_lald dX12_keeps_28 (fun x12 => ?_)
  refine s_lconst (v := 0) dX12_keeps_29 (by decide) ?_
  refine s_lcmp dX12_keeps_30 ?_
  refine s_if_ne (tgt := 38) dX12_keeps_31 (by decide) ?_ ?_
  · refine s_iconst (v := 0) dX12_keeps_38 (by decide) ?_
    exact Sim.sub [2, 3, 6, 1, 0] rfl (sim_X12_keeps_b39 l v0 v1 v5 x8 y9 v0 x10 0)
  · refine s_iconst (v := 1) dX12_keeps_34 (by decide) ?_
    refine s_goto (tgt := 39) dX12_keeps_35 (by decide) ?_
    exact Sim.sub [2, 3, 6, 1, 0] rfl (sim_X12_keeps_b39 l v0 v1 v5 x8 y9 v0 x10 1)
theorem met_X12_keeps (l : Launch) (v0 : Option Nat) (v1 : Int64) (v3 : Int32) (v4 : Int32) (v5 : Int32) : zMet l yX12_keeps cX12_keeps 8 none 1 23 [.inr (.inr v0), .inr (.inl v1), .inl v3, .inl v4, .inl v5] zcV (p_X12_keeps v0 v1 v3 v4 v5) :=
  zMet.of (by decide +kernel) (Nat.le_of_ble_eq_true rfl) rfl (sim_X12_keeps l v0 v1 v3 v4 v5)
def p_X12_begins_b135 (r18 : Option Nat → Int64 → Int32 → Int32 → Int32 → Int32 → ZM Unit) (v0 : Option Nat) (v1 : Int64) (v3 : Int32) (v4 : Int32) (v5 : Int32) (v6 : Int32) : ZM Unit :=
  z_n (v6 + 1 : Int32) fun y1 => r18 v0 v1 v3 v4 v5 y1
def p_X12_begins_b126 (r18 : Option Nat → Int64 → Int32 → Int32 → Int32 → Int32 → ZM Unit) (v0 : Option Nat) (v1 : Int64) (v3 : Int32) (v4 : Int32) (v5 : Int32) (v6 : Int32) (s0 : Option Nat) (s1 : Int64) (s2 : Int32) (s3 : Int32) : ZM Unit :=
  z_b (z_gR 13 6 v0) fun x2 => z_b (z_aI x2 v3) fun x3 => z_b (z_vr 13 s0 (p_X12_keeps s0 s1 s2 s3 x3)) fun _ => p_X12_begins_b135 r18 v0 v1 v3 v4 v5 v6
def p_X12_begins_b103 (r18 : Option Nat → Int64 → Int32 → Int32 → Int32 → Int32 → ZM Unit) (v0 : Option Nat) (v1 : Int64) (v3 : Int32) (v4 : Int32) (v5 : Int32) (v6 : Int32) (s0 : Option Nat) (s1 : Int64) (s2 : Int32) : ZM Unit :=
  z_b (z_gR 13 14 v0) fun x4 => z_b (z_aI x4 v6) fun x5 => if ¬ x5 = (-1) then (z_b (z_gR 13 14 v0) fun x6 => z_b (z_aI x6 v6) fun x7 => p_X12_begins_b126 r18 v0 v1 v3 v4 v5 v6 s0 s1 s2 x7)
  else (p_X12_begins_b126 r18 v0 v1 v3 v4 v5 v6 s0 s1 s2 v5)
def p_X12_begins_b68 (r18 : Option Nat → Int64 → Int32 → Int32 → Int32 → Int32 → ZM Unit) (v0 : Option Nat) (v1 : Int64) (v3 : Int32) (v4 : Int32) (v5 : Int32) (v6 : Int32) (s0 : Int64) : ZM Unit :=
  if (lg_cmp s0 0) ≤ 0 then (p_X12_begins_b135 r18 v0 v1 v3 v4 v5 v6)
  else (z_b (z_gR 13 13 v0) fun x8 => z_b (z_aI x8 v6) fun x9 => if ¬ x9 = (-1) then (z_b (z_gR 13 13 v0) fun x10 => z_b (z_aI x10 v6) fun x11 => p_X12_begins_b103 r18 v0 v1 v3 v4 v5 v6 v0 s0 x11)
  else (p_X12_begins_b103 r18 v0 v1 v3 v4 v5 v6 v0 s0 v4))
def p_X12_begins_b67 (r18 : Option Nat → Int64 → Int32 → Int32 → Int32 → Int32 → ZM Unit) (v0 : Option Nat) (v1 : Int64) (v3 : Int32) (v4 : Int32) (v5 : Int32) (v6 : Int32) : ZM Unit :=
  p_X12_begins_b68 r18 v0 v1 v3 v4 v5 v6 0
def p_X12_begins_c18 (r18 : Option Nat → Int64 → Int32 → Int32 → Int32 → Int32 → ZM Unit) (v0 : Option Nat) (v1 : Int64) (v3 : Int32) (v4 : Int32) (v5 : Int32) (v6 : Int32) : ZM Unit :=
  z_b (z_gI 13 7 v0) fun x12 => if x12 ≤ v6 then (z_rt ())
  else (z_b (z_gR 13 9 v0) fun x13 => z_b (z_aI x13 v6) fun x14 => if ¬ x14 = 0 then (p_X12_begins_b67 r18 v0 v1 v3 v4 v5 v6)
  else (z_b (z_gR 13 3 v0) fun x15 => z_b (z_aI x15 v3) fun x16 => z_b (z_gR 13 8 v0) fun x17 => z_b (z_aI x17 v6) fun x18 => if ¬ ((x16 >>> (x18 &&& 31)) &&& 1) = 1 then (p_X12_begins_b67 r18 v0 v1 v3 v4 v5 v6)
  else (z_b (z_vr 13 v0 (p_X12_uses v0 v1 v6)) fun x19 => p_X12_begins_b68 r18 v0 v1 v3 v4 v5 v6 x19)))
def p_X12_begins_l18 : Nat → Option Nat → Int64 → Int32 → Int32 → Int32 → Int32 → ZM Unit
  | 0, _, _, _, _, _, _ => z_fl
  | n + 1, v0, v1, v3, v4, v5, v6 => p_X12_begins_c18 (p_X12_begins_l18 n) v0 v1 v3 v4 v5 v6
def p_X12_begins (v0 : Option Nat) (v1 : Int64) (v3 : Int32) (v4 : Int32) (v5 : Int32) : ZM Unit :=
  z_b (z_gR 13 6 v0) fun x20 => z_b (z_aI x20 v3) fun x21 => z_b (z_vr 13 v0 (p_X12_keeps v0 v1 v4 v5 x21)) fun _ => p_X12_begins_l18 zFuel v0 v1 v3 v4 v5 0
abbrev M_X12_begins (l : Launch) : ZMe := (l, "SpellScribeModel", cX12_begins, 9, 3, 75, none, "begins", [])
set_option maxRecDepth 20000 in
theorem sim_X12_begins_b135 (l : Launch) (r18 : Option Nat → Int64 → Int32 → Int32 → Int32 → Int32 → ZM Unit) (hr18 : ∀ (v0 : Option Nat) (v1 : Int64) (v3 : Int32) (v4 : Int32) (v5 : Int32) (v6 : Int32), Sim (M_X12_begins l) (zFin zcV) 18 [(0, .inr (.inr v0)), (1, .inr (.inl v1)), (3, .inl v3), (4, .inl v4), (5, .inl v5), (6, .inl v6)] [] (r18 v0 v1 v3 v4 v5 v6)) (v0 : Option Nat) (v1 : Int64) (v3 : Int32) (v4 : Int32) (v5 : Int32) (v6 : Int32) : Sim (M_X12_begins l) (zFin zcV) 135 [(0, .inr (.inr v0)), (1, .inr (.inl v1)), (3, .inl v3), (4, .inl v4), (5, .inl v5), (6, .inl v6)] [] (p_X12_begins_b135 r18 v0 v1 v3 v4 v5 v6) := by
  unfold p_X12_begins_b135
  refine s_n0 (fun y1 hy1 => ?_)
  refine s_iinc (j := 5) (v := y1) (d := 1) (lv' := [(6, .inl y1), (0, .inr (.inr v0)), (1, .inr (.inl v1)), (3, .inl v3), (4, .inl v4), (5, .inl v5)]) dX12_begins_135 rfl (by decide) hy1 (Nat.le_of_ble_eq_true rfl) rfl ?_
  refine s_goto (tgt := 18) dX12_begins_138 (by decide) ?_
  exact Sim.sub [1, 2, 3, 4, 5, 0] rfl (hr18 v0 v1 v3 v4 v5 y1)
set_option maxRecDepth 20000 in
theorem sim_X12_begins_b126 (l : Launch) (r18 : Option Nat → Int64 → Int32 → Int32 → Int32 → Int32 → ZM Unit) (hr18 : ∀ (v0 : Option Nat) (v1 : Int64) (v3 : Int32) (v4 : Int32) (v5 : Int32) (v6 : Int32), Sim (M_X12_begins l) (zFin zcV) 18 [(0, .inr (.inr v0)), (1, .inr (.inl v1)), (3, .inl v3), (4, .inl v4), (5, .inl v5), (6, .inl v6)] [] (r18 v0 v1 v3 v4 v5 v6)) (v0 : Option Nat) (v1 : Int64) (v3 : Int32) (v4 : Int32) (v5 : Int32) (v6 : Int32) (s0 : Option Nat) (s1 : Int64) (s2 : Int32) (s3 : Int32) : Sim (M_X12_begins l) (zFin zcV) 126 [(0, .inr (.inr v0)), (1, .inr (.inl v1)), (3, .inl v3), (4, .inl v4), (5, .inl v5), (6, .inl v6)] [.inl s3, .inl s2, .inr (.inl s1), .inr (.inr s0)] (p_X12_begins_b126 r18 v0 v1 v3 v4 v5 v6 s0 s1 s2 s3) := by
  unfold p_X12_begins_b126
  refine s_aloadn (j := 0) dX12_begins_126 rfl ?_
  refine s_getR (k := 6) cls_13 (by decide) rfl dX12_begins_127 w_1354 rfl (fun x2 => ?_)
  refine s_iloadn (j := 2) dX12_begins_130 rfl ?_
  refine s_iald dX12_begins_131 (fun x3 => ?_)
  refine s_cVV (rest := []) (met_X12_keeps l s0 s1 s2 s3 x3) cls_13 mth_X12_keeps rfl dX12_begins_132 w_1601 w_1603 wp_48 ⟨Nat.le_of_ble_eq_true rfl, Nat.le_of_ble_eq_true rfl⟩ (Nat.le_of_ble_eq_true rfl) rfl ?_
  exact Sim.sub [0, 1, 2, 3, 4, 5] rfl (sim_X12_begins_b135 l r18 hr18 v0 v1 v3 v4 v5 v6)
set_option maxRecDepth 20000 in
theorem sim_X12_begins_b103 (l : Launch) (r18 : Option Nat → Int64 → Int32 → Int32 → Int32 → Int32 → ZM Unit) (hr18 : ∀ (v0 : Option Nat) (v1 : Int64) (v3 : Int32) (v4 : Int32) (v5 : Int32) (v6 : Int32), Sim (M_X12_begins l) (zFin zcV) 18 [(0, .inr (.inr v0)), (1, .inr (.inl v1)), (3, .inl v3), (4, .inl v4), (5, .inl v5), (6, .inl v6)] [] (r18 v0 v1 v3 v4 v5 v6)) (v0 : Option Nat) (v1 : Int64) (v3 : Int32) (v4 : Int32) (v5 : Int32) (v6 : Int32) (s0 : Option Nat) (s1 : Int64) (s2 : Int32) : Sim (M_X12_begins l) (zFin zcV) 103 [(0, .inr (.inr v0)), (1, .inr (.inl v1)), (3, .inl v3), (4, .inl v4), (5, .inl v5), (6, .inl v6)] [.inl s2, .inr (.inl s1), .inr (.inr s0)] (p_X12_begins_b103 r18 v0 v1 v3 v4 v5 v6 s0 s1 s2) := by
  unfold p_X12_begins_b103
  refine s_aloadn (j := 0) dX12_begins_103 rfl ?_
  refine s_getR (k := 14) cls_13 (by decide) rfl dX12_begins_104 w_1362 rfl (fun x4 => ?_)
  refine s_iload (j := 5) dX12_begins_107 rfl ?_
  refine s_iald dX12_begins_109 (fun x5 => ?_)
  refine s_iconst (v := (-1)) dX12_begins_110 (by decide) ?_
  refine s_icmp_ne (tgt := 119) dX12_begins_111 (by decide) ?_ ?_
  · refine s_aloadn (j := 0) dX12_begins_119 rfl ?_
    refine s_getR (k := 14) cls_13 (by decide) rfl dX12_begins_120 w_1362 rfl (fun x6 => ?_)
    refine s_iload (j := 5) dX12_begins_123 rfl ?_
    refine s_iald dX12_begins_125 (fun x7 => ?_)
    exact Sim.sub [0, 1, 2, 3, 4, 5] rfl (sim_X12_begins_b126 l r18 hr18 v0 v1 v3 v4 v5 v6 s0 s1 s2 x7)
  · refine s_iload (j := 4) dX12_begins_114 rfl ?_
    refine s_goto (tgt := 126) dX12_begins_116 (by decide) ?_
    exact Sim.sub [0, 1, 2, 3, 4, 5] rfl (sim_X12_begins_b126 l r18 hr18 v0 v1 v3 v4 v5 v6 s0 s1 s2 v5)
set_option maxRecDepth 20000 in
theorem sim_X12_begins_b68 (l : Launch) (r18 : Option Nat → Int64 → Int32 → Int32 → Int32 → Int32 → ZM Unit) (hr18 : ∀ (v0 : Option Nat) (v1 : Int64) (v3 : Int32) (v4 : Int32) (v5 : Int32) (v6 : Int32), Sim (M_X12_begins l) (zFin zcV) 18 [(0, .inr (.inr v0)), (1, .inr (.inl v1)), (3, .inl v3), (4, .inl v4), (5, .inl v5), (6, .inl v6)] [] (r18 v0 v1 v3 v4 v5 v6)) (v0 : Option Nat) (v1 : Int64) (v3 : Int32) (v4 : Int32) (v5 : Int32) (v6 : Int32) (s0 : Int64) : Sim (M_X12_begins l) (zFin zcV) 68 [(0, .inr (.inr v0)), (1, .inr (.inl v1)), (3, .inl v3), (4, .inl v4), (5, .inl v5), (6, .inl v6)] [.inr (.inl s0)] (p_X12_begins_b68 r18 v0 v1 v3 v4 v5 v6 s0) := by
  unfold p_X12_begins_b68
  refine s_lstore (lv' := [(7, .inr (.inl s0)), (0, .inr (.inr v0)), (1, .inr (.inl v1)), (3, .inl v3), (4, .inl v4), (5, .inl v5), (6, .inl v6)]) dX12_begins_68 (Nat.le_of_ble_eq_true rfl) rfl ?_
  refine s_lload (j := 0) dX12_begins_70 rfl ?_
  refine s_lconst (v := 0) dX12_begins_72 (by decide) ?_
  refine s_lcmp dX12_begins_73 ?_
  refine s_if_le (tgt := 135) dX12_begins_74 (by decide) ?_ ?_
  · exact Sim.sub [1, 2, 3, 4, 5, 6] rfl (sim_X12_begins_b135 l r18 hr18 v0 v1 v3 v4 v5 v6)
  · refine s_aloadn (j := 1) dX12_begins_77 rfl ?_
    refine s_lload (j := 0) dX12_begins_78 rfl ?_
    refine s_aloadn (j := 1) dX12_begins_80 rfl ?_
    refine s_getR (k := 13) cls_13 (by decide) rfl dX12_begins_81 w_1361 rfl (fun x8 => ?_)
    refine s_iload (j := 6) dX12_begins_84 rfl ?_
    refine s_iald dX12_begins_86 (fun x9 => ?_)
    refine s_iconst (v := (-1)) dX12_begins_87 (by decide) ?_
    refine s_icmp_ne (tgt := 96) dX12_begins_88 (by decide) ?_ ?_
    · refine s_aloadn (j := 1) dX12_begins_96 rfl ?_
      refine s_getR (k := 13) cls_13 (by decide) rfl dX12_begins_97 w_1361 rfl (fun x10 => ?_)
      refine s_iload (j := 6) dX12_begins_100 rfl ?_
      refine s_iald dX12_begins_102 (fun x11 => ?_)
      exact Sim.sub [1, 2, 3, 4, 5, 6] rfl (sim_X12_begins_b103 l r18 hr18 v0 v1 v3 v4 v5 v6 v0 s0 x11)
    · refine s_iload (j := 4) dX12_begins_91 rfl ?_
      refine s_goto (tgt := 103) dX12_begins_93 (by decide) ?_
      exact Sim.sub [1, 2, 3, 4, 5, 6] rfl (sim_X12_begins_b103 l r18 hr18 v0 v1 v3 v4 v5 v6 v0 s0 v4)
set_option maxRecDepth 20000 in
theorem sim_X12_begins_b67 (l : Launch) (r18 : Option Nat → Int64 → Int32 → Int32 → Int32 → Int32 → ZM Unit) (hr18 : ∀ (v0 : Option Nat) (v1 : Int64) (v3 : Int32) (v4 : Int32) (v5 : Int32) (v6 : Int32), Sim (M_X12_begins l) (zFin zcV) 18 [(0, .inr (.inr v0)), (1, .inr (.inl v1)), (3, .inl v3), (4, .inl v4), (5, .inl v5), (6, .inl v6)] [] (r18 v0 v1 v3 v4 v5 v6)) (v0 : Option Nat) (v1 : Int64) (v3 : Int32) (v4 : Int32) (v5 : Int32) (v6 : Int32) : Sim (M_X12_begins l) (zFin zcV) 67 [(0, .inr (.inr v0)), (1, .inr (.inl v1)), (3, .inl v3), (4, .inl v4), (5, .inl v5), (6, .inl v6)] [] (p_X12_begins_b67 r18 v0 v1 v3 v4 v5 v6) := by
  unfold p_X12_begins_b67
  refine s_lconst (v := 0) dX12_begins_67 (by decide) ?_
  exact Sim.sub [0, 1, 2, 3, 4, 5] rfl (sim_X12_begins_b68 l r18 hr18 v0 v1 v3 v4 v5 v6 0)
set_option maxRecDepth 20000 in
theorem sim_X12_begins_c18 (l : Launch) (r18 : Option Nat → Int64 → Int32 → Int32 → Int32 → Int32 → ZM Unit) (hr18 : ∀ (v0 : Option Nat) (v1 : Int64) (v3 : Int32) (v4 : Int32) (v5 : Int32) (v6 : Int32), Sim (M_X12_begins l) (zFin zcV) 18 [(0, .inr (.inr v0)), (1, .inr (.inl v1)), (3, .inl v3), (4, .inl v4), (5, .inl v5), (6, .inl v6)] [] (r18 v0 v1 v3 v4 v5 v6)) (v0 : Option Nat) (v1 : Int64) (v3 : Int32) (v4 : Int32) (v5 : Int32) (v6 : Int32) : Sim (M_X12_begins l) (zFin zcV) 18 [(0, .inr (.inr v0)), (1, .inr (.inl v1)), (3, .inl v3), (4, .inl v4), (5, .inl v5), (6, .inl v6)] [] (p_X12_begins_c18 r18 v0 v1 v3 v4 v5 v6) := by
  unfold p_X12_begins_c18
  refine s_iload (j := 5) dX12_begins_18 rfl ?_
  refine s_aloadn (j := 0) dX12_begins_20 rfl ?_
  refine s_getI (k := 7) cls_13 (by decide) rfl dX12_begins_21 w_1355 rfl (fun x12 => ?_)
  refine s_icmp_ge (tgt := 141) dX12_begins_24 (by decide) ?_ ?_
  · exact s_vret dX12_begins_141 rfl
  · refine s_aloadn (j := 0) dX12_begins_27 rfl ?_
    refine s_getR (k := 9) cls_13 (by decide) rfl dX12_begins_28 w_1357 rfl (fun x13 => ?_)
    refine s_iload (j := 5) dX12_begins_31 rfl ?_
    refine s_iald dX12_begins_33 (fun x14 => ?_)
    refine s_if_ne (tgt := 67) dX12_begins_34 (by decide) ?_ ?_
    · exact Sim.sub [0, 1, 2, 3, 4, 5] rfl (sim_X12_begins_b67 l r18 hr18 v0 v1 v3 v4 v5 v6)
    · refine s_aloadn (j := 0) dX12_begins_37 rfl ?_
      refine s_getR (k := 3) cls_13 (by decide) rfl dX12_begins_38 w_1351 rfl (fun x15 => ?_)
      refine s_iloadn (j := 2) dX12_begins_41 rfl ?_
      refine s_iald dX12_begins_42 (fun x16 => ?_)
      refine s_aloadn (j := 0) dX12_begins_43 rfl ?_
      refine s_getR (k := 8) cls_13 (by decide) rfl dX12_begins_44 w_1356 rfl (fun x17 => ?_)
      refine s_iload (j := 5) dX12_begins_47 rfl ?_
      refine s_iald dX12_begins_49 (fun x18 => ?_)
      refine s_ishr dX12_begins_50 ?_
      refine s_iconst (v := 1) dX12_begins_51 (by decide) ?_
      refine s_iand dX12_begins_52 ?_
      refine s_iconst (v := 1) dX12_begins_53 (by decide) ?_
      refine s_icmp_ne (tgt := 67) dX12_begins_54 (by decide) ?_ ?_
      · exact Sim.sub [0, 1, 2, 3, 4, 5] rfl (sim_X12_begins_b67 l r18 hr18 v0 v1 v3 v4 v5 v6)
      · refine s_aloadn (j := 0) dX12_begins_57 rfl ?_
        refine s_lloadn (j := 1) dX12_begins_58 rfl ?_
        refine s_iload (j := 5) dX12_begins_59 rfl ?_
        refine s_cVL (rest := []) (met_X12_uses l v0 v1 v6) cls_13 mth_X12_uses rfl dX12_begins_61 w_1611 w_1613 wp_50 ⟨Nat.le_of_ble_eq_true rfl, Nat.le_of_ble_eq_true rfl⟩ (Nat.le_of_ble_eq_true rfl) rfl (fun x19 => ?_)
        refine s_goto (tgt := 68) dX12_begins_64 (by decide) ?_
        exact Sim.sub [0, 1, 2, 3, 4, 5] rfl (sim_X12_begins_b68 l r18 hr18 v0 v1 v3 v4 v5 v6 x19)
theorem sim_X12_begins_l18 (l : Launch) : ∀ (n : Nat) (v0 : Option Nat) (v1 : Int64) (v3 : Int32) (v4 : Int32) (v5 : Int32) (v6 : Int32), Sim (M_X12_begins l) (zFin zcV) 18 [(0, .inr (.inr v0)), (1, .inr (.inl v1)), (3, .inl v3), (4, .inl v4), (5, .inl v5), (6, .inl v6)] [] (p_X12_begins_l18 n v0 v1 v3 v4 v5 v6)
  | 0, _, _, _, _, _, _ => s_fl
  | n + 1, v0, v1, v3, v4, v5, v6 => sim_X12_begins_c18 l (p_X12_begins_l18 n) (sim_X12_begins_l18 l n) v0 v1 v3 v4 v5 v6
set_option maxRecDepth 20000 in
theorem sim_X12_begins (l : Launch) (v0 : Option Nat) (v1 : Int64) (v3 : Int32) (v4 : Int32) (v5 : Int32) : Sim (M_X12_begins l) (zFin zcV) 0 [(0, .inr (.inr v0)), (1, .inr (.inl v1)), (3, .inl v3), (4, .inl v4), (5, .inl v5)] [] (p_X12_begins v0 v1 v3 v4 v5) := by
  unfold p_X12_begins
  refine s_aloadn (j := 0) dX12_begins_0 rfl ?_
  refine s_lloadn (j := 1) dX12_begins_1 rfl ?_
  refine s_iload (j := 3) dX12_begins_2 rfl ?_
  refine s_iload (j := 4) dX12_begins_4 rfl ?_
  refine s_aloadn (j := 0) dX12_begins_6 rfl ?_
  refine s_getR (k := 6) cls_13 (by decide) rfl dX12_begins_7 w_1354 rfl (fun x20 => ?_)
  refine s_iloadn (j := 2) dX12_begins_10 rfl ?_
  refine s_iald dX12_begins_11 (fun x21 => ?_)
  refine s_cVV (rest := []) (met_X12_keeps l v0 v1 v4 v5 x21) cls_13 mth_X12_keeps rfl dX12_begins_12 w_1601 w_1603 wp_48 ⟨Nat.le_of_ble_eq_true rfl, Nat.le_of_ble_eq_true rfl⟩ (Nat.le_of_ble_eq_true rfl) rfl ?_
  refine s_iconst (v := 0) dX12_begins_15 (by decide) ?_
  refine s_istore (lv' := [(6, .inl 0), (0, .inr (.inr v0)), (1, .inr (.inl v1)), (3, .inl v3), (4, .inl v4), (5, .inl v5)]) dX12_begins_16 (Nat.le_of_ble_eq_true rfl) rfl ?_
  exact Sim.sub [1, 2, 3, 4, 5, 0] rfl (sim_X12_begins_l18 l zFuel v0 v1 v3 v4 v5 0)
theorem met_X12_begins (l : Launch) (v0 : Option Nat) (v1 : Int64) (v3 : Int32) (v4 : Int32) (v5 : Int32) : zMet l yX12_begins cX12_begins 9 none 3 75 [.inr (.inr v0), .inr (.inl v1), .inl v3, .inl v4, .inl v5] zcV (p_X12_begins v0 v1 v3 v4 v5) :=
  zMet.of (by decide +kernel) (Nat.le_of_ble_eq_true rfl) rfl (sim_X12_begins l v0 v1 v3 v4 v5)
def p_X12_endings_b249 (r3 : Option Nat → Int64 → Int32 → Int32 → Int32 → Int32 → Int32 → Int32 → ZM Unit) (v0 : Option Nat) (v1 : Int64) (v3 : Int32) (v4 : Int32) (v5 : Int32) (v6 : Int32) (v7 : Int32) (v8 : Int32) : ZM Unit :=
  z_n (v8 + 1 : Int32) fun y1 => r3 v0 v1 v3 v4 v5 v6 v7 y1
def p_X12_endings_b243 (r3 : Option Nat → Int64 → Int32 → Int32 → Int32 → Int32 → Int32 → Int32 → ZM Unit) (r123 : Option Nat → Int64 → Int32 → Int32 → Int32 → Int32 → Int32 → Int32 → Int64 → Int32 → Int32 → Int32 → ZM Unit) (v0 : Option Nat) (v1 : Int64) (v3 : Int32) (v4 : Int32) (v5 : Int32) (v6 : Int32) (v7 : Int32) (v8 : Int32) (v9 : Int64) (v11 : Int32) (v12 : Int32) (v13 : Int32) : ZM Unit :=
  z_n (v13 + 1 : Int32) fun y2 => r123 v0 v1 v3 v4 v5 v6 v7 v8 v9 v11 v12 y2
def p_X12_endings_b240 (r3 : Option Nat → Int64 → Int32 → Int32 → Int32 → Int32 → Int32 → Int32 → ZM Unit) (r123 : Option Nat → Int64 → Int32 → Int32 → Int32 → Int32 → Int32 → Int32 → Int64 → Int32 → Int32 → Int32 → ZM Unit) (v0 : Option Nat) (v1 : Int64) (v3 : Int32) (v4 : Int32) (v5 : Int32) (v6 : Int32) (v7 : Int32) (v8 : Int32) (v9 : Int64) (v11 : Int32) (v12 : Int32) (v13 : Int32) (s0 : Option Nat) (s1 : Int64) (s2 : Int32) (s3 : Int32) (s4 : Int32) : ZM Unit :=
  z_b (z_vr 13 s0 (p_X12_begins s0 s1 s2 s3 s4)) fun _ => p_X12_endings_b243 r3 r123 v0 v1 v3 v4 v5 v6 v7 v8 v9 v11 v12 v13
def p_X12_endings_b217 (r3 : Option Nat → Int64 → Int32 → Int32 → Int32 → Int32 → Int32 → Int32 → ZM Unit) (r123 : Option Nat → Int64 → Int32 → Int32 → Int32 → Int32 → Int32 → Int32 → Int64 → Int32 → Int32 → Int32 → ZM Unit) (v0 : Option Nat) (v1 : Int64) (v3 : Int32) (v4 : Int32) (v5 : Int32) (v6 : Int32) (v7 : Int32) (v8 : Int32) (v9 : Int64) (v11 : Int32) (v12 : Int32) (v13 : Int32) (s0 : Option Nat) (s1 : Int64) (s2 : Int32) (s3 : Int32) : ZM Unit :=
  z_b (z_gR 13 14 v0) fun x3 => z_b (z_aI x3 v13) fun x4 => if ¬ x4 = (-1) then (z_b (z_gR 13 14 v0) fun x5 => z_b (z_aI x5 v13) fun x6 => p_X12_endings_b240 r3 r123 v0 v1 v3 v4 v5 v6 v7 v8 v9 v11 v12 v13 s0 s1 s2 s3 x6)
  else (p_X12_endings_b240 r3 r123 v0 v1 v3 v4 v5 v6 v7 v8 v9 v11 v12 v13 s0 s1 s2 s3 v12)
def p_X12_endings_b181 (r3 : Option Nat → Int64 → Int32 → Int32 → Int32 → Int32 → Int32 → Int32 → ZM Unit) (r123 : Option Nat → Int64 → Int32 → Int32 → Int32 → Int32 → Int32 → Int32 → Int64 → Int32 → Int32 → Int32 → ZM Unit) (v0 : Option Nat) (v1 : Int64) (v3 : Int32) (v4 : Int32) (v5 : Int32) (v6 : Int32) (v7 : Int32) (v8 : Int32) (v9 : Int64) (v11 : Int32) (v12 : Int32) (v13 : Int32) (s0 : Int64) : ZM Unit :=
  if (lg_cmp s0 0) ≤ 0 then (p_X12_endings_b243 r3 r123 v0 v1 v3 v4 v5 v6 v7 v8 v9 v11 v12 v13)
  else (z_b (z_gR 13 13 v0) fun x7 => z_b (z_aI x7 v13) fun x8 => if ¬ x8 = (-1) then (z_b (z_gR 13 13 v0) fun x9 => z_b (z_aI x9 v13) fun x10 => p_X12_endings_b217 r3 r123 v0 v1 v3 v4 v5 v6 v7 v8 v9 v11 v12 v13 v0 s0 v3 x10)
  else (p_X12_endings_b217 r3 r123 v0 v1 v3 v4 v5 v6 v7 v8 v9 v11 v12 v13 v0 s0 v3 v11))
def p_X12_endings_b180 (r3 : Option Nat → Int64 → Int32 → Int32 → Int32 → Int32 → Int32 → Int32 → ZM Unit) (r123 : Option Nat → Int64 → Int32 → Int32 → Int32 → Int32 → Int32 → Int32 → Int64 → Int32 → Int32 → Int32 → ZM Unit) (v0 : Option Nat) (v1 : Int64) (v3 : Int32) (v4 : Int32) (v5 : Int32) (v6 : Int32) (v7 : Int32) (v8 : Int32) (v9 : Int64) (v11 : Int32) (v12 : Int32) (v13 : Int32) : ZM Unit :=
  p_X12_endings_b181 r3 r123 v0 v1 v3 v4 v5 v6 v7 v8 v9 v11 v12 v13 0
def p_X12_endings_c123 (r3 : Option Nat → Int64 → Int32 → Int32 → Int32 → Int32 → Int32 → Int32 → ZM Unit) (r123 : Option Nat → Int64 → Int32 → Int32 → Int32 → Int32 → Int32 → Int32 → Int64 → Int32 → Int32 → Int32 → ZM Unit) (v0 : Option Nat) (v1 : Int64) (v3 : Int32) (v4 : Int32) (v5 : Int32) (v6 : Int32) (v7 : Int32) (v8 : Int32) (v9 : Int64) (v11 : Int32) (v12 : Int32) (v13 : Int32) : ZM Unit :=
  z_b (z_gI 13 7 v0) fun x11 => if x11 ≤ v13 then (p_X12_endings_b249 r3 v0 v1 v3 v4 v5 v6 v7 v8)
  else (if v7 = 0 then (p_X12_endings_b249 r3 v0 v1 v3 v4 v5 v6 v7 v8)
  else (z_b (z_gR 13 9 v0) fun x12 => z_b (z_aI x12 v13) fun x13 => if ¬ x13 = 1 then (p_X12_endings_b180 r3 r123 v0 v1 v3 v4 v5 v6 v7 v8 v9 v11 v12 v13)
  else (z_b (z_gR 13 15 v0) fun x14 => z_b (z_aI x14 v8) fun x15 => z_b (z_gR 13 8 v0) fun x16 => z_b (z_aI x16 v13) fun x17 => if ¬ ((x15 >>> (x17 &&& 31)) &&& 1) = 1 then (p_X12_endings_b180 r3 r123 v0 v1 v3 v4 v5 v6 v7 v8 v9 v11 v12 v13)
  else (z_b (z_vr 13 v0 (p_X12_uses v0 v9 v13)) fun x18 => p_X12_endings_b181 r3 r123 v0 v1 v3 v4 v5 v6 v7 v8 v9 v11 v12 v13 x18))))
def p_X12_endings_l123 (r3 : Option Nat → Int64 → Int32 → Int32 → Int32 → Int32 → Int32 → Int32 → ZM Unit) : Nat → Option Nat → Int64 → Int32 → Int32 → Int32 → Int32 → Int32 → Int32 → Int64 → Int32 → Int32 → Int32 → ZM Unit
  | 0, _, _, _, _, _, _, _, _, _, _, _, _ => z_fl
  | n + 1, v0, v1, v3, v4, v5, v6, v7, v8, v9, v11, v12, v13 => p_X12_endings_c123 r3 (p_X12_endings_l123 r3 n) v0 v1 v3 v4 v5 v6 v7 v8 v9 v11 v12 v13
def p_X12_endings_b107 (r3 : Option Nat → Int64 → Int32 → Int32 → Int32 → Int32 → Int32 → Int32 → ZM Unit) (v0 : Option Nat) (v1 : Int64) (v3 : Int32) (v4 : Int32) (v5 : Int32) (v6 : Int32) (v7 : Int32) (v8 : Int32) (v9 : Int64) (v11 : Int32) (s0 : Int32) : ZM Unit :=
  z_b (z_vr 13 v0 (p_X12_begins v0 v9 v3 v11 s0)) fun _ => p_X12_endings_l123 r3 zFuel v0 v1 v3 v4 v5 v6 v7 v8 v9 v11 s0 0
def p_X12_endings_b82 (r3 : Option Nat → Int64 → Int32 → Int32 → Int32 → Int32 → Int32 → Int32 → ZM Unit) (v0 : Option Nat) (v1 : Int64) (v3 : Int32) (v4 : Int32) (v5 : Int32) (v6 : Int32) (v7 : Int32) (v8 : Int32) (v9 : Int64) (s0 : Int32) : ZM Unit :=
  z_b (z_gR 13 14 v0) fun x19 => z_b (z_aI x19 v8) fun x20 => if ¬ x20 = (-1) then (z_b (z_gR 13 14 v0) fun x21 => z_b (z_aI x21 v8) fun x22 => p_X12_endings_b107 r3 v0 v1 v3 v4 v5 v6 v7 v8 v9 s0 x22)
  else (p_X12_endings_b107 r3 v0 v1 v3 v4 v5 v6 v7 v8 v9 s0 v6)
def p_X12_endings_b50 (r3 : Option Nat → Int64 → Int32 → Int32 → Int32 → Int32 → Int32 → Int32 → ZM Unit) (v0 : Option Nat) (v1 : Int64) (v3 : Int32) (v4 : Int32) (v5 : Int32) (v6 : Int32) (v7 : Int32) (v8 : Int32) (s0 : Int64) : ZM Unit :=
  if (lg_cmp s0 0) ≤ 0 then (p_X12_endings_b249 r3 v0 v1 v3 v4 v5 v6 v7 v8)
  else (z_b (z_gR 13 13 v0) fun x23 => z_b (z_aI x23 v8) fun x24 => if ¬ x24 = (-1) then (z_b (z_gR 13 13 v0) fun x25 => z_b (z_aI x25 v8) fun x26 => p_X12_endings_b82 r3 v0 v1 v3 v4 v5 v6 v7 v8 s0 x26)
  else (p_X12_endings_b82 r3 v0 v1 v3 v4 v5 v6 v7 v8 s0 v5))
def p_X12_endings_b49 (r3 : Option Nat → Int64 → Int32 → Int32 → Int32 → Int32 → Int32 → Int32 → ZM Unit) (v0 : Option Nat) (v1 : Int64) (v3 : Int32) (v4 : Int32) (v5 : Int32) (v6 : Int32) (v7 : Int32) (v8 : Int32) : ZM Unit :=
  p_X12_endings_b50 r3 v0 v1 v3 v4 v5 v6 v7 v8 0
def p_X12_endings_c3 (r3 : Option Nat → Int64 → Int32 → Int32 → Int32 → Int32 → Int32 → Int32 → ZM Unit) (v0 : Option Nat) (v1 : Int64) (v3 : Int32) (v4 : Int32) (v5 : Int32) (v6 : Int32) (v7 : Int32) (v8 : Int32) : ZM Unit :=
  z_b (z_gI 13 7 v0) fun x27 => if x27 ≤ v8 then (z_rt ())
  else (z_b (z_gR 13 9 v0) fun x28 => z_b (z_aI x28 v8) fun x29 => if ¬ x29 = 1 then (p_X12_endings_b49 r3 v0 v1 v3 v4 v5 v6 v7 v8)
  else (z_b (z_gR 13 8 v0) fun x30 => z_b (z_aI x30 v8) fun x31 => if ¬ ((v4 >>> (x31 &&& 31)) &&& 1) = 1 then (p_X12_endings_b49 r3 v0 v1 v3 v4 v5 v6 v7 v8)
  else (z_b (z_vr 13 v0 (p_X12_uses v0 v1 v8)) fun x32 => p_X12_endings_b50 r3 v0 v1 v3 v4 v5 v6 v7 v8 x32)))
def p_X12_endings_l3 : Nat → Option Nat → Int64 → Int32 → Int32 → Int32 → Int32 → Int32 → Int32 → ZM Unit
  | 0, _, _, _, _, _, _, _, _ => z_fl
  | n + 1, v0, v1, v3, v4, v5, v6, v7, v8 => p_X12_endings_c3 (p_X12_endings_l3 n) v0 v1 v3 v4 v5 v6 v7 v8
def p_X12_endings (v0 : Option Nat) (v1 : Int64) (v3 : Int32) (v4 : Int32) (v5 : Int32) (v6 : Int32) (v7 : Int32) : ZM Unit :=
  p_X12_endings_l3 zFuel v0 v1 v3 v4 v5 v6 v7 0
abbrev M_X12_endings (l : Launch) : ZMe := (l, "SpellScribeModel", cX12_endings, 16, 4, 103, none, "endings", [])
set_option maxRecDepth 20000 in
theorem sim_X12_endings_b249 (l : Launch) (r3 : Option Nat → Int64 → Int32 → Int32 → Int32 → Int32 → Int32 → Int32 → ZM Unit) (hr3 : ∀ (v0 : Option Nat) (v1 : Int64) (v3 : Int32) (v4 : Int32) (v5 : Int32) (v6 : Int32) (v7 : Int32) (v8 : Int32), Sim (M_X12_endings l) (zFin zcV) 3 [(0, .inr (.inr v0)), (1, .inr (.inl v1)), (3, .inl v3), (4, .inl v4), (5, .inl v5), (6, .inl v6), (7, .inl v7), (8, .inl v8)] [] (r3 v0 v1 v3 v4 v5 v6 v7 v8)) (v0 : Option Nat) (v1 : Int64) (v3 : Int32) (v4 : Int32) (v5 : Int32) (v6 : Int32) (v7 : Int32) (v8 : Int32) : Sim (M_X12_endings l) (zFin zcV) 249 [(0, .inr (.inr v0)), (1, .inr (.inl v1)), (3, .inl v3), (4, .inl v4), (5, .inl v5), (6, .inl v6), (7, .inl v7), (8, .inl v8)] [] (p_X12_endings_b249 r3 v0 v1 v3 v4 v5 v6 v7 v8) := by
  unfold p_X12_endings_b249
  refine s_n0 (fun y1 hy1 => ?_)
  refine s_iinc (j := 7) (v := y1) (d := 1) (lv' := [(8, .inl y1), (0, .inr (.inr v0)), (1, .inr (.inl v1)), (3, .inl v3), (4, .inl v4), (5, .inl v5), (6, .inl v6), (7, .inl v7)]) dX12_endings_249 rfl (by decide) hy1 (Nat.le_of_ble_eq_true rfl) rfl ?_
  refine s_goto (tgt := 3) dX12_endings_252 (by decide) ?_
  exact Sim.sub [1, 2, 3, 4, 5, 6, 7, 0] rfl (hr3 v0 v1 v3 v4 v5 v6 v7 y1)
set_option maxRecDepth 20000 in
theorem sim_X12_endings_b243 (l : Launch) (r3 : Option Nat → Int64 → Int32 → Int32 → Int32 → Int32 → Int32 → Int32 → ZM Unit) (r123 : Option Nat → Int64 → Int32 → Int32 → Int32 → Int32 → Int32 → Int32 → Int64 → Int32 → Int32 → Int32 → ZM Unit) (hr3 : ∀ (v0 : Option Nat) (v1 : Int64) (v3 : Int32) (v4 : Int32) (v5 : Int32) (v6 : Int32) (v7 : Int32) (v8 : Int32), Sim (M_X12_endings l) (zFin zcV) 3 [(0, .inr (.inr v0)), (1, .inr (.inl v1)), (3, .inl v3), (4, .inl v4), (5, .inl v5), (6, .inl v6), (7, .inl v7), (8, .inl v8)] [] (r3 v0 v1 v3 v4 v5 v6 v7 v8)) (hr123 : ∀ (v0 : Option Nat) (v1 : Int64) (v3 : Int32) (v4 : Int32) (v5 : Int32) (v6 : Int32) (v7 : Int32) (v8 : Int32) (v9 : Int64) (v11 : Int32) (v12 : Int32) (v13 : Int32), Sim (M_X12_endings l) (zFin zcV) 123 [(0, .inr (.inr v0)), (1, .inr (.inl v1)), (3, .inl v3), (4, .inl v4), (5, .inl v5), (6, .inl v6), (7, .inl v7), (8, .inl v8), (9, .inr (.inl v9)), (11, .inl v11), (12, .inl v12), (13, .inl v13)] [] (r123 v0 v1 v3 v4 v5 v6 v7 v8 v9 v11 v12 v13)) (v0 : Option Nat) (v1 : Int64) (v3 : Int32) (v4 : Int32) (v5 : Int32) (v6 : Int32) (v7 : Int32) (v8 : Int32) (v9 : Int64) (v11 : Int32) (v12 : Int32) (v13 : Int32) : Sim (M_X12_endings l) (zFin zcV) 243 [(0, .inr (.inr v0)), (1, .inr (.inl v1)), (3, .inl v3), (4, .inl v4), (5, .inl v5), (6, .inl v6), (7, .inl v7), (8, .inl v8), (9, .inr (.inl v9)), (11, .inl v11), (12, .inl v12), (13, .inl v13)] [] (p_X12_endings_b243 r3 r123 v0 v1 v3 v4 v5 v6 v7 v8 v9 v11 v12 v13) := by
  unfold p_X12_endings_b243
  refine s_n0 (fun y2 hy2 => ?_)
  refine s_iinc (j := 11) (v := y2) (d := 1) (lv' := [(13, .inl y2), (0, .inr (.inr v0)), (1, .inr (.inl v1)), (3, .inl v3), (4, .inl v4), (5, .inl v5), (6, .inl v6), (7, .inl v7), (8, .inl v8), (9, .inr (.inl v9)), (11, .inl v11), (12, .inl v12)]) dX12_endings_243 rfl (by decide) hy2 (Nat.le_of_ble_eq_true rfl) rfl ?_
  refine s_goto (tgt := 123) dX12_endings_246 (by decide) ?_
  exact Sim.sub [1, 2, 3, 4, 5, 6, 7, 8, 9, 10, 11, 0] rfl (hr123 v0 v1 v3 v4 v5 v6 v7 v8 v9 v11 v12 y2)
set_option maxRecDepth 20000 in
theorem sim_X12_endings_b240 (l : Launch) (r3 : Option Nat → Int64 → Int32 → Int32 → Int32 → Int32 → Int32 → Int32 → ZM Unit) (r123 : Option Nat → Int64 → Int32 → Int32 → Int32 → Int32 → Int32 → Int32 → Int64 → Int32 → Int32 → Int32 → ZM Unit) (hr3 : ∀ (v0 : Option Nat) (v1 : Int64) (v3 : Int32) (v4 : Int32) (v5 : Int32) (v6 : Int32) (v7 : Int32) (v8 : Int32), Sim (M_X12_endings l) (zFin zcV) 3 [(0, .inr (.inr v0)), (1, .inr (.inl v1)), (3, .inl v3), (4, .inl v4), (5, .inl v5), (6, .inl v6), (7, .inl v7), (8, .inl v8)] [] (r3 v0 v1 v3 v4 v5 v6 v7 v8)) (hr123 : ∀ (v0 : Option Nat) (v1 : Int64) (v3 : Int32) (v4 : Int32) (v5 : Int32) (v6 : Int32) (v7 : Int32) (v8 : Int32) (v9 : Int64) (v11 : Int32) (v12 : Int32) (v13 : Int32), Sim (M_X12_endings l) (zFin zcV) 123 [(0, .inr (.inr v0)), (1, .inr (.inl v1)), (3, .inl v3), (4, .inl v4), (5, .inl v5), (6, .inl v6), (7, .inl v7), (8, .inl v8), (9, .inr (.inl v9)), (11, .inl v11), (12, .inl v12), (13, .inl v13)] [] (r123 v0 v1 v3 v4 v5 v6 v7 v8 v9 v11 v12 v13)) (v0 : Option Nat) (v1 : Int64) (v3 : Int32) (v4 : Int32) (v5 : Int32) (v6 : Int32) (v7 : Int32) (v8 : Int32) (v9 : Int64) (v11 : Int32) (v12 : Int32) (v13 : Int32) (s0 : Option Nat) (s1 : Int64) (s2 : Int32) (s3 : Int32) (s4 : Int32) : Sim (M_X12_endings l) (zFin zcV) 240 [(0, .inr (.inr v0)), (1, .inr (.inl v1)), (3, .inl v3), (4, .inl v4), (5, .inl v5), (6, .inl v6), (7, .inl v7), (8, .inl v8), (9, .inr (.inl v9)), (11, .inl v11), (12, .inl v12), (13, .inl v13)] [.inl s4, .inl s3, .inl s2, .inr (.inl s1), .inr (.inr s0)] (p_X12_endings_b240 r3 r123 v0 v1 v3 v4 v5 v6 v7 v8 v9 v11 v12 v13 s0 s1 s2 s3 s4) := by
  unfold p_X12_endings_b240
  refine s_cVV (rest := []) (met_X12_begins l s0 s1 s2 s3 s4) cls_13 mth_X12_begins rfl dX12_endings_240 w_1597 w_1599 wp_47 ⟨Nat.le_of_ble_eq_true rfl, Nat.le_of_ble_eq_true rfl⟩ (Nat.le_of_ble_eq_true rfl) rfl ?_
  exact Sim.sub [0, 1, 2, 3, 4, 5, 6, 7, 8, 9, 10, 11] rfl (sim_X12_endings_b243 l r3 r123 hr3 hr123 v0 v1 v3 v4 v5 v6 v7 v8 v9 v11 v12 v13)
set_option maxRecDepth 20000 in
theorem sim_X12_endings_b217 (l : Launch) (r3 : Option Nat → Int64 → Int32 → Int32 → Int32 → Int32 → Int32 → Int32 → ZM Unit) (r123 : Option Nat → Int64 → Int32 → Int32 → Int32 → Int32 → Int32 → Int32 → Int64 → Int32 → Int32 → Int32 → ZM Unit) (hr3 : ∀ (v0 : Option Nat) (v1 : Int64) (v3 : Int32) (v4 : Int32) (v5 : Int32) (v6 : Int32) (v7 : Int32) (v8 : Int32), Sim (M_X12_endings l) (zFin zcV) 3 [(0, .inr (.inr v0)), (1, .inr (.inl v1)), (3, .inl v3), (4, .inl v4), (5, .inl v5), (6, .inl v6), (7, .inl v7), (8, .inl v8)] [] (r3 v0 v1 v3 v4 v5 v6 v7 v8)) (hr123 : ∀ (v0 : Option Nat) (v1 : Int64) (v3 : Int32) (v4 : Int32) (v5 : Int32) (v6 : Int32) (v7 : Int32) (v8 : Int32) (v9 : Int64) (v11 : Int32) (v12 : Int32) (v13 : Int32), Sim (M_X12_endings l) (zFin zcV) 123 [(0, .inr (.inr v0)), (1, .inr (.inl v1)), (3, .inl v3), (4, .inl v4), (5, .inl v5), (6, .inl v6), (7, .inl v7), (8, .inl v8), (9, .inr (.inl v9)), (11, .inl v11), (12, .inl v12), (13, .inl v13)] [] (r123 v0 v1 v3 v4 v5 v6 v7 v8 v9 v11 v12 v13)) (v0 : Option Nat) (v1 : Int64) (v3 : Int32) (v4 : Int32) (v5 : Int32) (v6 : Int32) (v7 : Int32) (v8 : Int32) (v9 : Int64) (v11 : Int32) (v12 : Int32) (v13 : Int32) (s0 : Option Nat) (s1 : Int64) (s2 : Int32) (s3 : Int32) : Sim (M_X12_endings l) (zFin zcV) 217 [(0, .inr (.inr v0)), (1, .inr (.inl v1)), (3, .inl v3), (4, .inl v4), (5, .inl v5), (6, .inl v6), (7, .inl v7), (8, .inl v8), (9, .inr (.inl v9)), (11, .inl v11), (12, .inl v12), (13, .inl v13)] [.inl s3, .inl s2, .inr (.inl s1), .inr (.inr s0)] (p_X12_endings_b217 r3 r123 v0 v1 v3 v4 v5 v6 v7 v8 v9 v11 v12 v13 s0 s1 s2 s3) := by
  unfold p_X12_endings_b217
  refine s_aloadn (j := 0) dX12_endings_217 rfl ?_
  refine s_getR (k := 14) cls_13 (by decide) rfl dX12_endings_218 w_1362 rfl (fun x3 => ?_)
  refine s_iload (j := 11) dX12_endings_221 rfl ?_
  refine s_iald dX12_endings_223 (fun x4 => ?_)
  refine s_iconst (v := (-1)) dX12_endings_224 (by decide) ?_
  refine s_icmp_ne (tgt := 233) dX12_endings_225 (by decide) ?_ ?_
  · refine s_aloadn (j := 0) dX12_endings_233 rfl ?_
    refine s_getR (k := 14) cls_13 (by decide) rfl dX12_endings_234 w_1362 rfl (fun x5 => ?_)
    refine s_iload (j := 11) dX12_endings_237 rfl ?_
    refine s_iald dX12_endings_239 (fun x6 => ?_)
    exact Sim.sub [0, 1, 2, 3, 4, 5, 6, 7, 8, 9, 10, 11] rfl (sim_X12_endings_b240 l r3 r123 hr3 hr123 v0 v1 v3 v4 v5 v6 v7 v8 v9 v11 v12 v13 s0 s1 s2 s3 x6)
  · refine s_iload (j := 10) dX12_endings_228 rfl ?_
    refine s_goto (tgt := 240) dX12_endings_230 (by decide) ?_
    exact Sim.sub [0, 1, 2, 3, 4, 5, 6, 7, 8, 9, 10, 11] rfl (sim_X12_endings_b240 l r3 r123 hr3 hr123 v0 v1 v3 v4 v5 v6 v7 v8 v9 v11 v12 v13 s0 s1 s2 s3 v12)
set_option maxRecDepth 20000 in
theorem sim_X12_endings_b181 (l : Launch) (r3 : Option Nat → Int64 → Int32 → Int32 → Int32 → Int32 → Int32 → Int32 → ZM Unit) (r123 : Option Nat → Int64 → Int32 → Int32 → Int32 → Int32 → Int32 → Int32 → Int64 → Int32 → Int32 → Int32 → ZM Unit) (hr3 : ∀ (v0 : Option Nat) (v1 : Int64) (v3 : Int32) (v4 : Int32) (v5 : Int32) (v6 : Int32) (v7 : Int32) (v8 : Int32), Sim (M_X12_endings l) (zFin zcV) 3 [(0, .inr (.inr v0)), (1, .inr (.inl v1)), (3, .inl v3), (4, .inl v4), (5, .inl v5), (6, .inl v6), (7, .inl v7), (8, .inl v8)] [] (r3 v0 v1 v3 v4 v5 v6 v7 v8)) (hr123 : ∀ (v0 : Option Nat) (v1 : Int64) (v3 : Int32) (v4 : Int32) (v5 : Int32) (v6 : Int32) (v7 : Int32) (v8 : Int32) (v9 : Int64) (v11 : Int32) (v12 : Int32) (v13 : Int32), Sim (M_X12_endings l) (zFin zcV) 123 [(0, .inr (.inr v0)), (1, .inr (.inl v1)), (3, .inl v3), (4, .inl v4), (5, .inl v5), (6, .inl v6), (7, .inl v7), (8, .inl v8), (9, .inr (.inl v9)), (11, .inl v11), (12, .inl v12), (13, .inl v13)] [] (r123 v0 v1 v3 v4 v5 v6 v7 v8 v9 v11 v12 v13)) (v0 : Option Nat) (v1 : Int64) (v3 : Int32) (v4 : Int32) (v5 : Int32) (v6 : Int32) (v7 : Int32) (v8 : Int32) (v9 : Int64) (v11 : Int32) (v12 : Int32) (v13 : Int32) (s0 : Int64) : Sim (M_X12_endings l) (zFin zcV) 181 [(0, .inr (.inr v0)), (1, .inr (.inl v1)), (3, .inl v3), (4, .inl v4), (5, .inl v5), (6, .inl v6), (7, .inl v7), (8, .inl v8), (9, .inr (.inl v9)), (11, .inl v11), (12, .inl v12), (13, .inl v13)] [.inr (.inl s0)] (p_X12_endings_b181 r3 r123 v0 v1 v3 v4 v5 v6 v7 v8 v9 v11 v12 v13 s0) := by
  unfold p_X12_endings_b181
  refine s_lstore (lv' := [(14, .inr (.inl s0)), (0, .inr (.inr v0)), (1, .inr (.inl v1)), (3, .inl v3), (4, .inl v4), (5, .inl v5), (6, .inl v6), (7, .inl v7), (8, .inl v8), (9, .inr (.inl v9)), (11, .inl v11), (12, .inl v12), (13, .inl v13)]) dX12_endings_181 (Nat.le_of_ble_eq_true rfl) rfl ?_
  refine s_lload (j := 0) dX12_endings_183 rfl ?_
  refine s_lconst (v := 0) dX12_endings_185 (by decide) ?_
  refine s_lcmp dX12_endings_186 ?_
  refine s_if_le (tgt := 243) dX12_endings_187 (by decide) ?_ ?_
  · exact Sim.sub [1, 2, 3, 4, 5, 6, 7, 8, 9, 10, 11, 12] rfl (sim_X12_endings_b243 l r3 r123 hr3 hr123 v0 v1 v3 v4 v5 v6 v7 v8 v9 v11 v12 v13)
  · refine s_aloadn (j := 1) dX12_endings_190 rfl ?_
    refine s_lload (j := 0) dX12_endings_191 rfl ?_
    refine s_iloadn (j := 3) dX12_endings_193 rfl ?_
    refine s_aloadn (j := 1) dX12_endings_194 rfl ?_
    refine s_getR (k := 13) cls_13 (by decide) rfl dX12_endings_195 w_1361 rfl (fun x7 => ?_)
    refine s_iload (j := 12) dX12_endings_198 rfl ?_
    refine s_iald dX12_endings_200 (fun x8 => ?_)
    refine s_iconst (v := (-1)) dX12_endings_201 (by decide) ?_
    refine s_icmp_ne (tgt := 210) dX12_endings_202 (by decide) ?_ ?_
    · refine s_aloadn (j := 1) dX12_endings_210 rfl ?_
      refine s_getR (k := 13) cls_13 (by decide) rfl dX12_endings_211 w_1361 rfl (fun x9 => ?_)
      refine s_iload (j := 12) dX12_endings_214 rfl ?_
      refine s_iald dX12_endings_216 (fun x10 => ?_)
      exact Sim.sub [1, 2, 3, 4, 5, 6, 7, 8, 9, 10, 11, 12] rfl (sim_X12_endings_b217 l r3 r123 hr3 hr123 v0 v1 v3 v4 v5 v6 v7 v8 v9 v11 v12 v13 v0 s0 v3 x10)
    · refine s_iload (j := 10) dX12_endings_205 rfl ?_
      refine s_goto (tgt := 217) dX12_endings_207 (by decide) ?_
      exact Sim.sub [1, 2, 3, 4, 5, 6, 7, 8, 9, 10, 11, 12] rfl (sim_X12_endings_b217 l r3 r123 hr3 hr123 v0 v1 v3 v4 v5 v6 v7 v8 v9 v11 v12 v13 v0 s0 v3 v11)
set_option maxRecDepth 20000 in
theorem sim_X12_endings_b180 (l : Launch) (r3 : Option Nat → Int64 → Int32 → Int32 → Int32 → Int32 → Int32 → Int32 → ZM Unit) (r123 : Option Nat → Int64 → Int32 → Int32 → Int32 → Int32 → Int32 → Int32 → Int64 → Int32 → Int32 → Int32 → ZM Unit) (hr3 : ∀ (v0 : Option Nat) (v1 : Int64) (v3 : Int32) (v4 : Int32) (v5 : Int32) (v6 : Int32) (v7 : Int32) (v8 : Int32), Sim (M_X12_endings l) (zFin zcV) 3 [(0, .inr (.inr v0)), (1, .inr (.inl v1)), (3, .inl v3), (4, .inl v4), (5, .inl v5), (6, .inl v6), (7, .inl v7), (8, .inl v8)] [] (r3 v0 v1 v3 v4 v5 v6 v7 v8)) (hr123 : ∀ (v0 : Option Nat) (v1 : Int64) (v3 : Int32) (v4 : Int32) (v5 : Int32) (v6 : Int32) (v7 : Int32) (v8 : Int32) (v9 : Int64) (v11 : Int32) (v12 : Int32) (v13 : Int32), Sim (M_X12_endings l) (zFin zcV) 123 [(0, .inr (.inr v0)), (1, .inr (.inl v1)), (3, .inl v3), (4, .inl v4), (5, .inl v5), (6, .inl v6), (7, .inl v7), (8, .inl v8), (9, .inr (.inl v9)), (11, .inl v11), (12, .inl v12), (13, .inl v13)] [] (r123 v0 v1 v3 v4 v5 v6 v7 v8 v9 v11 v12 v13)) (v0 : Option Nat) (v1 : Int64) (v3 : Int32) (v4 : Int32) (v5 : Int32) (v6 : Int32) (v7 : Int32) (v8 : Int32) (v9 : Int64) (v11 : Int32) (v12 : Int32) (v13 : Int32) : Sim (M_X12_endings l) (zFin zcV) 180 [(0, .inr (.inr v0)), (1, .inr (.inl v1)), (3, .inl v3), (4, .inl v4), (5, .inl v5), (6, .inl v6), (7, .inl v7), (8, .inl v8), (9, .inr (.inl v9)), (11, .inl v11), (12, .inl v12), (13, .inl v13)] [] (p_X12_endings_b180 r3 r123 v0 v1 v3 v4 v5 v6 v7 v8 v9 v11 v12 v13) := by
  unfold p_X12_endings_b180
  refine s_lconst (v := 0) dX12_endings_180 (by decide) ?_
  exact Sim.sub [0, 1, 2, 3, 4, 5, 6, 7, 8, 9, 10, 11] rfl (sim_X12_endings_b181 l r3 r123 hr3 hr123 v0 v1 v3 v4 v5 v6 v7 v8 v9 v11 v12 v13 0)
set_option maxRecDepth 20000 in
theorem sim_X12_endings_c123 (l : Launch) (r3 : Option Nat → Int64 → Int32 → Int32 → Int32 → Int32 → Int32 → Int32 → ZM Unit) (r123 : Option Nat → Int64 → Int32 → Int32 → Int32 → Int32 → Int32 → Int32 → Int64 → Int32 → Int32 → Int32 → ZM Unit) (hr3 : ∀ (v0 : Option Nat) (v1 : Int64) (v3 : Int32) (v4 : Int32) (v5 : Int32) (v6 : Int32) (v7 : Int32) (v8 : Int32), Sim (M_X12_endings l) (zFin zcV) 3 [(0, .inr (.inr v0)), (1, .inr (.inl v1)), (3, .inl v3), (4, .inl v4), (5, .inl v5), (6, .inl v6), (7, .inl v7), (8, .inl v8)] [] (r3 v0 v1 v3 v4 v5 v6 v7 v8)) (hr123 : ∀ (v0 : Option Nat) (v1 : Int64) (v3 : Int32) (v4 : Int32) (v5 : Int32) (v6 : Int32) (v7 : Int32) (v8 : Int32) (v9 : Int64) (v11 : Int32) (v12 : Int32) (v13 : Int32), Sim (M_X12_endings l) (zFin zcV) 123 [(0, .inr (.inr v0)), (1, .inr (.inl v1)), (3, .inl v3), (4, .inl v4), (5, .inl v5), (6, .inl v6), (7, .inl v7), (8, .inl v8), (9, .inr (.inl v9)), (11, .inl v11), (12, .inl v12), (13, .inl v13)] [] (r123 v0 v1 v3 v4 v5 v6 v7 v8 v9 v11 v12 v13)) (v0 : Option Nat) (v1 : Int64) (v3 : Int32) (v4 : Int32) (v5 : Int32) (v6 : Int32) (v7 : Int32) (v8 : Int32) (v9 : Int64) (v11 : Int32) (v12 : Int32) (v13 : Int32) : Sim (M_X12_endings l) (zFin zcV) 123 [(0, .inr (.inr v0)), (1, .inr (.inl v1)), (3, .inl v3), (4, .inl v4), (5, .inl v5), (6, .inl v6), (7, .inl v7), (8, .inl v8), (9, .inr (.inl v9)), (11, .inl v11), (12, .inl v12), (13, .inl v13)] [] (p_X12_endings_c123 r3 r123 v0 v1 v3 v4 v5 v6 v7 v8 v9 v11 v12 v13) := by
  unfold p_X12_endings_c123
  refine s_iload (j := 11) dX12_endings_123 rfl ?_
  refine s_aloadn (j := 0) dX12_endings_125 rfl ?_
  refine s_getI (k := 7) cls_13 (by decide) rfl dX12_endings_126 w_1355 rfl (fun x11 => ?_)
  refine s_icmp_ge (tgt := 249) dX12_endings_129 (by decide) ?_ ?_
  · exact Sim.sub [0, 1, 2, 3, 4, 5, 6, 7] rfl (sim_X12_endings_b249 l r3 hr3 v0 v1 v3 v4 v5 v6 v7 v8)
  · refine s_iload (j := 6) dX12_endings_132 rfl ?_
    refine s_if_eq (tgt := 249) dX12_endings_134 (by decide) ?_ ?_
    · exact Sim.sub [0, 1, 2, 3, 4, 5, 6, 7] rfl (sim_X12_endings_b249 l r3 hr3 v0 v1 v3 v4 v5 v6 v7 v8)
    · refine s_aloadn (j := 0) dX12_endings_137 rfl ?_
      refine s_getR (k := 9) cls_13 (by decide) rfl dX12_endings_138 w_1357 rfl (fun x12 => ?_)
      refine s_iload (j := 11) dX12_endings_141 rfl ?_
      refine s_iald dX12_endings_143 (fun x13 => ?_)
      refine s_iconst (v := 1) dX12_endings_144 (by decide) ?_
      refine s_icmp_ne (tgt := 180) dX12_endings_145 (by decide) ?_ ?_
      · exact Sim.sub [0, 1, 2, 3, 4, 5, 6, 7, 8, 9, 10, 11] rfl (sim_X12_endings_b180 l r3 r123 hr3 hr123 v0 v1 v3 v4 v5 v6 v7 v8 v9 v11 v12 v13)
      · refine s_aloadn (j := 0) dX12_endings_148 rfl ?_
        refine s_getR (k := 15) cls_13 (by decide) rfl dX12_endings_149 w_1363 rfl (fun x14 => ?_)
        refine s_iload (j := 7) dX12_endings_152 rfl ?_
        refine s_iald dX12_endings_154 (fun x15 => ?_)
        refine s_aloadn (j := 0) dX12_endings_155 rfl ?_
        refine s_getR (k := 8) cls_13 (by decide) rfl dX12_endings_156 w_1356 rfl (fun x16 => ?_)
        refine s_iload (j := 11) dX12_endings_159 rfl ?_
        refine s_iald dX12_endings_161 (fun x17 => ?_)
        refine s_ishr dX12_endings_162 ?_
        refine s_iconst (v := 1) dX12_endings_163 (by decide) ?_
        refine s_iand dX12_endings_164 ?_
        refine s_iconst (v := 1) dX12_endings_165 (by decide) ?_
        refine s_icmp_ne (tgt := 180) dX12_endings_166 (by decide) ?_ ?_
        · exact Sim.sub [0, 1, 2, 3, 4, 5, 6, 7, 8, 9, 10, 11] rfl (sim_X12_endings_b180 l r3 r123 hr3 hr123 v0 v1 v3 v4 v5 v6 v7 v8 v9 v11 v12 v13)
        · refine s_aloadn (j := 0) dX12_endings_169 rfl ?_
          refine s_lload (j := 8) dX12_endings_170 rfl ?_
          refine s_iload (j := 11) dX12_endings_172 rfl ?_
          refine s_cVL (rest := []) (met_X12_uses l v0 v9 v13) cls_13 mth_X12_uses rfl dX12_endings_174 w_1611 w_1613 wp_50 ⟨Nat.le_of_ble_eq_true rfl, Nat.le_of_ble_eq_true rfl⟩ (Nat.le_of_ble_eq_true rfl) rfl (fun x18 => ?_)
          refine s_goto (tgt := 181) dX12_endings_177 (by decide) ?_
          exact Sim.sub [0, 1, 2, 3, 4, 5, 6, 7, 8, 9, 10, 11] rfl (sim_X12_endings_b181 l r3 r123 hr3 hr123 v0 v1 v3 v4 v5 v6 v7 v8 v9 v11 v12 v13 x18)
theorem sim_X12_endings_l123 (l : Launch) (r3 : Option Nat → Int64 → Int32 → Int32 → Int32 → Int32 → Int32 → Int32 → ZM Unit) (hr3 : ∀ (v0 : Option Nat) (v1 : Int64) (v3 : Int32) (v4 : Int32) (v5 : Int32) (v6 : Int32) (v7 : Int32) (v8 : Int32), Sim (M_X12_endings l) (zFin zcV) 3 [(0, .inr (.inr v0)), (1, .inr (.inl v1)), (3, .inl v3), (4, .inl v4), (5, .inl v5), (6, .inl v6), (7, .inl v7), (8, .inl v8)] [] (r3 v0 v1 v3 v4 v5 v6 v7 v8)) : ∀ (n : Nat) (v0 : Option Nat) (v1 : Int64) (v3 : Int32) (v4 : Int32) (v5 : Int32) (v6 : Int32) (v7 : Int32) (v8 : Int32) (v9 : Int64) (v11 : Int32) (v12 : Int32) (v13 : Int32), Sim (M_X12_endings l) (zFin zcV) 123 [(0, .inr (.inr v0)), (1, .inr (.inl v1)), (3, .inl v3), (4, .inl v4), (5, .inl v5), (6, .inl v6), (7, .inl v7), (8, .inl v8), (9, .inr (.inl v9)), (11, .inl v11), (12, .inl v12), (13, .inl v13)] [] (p_X12_endings_l123 r3 n v0 v1 v3 v4 v5 v6 v7 v8 v9 v11 v12 v13)
  | 0, _, _, _, _, _, _, _, _, _, _, _, _ => s_fl
  | n + 1, v0, v1, v3, v4, v5, v6, v7, v8, v9, v11, v12, v13 => sim_X12_endings_c123 l r3 (p_X12_endings_l123 r3 n) hr3 (sim_X12_endings_l123 l r3 hr3 n) v0 v1 v3 v4 v5 v6 v7 v8 v9 v11 v12 v13
set_option maxRecDepth 20000 in
theorem sim_X12_endings_b107 (l : Launch) (r3 : Option Nat → Int64 → Int32 → Int32 → Int32 → Int32 → Int32 → Int32 → ZM Unit) (hr3 : ∀ (v0 : Option Nat) (v1 : Int64) (v3 : Int32) (v4 : Int32) (v5 : Int32) (v6 : Int32) (v7 : Int32) (v8 : Int32), Sim (M_X12_endings l) (zFin zcV) 3 [(0, .inr (.inr v0)), (1, .inr (.inl v1)), (3, .inl v3), (4, .inl v4), (5, .inl v5), (6, .inl v6), (7, .inl v7), (8, .inl v8)] [] (r3 v0 v1 v3 v4 v5 v6 v7 v8)) (v0 : Option Nat) (v1 : Int64) (v3 : Int32) (v4 : Int32) (v5 : Int32) (v6 : Int32) (v7 : Int32) (v8 : Int32) (v9 : Int64) (v11 : Int32) (s0 : Int32) : Sim (M_X12_endings l) (zFin zcV) 107 [(0, .inr (.inr v0)), (1, .inr (.inl v1)), (3, .inl v3), (4, .inl v4), (5, .inl v5), (6, .inl v6), (7, .inl v7), (8, .inl v8), (9, .inr (.inl v9)), (11, .inl v11)] [.inl s0] (p_X12_endings_b107 r3 v0 v1 v3 v4 v5 v6 v7 v8 v9 v11 s0) := by
  unfold p_X12_endings_b107
  refine s_istore (lv' := [(12, .inl s0), (0, .inr (.inr v0)), (1, .inr (.inl v1)), (3, .inl v3), (4, .inl v4), (5, .inl v5), (6, .inl v6), (7, .inl v7), (8, .inl v8), (9, .inr (.inl v9)), (11, .inl v11)]) dX12_endings_107 (Nat.le_of_ble_eq_true rfl) rfl ?_
  refine s_aloadn (j := 1) dX12_endings_109 rfl ?_
  refine s_lload (j := 9) dX12_endings_110 rfl ?_
  refine s_iloadn (j := 3) dX12_endings_112 rfl ?_
  refine s_iload (j := 10) dX12_endings_113 rfl ?_
  refine s_iload (j := 0) dX12_endings_115 rfl ?_
  refine s_cVV (rest := []) (met_X12_begins l v0 v9 v3 v11 s0) cls_13 mth_X12_begins rfl dX12_endings_117 w_1597 w_1599 wp_47 ⟨Nat.le_of_ble_eq_true rfl, Nat.le_of_ble_eq_true rfl⟩ (Nat.le_of_ble_eq_true rfl) rfl ?_
  refine s_iconst (v := 0) dX12_endings_120 (by decide) ?_
  refine s_istore (lv' := [(13, .inl 0), (12, .inl s0), (0, .inr (.inr v0)), (1, .inr (.inl v1)), (3, .inl v3), (4, .inl v4), (5, .inl v5), (6, .inl v6), (7, .inl v7), (8, .inl v8), (9, .inr (.inl v9)), (11, .inl v11)]) dX12_endings_121 (Nat.le_of_ble_eq_true rfl) rfl ?_
  exact Sim.sub [2, 3, 4, 5, 6, 7, 8, 9, 10, 11, 1, 0] rfl (sim_X12_endings_l123 l r3 hr3 zFuel v0 v1 v3 v4 v5 v6 v7 v8 v9 v11 s0 0)
set_option maxRecDepth 20000 in
theorem sim_X12_endings_b82 (l : Launch) (r3 : Option Nat → Int64 → Int32 → Int32 → Int32 → Int32 → Int32 → Int32 → ZM Unit) (hr3 : ∀ (v0 : Option Nat) (v1 : Int64) (v3 : Int32) (v4 : Int32) (v5 : Int32) (v6 : Int32) (v7 : Int32) (v8 : Int32), Sim (M_X12_endings l) (zFin zcV) 3 [(0, .inr (.inr v0)), (1, .inr (.inl v1)), (3, .inl v3), (4, .inl v4), (5, .inl v5), (6, .inl v6), (7, .inl v7), (8, .inl v8)] [] (r3 v0 v1 v3 v4 v5 v6 v7 v8)) (v0 : Option Nat) (v1 : Int64) (v3 : Int32) (v4 : Int32) (v5 : Int32) (v6 : Int32) (v7 : Int32) (v8 : Int32) (v9 : Int64) (s0 : Int32) : Sim (M_X12_endings l) (zFin zcV) 82 [(0, .inr (.inr v0)), (1, .inr (.inl v1)), (3, .inl v3), (4, .inl v4), (5, .inl v5), (6, .inl v6), (7, .inl v7), (8, .inl v8), (9, .inr (.inl v9))] [.inl s0] (p_X12_endings_b82 r3 v0 v1 v3 v4 v5 v6 v7 v8 v9 s0) := by
  unfold p_X12_endings_b82
  refine s_istore (lv' := [(11, .inl s0), (0, .inr (.inr v0)), (1, .inr (.inl v1)), (3, .inl v3), (4, .inl v4), (5, .inl v5), (6, .inl v6), (7, .inl v7), (8, .inl v8), (9, .inr (.inl v9))]) dX12_endings_82 (Nat.le_of_ble_eq_true rfl) rfl ?_
  refine s_aloadn (j := 1) dX12_endings_84 rfl ?_
  refine s_getR (k := 14) cls_13 (by decide) rfl dX12_endings_85 w_1362 rfl (fun x19 => ?_)
  refine s_iload (j := 8) dX12_endings_88 rfl ?_
  refine s_iald dX12_endings_90 (fun x20 => ?_)
  refine s_iconst (v := (-1)) dX12_endings_91 (by decide) ?_
  refine s_icmp_ne (tgt := 100) dX12_endings_92 (by decide) ?_ ?_
  · refine s_aloadn (j := 1) dX12_endings_100 rfl ?_
    refine s_getR (k := 14) cls_13 (by decide) rfl dX12_endings_101 w_1362 rfl (fun x21 => ?_)
    refine s_iload (j := 8) dX12_endings_104 rfl ?_
    refine s_iald dX12_endings_106 (fun x22 => ?_)
    exact Sim.sub [1, 2, 3, 4, 5, 6, 7, 8, 9, 0] rfl (sim_X12_endings_b107 l r3 hr3 v0 v1 v3 v4 v5 v6 v7 v8 v9 s0 x22)
  · refine s_iload (j := 6) dX12_endings_95 rfl ?_
    refine s_goto (tgt := 107) dX12_endings_97 (by decide) ?_
    exact Sim.sub [1, 2, 3, 4, 5, 6, 7, 8, 9, 0] rfl (sim_X12_endings_b107 l r3 hr3 v0 v1 v3 v4 v5 v6 v7 v8 v9 s0 v6)
set_option maxRecDepth 20000 in
theorem sim_X12_endings_b50 (l : Launch) (r3 : Option Nat → Int64 → Int32 → Int32 → Int32 → Int32 → Int32 → Int32 → ZM Unit) (hr3 : ∀ (v0 : Option Nat) (v1 : Int64) (v3 : Int32) (v4 : Int32) (v5 : Int32) (v6 : Int32) (v7 : Int32) (v8 : Int32), Sim (M_X12_endings l) (zFin zcV) 3 [(0, .inr (.inr v0)), (1, .inr (.inl v1)), (3, .inl v3), (4, .inl v4), (5, .inl v5), (6, .inl v6), (7, .inl v7), (8, .inl v8)] [] (r3 v0 v1 v3 v4 v5 v6 v7 v8)) (v0 : Option Nat) (v1 : Int64) (v3 : Int32) (v4 : Int32) (v5 : Int32) (v6 : Int32) (v7 : Int32) (v8 : Int32) (s0 : Int64) : Sim (M_X12_endings l) (zFin zcV) 50 [(0, .inr (.inr v0)), (1, .inr (.inl v1)), (3, .inl v3), (4, .inl v4), (5, .inl v5), (6, .inl v6), (7, .inl v7), (8, .inl v8)] [.inr (.inl s0)] (p_X12_endings_b50 r3 v0 v1 v3 v4 v5 v6 v7 v8 s0) := by
  unfold p_X12_endings_b50
  refine s_lstore (lv' := [(9, .inr (.inl s0)), (0, .inr (.inr v0)), (1, .inr (.inl v1)), (3, .inl v3), (4, .inl v4), (5, .inl v5), (6, .inl v6), (7, .inl v7), (8, .inl v8)]) dX12_endings_50 (Nat.le_of_ble_eq_true rfl) rfl ?_
  refine s_lload (j := 0) dX12_endings_52 rfl ?_
  refine s_lconst (v := 0) dX12_endings_54 (by decide) ?_
  refine s_lcmp dX12_endings_55 ?_
  refine s_if_le (tgt := 249) dX12_endings_56 (by decide) ?_ ?_
  · exact Sim.sub [1, 2, 3, 4, 5, 6, 7, 8] rfl (sim_X12_endings_b249 l r3 hr3 v0 v1 v3 v4 v5 v6 v7 v8)
  · refine s_aloadn (j := 1) dX12_endings_59 rfl ?_
    refine s_getR (k := 13) cls_13 (by decide) rfl dX12_endings_60 w_1361 rfl (fun x23 => ?_)
    refine s_iload (j := 8) dX12_endings_63 rfl ?_
    refine s_iald dX12_endings_65 (fun x24 => ?_)
    refine s_iconst (v := (-1)) dX12_endings_66 (by decide) ?_
    refine s_icmp_ne (tgt := 75) dX12_endings_67 (by decide) ?_ ?_
    · refine s_aloadn (j := 1) dX12_endings_75 rfl ?_
      refine s_getR (k := 13) cls_13 (by decide) rfl dX12_endings_76 w_1361 rfl (fun x25 => ?_)
      refine s_iload (j := 8) dX12_endings_79 rfl ?_
      refine s_iald dX12_endings_81 (fun x26 => ?_)
      exact Sim.sub [1, 2, 3, 4, 5, 6, 7, 8, 0] rfl (sim_X12_endings_b82 l r3 hr3 v0 v1 v3 v4 v5 v6 v7 v8 s0 x26)
    · refine s_iload (j := 5) dX12_endings_70 rfl ?_
      refine s_goto (tgt := 82) dX12_endings_72 (by decide) ?_
      exact Sim.sub [1, 2, 3, 4, 5, 6, 7, 8, 0] rfl (sim_X12_endings_b82 l r3 hr3 v0 v1 v3 v4 v5 v6 v7 v8 s0 v5)
set_option maxRecDepth 20000 in
theorem sim_X12_endings_b49 (l : Launch) (r3 : Option Nat → Int64 → Int32 → Int32 → Int32 → Int32 → Int32 → Int32 → ZM Unit) (hr3 : ∀ (v0 : Option Nat) (v1 : Int64) (v3 : Int32) (v4 : Int32) (v5 : Int32) (v6 : Int32) (v7 : Int32) (v8 : Int32), Sim (M_X12_endings l) (zFin zcV) 3 [(0, .inr (.inr v0)), (1, .inr (.inl v1)), (3, .inl v3), (4, .inl v4), (5, .inl v5), (6, .inl v6), (7, .inl v7), (8, .inl v8)] [] (r3 v0 v1 v3 v4 v5 v6 v7 v8)) (v0 : Option Nat) (v1 : Int64) (v3 : Int32) (v4 : Int32) (v5 : Int32) (v6 : Int32) (v7 : Int32) (v8 : Int32) : Sim (M_X12_endings l) (zFin zcV) 49 [(0, .inr (.inr v0)), (1, .inr (.inl v1)), (3, .inl v3), (4, .inl v4), (5, .inl v5), (6, .inl v6), (7, .inl v7), (8, .inl v8)] [] (p_X12_endings_b49 r3 v0 v1 v3 v4 v5 v6 v7 v8) := by
  unfold p_X12_endings_b49
  refine s_lconst (v := 0) dX12_endings_49 (by decide) ?_
  exact Sim.sub [0, 1, 2, 3, 4, 5, 6, 7] rfl (sim_X12_endings_b50 l r3 hr3 v0 v1 v3 v4 v5 v6 v7 v8 0)
set_option maxRecDepth 20000 in
theorem sim_X12_endings_c3 (l : Launch) (r3 : Option Nat → Int64 → Int32 → Int32 → Int32 → Int32 → Int32 → Int32 → ZM Unit) (hr3 : ∀ (v0 : Option Nat) (v1 : Int64) (v3 : Int32) (v4 : Int32) (v5 : Int32) (v6 : Int32) (v7 : Int32) (v8 : Int32), Sim (M_X12_endings l) (zFin zcV) 3 [(0, .inr (.inr v0)), (1, .inr (.inl v1)), (3, .inl v3), (4, .inl v4), (5, .inl v5), (6, .inl v6), (7, .inl v7), (8, .inl v8)] [] (r3 v0 v1 v3 v4 v5 v6 v7 v8)) (v0 : Option Nat) (v1 : Int64) (v3 : Int32) (v4 : Int32) (v5 : Int32) (v6 : Int32) (v7 : Int32) (v8 : Int32) : Sim (M_X12_endings l) (zFin zcV) 3 [(0, .inr (.inr v0)), (1, .inr (.inl v1)), (3, .inl v3), (4, .inl v4), (5, .inl v5), (6, .inl v6), (7, .inl v7), (8, .inl v8)] [] (p_X12_endings_c3 r3 v0 v1 v3 v4 v5 v6 v7 v8) := by
  unfold p_X12_endings_c3
  refine s_iload (j := 7) dX12_endings_3 rfl ?_
  refine s_aloadn (j := 0) dX12_endings_5 rfl ?_
  refine s_getI (k := 7) cls_13 (by decide) rfl dX12_endings_6 w_1355 rfl (fun x27 => ?_)
  refine s_icmp_ge (tgt := 255) dX12_endings_9 (by decide) ?_ ?_
  · exact s_vret dX12_endings_255 rfl
  · refine s_aloadn (j := 0) dX12_endings_12 rfl ?_
    refine s_getR (k := 9) cls_13 (by decide) rfl dX12_endings_13 w_1357 rfl (fun x28 => ?_)
    refine s_iload (j := 7) dX12_endings_16 rfl ?_
    refine s_iald dX12_endings_18 (fun x29 => ?_)
    refine s_iconst (v := 1) dX12_endings_19 (by decide) ?_
    refine s_icmp_ne (tgt := 49) dX12_endings_20 (by decide) ?_ ?_
    · exact Sim.sub [0, 1, 2, 3, 4, 5, 6, 7] rfl (sim_X12_endings_b49 l r3 hr3 v0 v1 v3 v4 v5 v6 v7 v8)
    · refine s_iload (j := 3) dX12_endings_23 rfl ?_
      refine s_aloadn (j := 0) dX12_endings_25 rfl ?_
      refine s_getR (k := 8) cls_13 (by decide) rfl dX12_endings_26 w_1356 rfl (fun x30 => ?_)
      refine s_iload (j := 7) dX12_endings_29 rfl ?_
      refine s_iald dX12_endings_31 (fun x31 => ?_)
      refine s_ishr dX12_endings_32 ?_
      refine s_iconst (v := 1) dX12_endings_33 (by decide) ?_
      refine s_iand dX12_endings_34 ?_
      refine s_iconst (v := 1) dX12_endings_35 (by decide) ?_
      refine s_icmp_ne (tgt := 49) dX12_endings_36 (by decide) ?_ ?_
      · exact Sim.sub [0, 1, 2, 3, 4, 5, 6, 7] rfl (sim_X12_endings_b49 l r3 hr3 v0 v1 v3 v4 v5 v6 v7 v8)
      · refine s_aloadn (j := 0) dX12_endings_39 rfl ?_
        refine s_lloadn (j := 1) dX12_endings_40 rfl ?_
        refine s_iload (j := 7) dX12_endings_41 rfl ?_
        refine s_cVL (rest := []) (met_X12_uses l v0 v1 v8) cls_13 mth_X12_uses rfl dX12_endings_43 w_1611 w_1613 wp_50 ⟨Nat.le_of_ble_eq_true rfl, Nat.le_of_ble_eq_true rfl⟩ (Nat.le_of_ble_eq_true rfl) rfl (fun x32 => ?_)
        refine s_goto (tgt := 50) dX12_endings_46 (by decide) ?_
        exact Sim.sub [0, 1, 2, 3, 4, 5, 6, 7] rfl (sim_X12_endings_b50 l r3 hr3 v0 v1 v3 v4 v5 v6 v7 v8 x32)
theorem sim_X12_endings_l3 (l : Launch) : ∀ (n : Nat) (v0 : Option Nat) (v1 : Int64) (v3 : Int32) (v4 : Int32) (v5 : Int32) (v6 : Int32) (v7 : Int32) (v8 : Int32), Sim (M_X12_endings l) (zFin zcV) 3 [(0, .inr (.inr v0)), (1, .inr (.inl v1)), (3, .inl v3), (4, .inl v4), (5, .inl v5), (6, .inl v6), (7, .inl v7), (8, .inl v8)] [] (p_X12_endings_l3 n v0 v1 v3 v4 v5 v6 v7 v8)
  | 0, _, _, _, _, _, _, _, _ => s_fl
  | n + 1, v0, v1, v3, v4, v5, v6, v7, v8 => sim_X12_endings_c3 l (p_X12_endings_l3 n) (sim_X12_endings_l3 l n) v0 v1 v3 v4 v5 v6 v7 v8
set_option maxRecDepth 20000 in
theorem sim_X12_endings (l : Launch) (v0 : Option Nat) (v1 : Int64) (v3 : Int32) (v4 : Int32) (v5 : Int32) (v6 : Int32) (v7 : Int32) : Sim (M_X12_endings l) (zFin zcV) 0 [(0, .inr (.inr v0)), (1, .inr (.inl v1)), (3, .inl v3), (4, .inl v4), (5, .inl v5), (6, .inl v6), (7, .inl v7)] [] (p_X12_endings v0 v1 v3 v4 v5 v6 v7) := by
  unfold p_X12_endings
  refine s_iconst (v := 0) dX12_endings_0 (by decide) ?_
  refine s_istore (lv' := [(8, .inl 0), (0, .inr (.inr v0)), (1, .inr (.inl v1)), (3, .inl v3), (4, .inl v4), (5, .inl v5), (6, .inl v6), (7, .inl v7)]) dX12_endings_1 (Nat.le_of_ble_eq_true rfl) rfl ?_
  exact Sim.sub [1, 2, 3, 4, 5, 6, 7, 0] rfl (sim_X12_endings_l3 l zFuel v0 v1 v3 v4 v5 v6 v7 0)
theorem met_X12_endings (l : Launch) (v0 : Option Nat) (v1 : Int64) (v3 : Int32) (v4 : Int32) (v5 : Int32) (v6 : Int32) (v7 : Int32) : zMet l yX12_endings cX12_endings 16 none 4 103 [.inr (.inr v0), .inr (.inl v1), .inl v3, .inl v4, .inl v5, .inl v6, .inl v7] zcV (p_X12_endings v0 v1 v3 v4 v5 v6 v7) :=
  zMet.of (by decide +kernel) (Nat.le_of_ble_eq_true rfl) rfl (sim_X12_endings l v0 v1 v3 v4 v5 v6 v7)
def p_X12_makes_b125 (v0 : Option Nat) : ZM Unit :=
  z_b (z_pZ 13 34 v0 1) fun _ => z_rt ()
def p_X12_makes_c58 (r58 : Option Nat → Int32 → ZM Unit) (v0 : Option Nat) (v1 : Int32) : ZM Unit :=
  z_b (z_gI 13 1 v0) fun x1 => if x1 ≤ v1 then (p_X12_makes_b125 v0)
  else (z_b (z_gR 13 2 v0) fun x2 => z_b (z_aL x2 v1) fun x3 => z_b (z_gR 13 4 v0) fun x4 => z_b (z_aI x4 v1) fun x5 => z_b (z_gR 13 5 v0) fun x6 => z_b (z_aI x6 v1) fun x7 => z_b (z_vr 13 v0 (p_X12_begins v0 x3 v1 x5 x7)) fun _ => z_b (z_gR 13 2 v0) fun x8 => z_b (z_aL x8 v1) fun x9 => z_b (z_gR 13 3 v0) fun x10 => z_b (z_aI x10 v1) fun x11 => z_b (z_gR 13 4 v0) fun x12 => z_b (z_aI x12 v1) fun x13 => z_b (z_gR 13 5 v0) fun x14 => z_b (z_aI x14 v1) fun x15 => z_b (z_vr 13 v0 (p_X12_endings v0 x9 v1 x11 x13 x15 1)) fun _ => z_n (v1 + 1 : Int32) fun y16 => r58 v0 y16)
def p_X12_makes_l58 : Nat → Option Nat → Int32 → ZM Unit
  | 0, _, _ => z_fl
  | n + 1, v0, v1 => p_X12_makes_c58 (p_X12_makes_l58 n) v0 v1
def p_X12_makes_b51 (v0 : Option Nat) : ZM Unit :=
  z_b (z_pI 13 35 v0 0) fun _ => p_X12_makes_l58 zFuel v0 0
def p_X12_makes_c10 (r10 : Option Nat → Int32 → ZM Unit) (v0 : Option Nat) (v1 : Int32) : ZM Unit :=
  if 16384 ≤ v1 then (p_X12_makes_b51 v0)
  else (z_b (z_gR 13 36 v0) fun x17 => z_b (z_sL x17 v1 0) fun _ => z_b (z_gR 13 37 v0) fun x18 => z_b (z_sI x18 v1 0) fun _ => z_b (z_gR 13 38 v0) fun x19 => z_b (z_sI x19 v1 0) fun _ => z_b (z_gR 13 39 v0) fun x20 => z_b (z_sI x20 v1 0) fun _ => z_n (v1 + 1 : Int32) fun y21 => r10 v0 y21)
def p_X12_makes_l10 : Nat → Option Nat → Int32 → ZM Unit
  | 0, _, _ => z_fl
  | n + 1, v0, v1 => p_X12_makes_c10 (p_X12_makes_l10 n) v0 v1
def p_X12_makes (v0 : Option Nat) : ZM Unit :=
  z_b (z_gI 13 34 v0) fun x22 => if x22 = 0 then (p_X12_makes_l10 zFuel v0 0)
  else (z_rt ())
abbrev M_X12_makes (l : Launch) : ZMe := (l, "SpellScribeModel", cX12_makes, 2, 5, 138, none, "makes", [])
set_option maxRecDepth 20000 in
theorem sim_X12_makes_b125 (l : Launch) (v0 : Option Nat) : Sim (M_X12_makes l) (zFin zcV) 125 [(0, .inr (.inr v0))] [] (p_X12_makes_b125 v0) := by
  unfold p_X12_makes_b125
  refine s_aloadn (j := 0) dX12_makes_125 rfl ?_
  refine s_iconst (v := 1) dX12_makes_126 (by decide) ?_
  refine s_putZ (k := 34) cls_13 (by decide) rfl rfl rfl dX12_makes_127 w_1382 rfl ?_
  exact s_vret dX12_makes_130 rfl
set_option maxRecDepth 20000 in
theorem sim_X12_makes_c58 (l : Launch) (r58 : Option Nat → Int32 → ZM Unit) (hr58 : ∀ (v0 : Option Nat) (v1 : Int32), Sim (M_X12_makes l) (zFin zcV) 58 [(0, .inr (.inr v0)), (1, .inl v1)] [] (r58 v0 v1)) (v0 : Option Nat) (v1 : Int32) : Sim (M_X12_makes l) (zFin zcV) 58 [(0, .inr (.inr v0)), (1, .inl v1)] [] (p_X12_makes_c58 r58 v0 v1) := by
  unfold p_X12_makes_c58
  refine s_iloadn (j := 1) dX12_makes_58 rfl ?_
  refine s_aloadn (j := 0) dX12_makes_59 rfl ?_
  refine s_getI (k := 1) cls_13 (by decide) rfl dX12_makes_60 w_1349 rfl (fun x1 => ?_)
  refine s_icmp_ge (tgt := 125) dX12_makes_63 (by decide) ?_ ?_
  · exact Sim.sub [0] rfl (sim_X12_makes_b125 l v0)
  · refine s_aloadn (j := 0) dX12_makes_66 rfl ?_
    refine s_aloadn (j := 0) dX12_makes_67 rfl ?_
    refine s_getR (k := 2) cls_13 (by decide) rfl dX12_makes_68 w_1350 rfl (fun x2 => ?_)
    refine s_iloadn (j := 1) dX12_makes_71 rfl ?_
    refine s_lald dX12_makes_72 (fun x3 => ?_)
    refine s_iloadn (j := 1) dX12_makes_73 rfl ?_
    refine s_aloadn (j := 0) dX12_makes_74 rfl ?_
    refine s_getR (k := 4) cls_13 (by decide) rfl dX12_makes_75 w_1352 rfl (fun x4 => ?_)
    refine s_iloadn (j := 1) dX12_makes_78 rfl ?_
    refine s_iald dX12_makes_79 (fun x5 => ?_)
    refine s_aloadn (j := 0) dX12_makes_80 rfl ?_
    refine s_getR (k := 5) cls_13 (by decide) rfl dX12_makes_81 w_1353 rfl (fun x6 => ?_)
    refine s_iloadn (j := 1) dX12_makes_84 rfl ?_
    refine s_iald dX12_makes_85 (fun x7 => ?_)
    refine s_cVV (rest := []) (met_X12_begins l v0 x3 v1 x5 x7) cls_13 mth_X12_begins rfl dX12_makes_86 w_1597 w_1599 wp_47 ⟨Nat.le_of_ble_eq_true rfl, Nat.le_of_ble_eq_true rfl⟩ (Nat.le_of_ble_eq_true rfl) rfl ?_
    refine s_aloadn (j := 0) dX12_makes_89 rfl ?_
    refine s_aloadn (j := 0) dX12_makes_90 rfl ?_
    refine s_getR (k := 2) cls_13 (by decide) rfl dX12_makes_91 w_1350 rfl (fun x8 => ?_)
    refine s_iloadn (j := 1) dX12_makes_94 rfl ?_
    refine s_lald dX12_makes_95 (fun x9 => ?_)
    refine s_iloadn (j := 1) dX12_makes_96 rfl ?_
    refine s_aloadn (j := 0) dX12_makes_97 rfl ?_
    refine s_getR (k := 3) cls_13 (by decide) rfl dX12_makes_98 w_1351 rfl (fun x10 => ?_)
    refine s_iloadn (j := 1) dX12_makes_101 rfl ?_
    refine s_iald dX12_makes_102 (fun x11 => ?_)
    refine s_aloadn (j := 0) dX12_makes_103 rfl ?_
    refine s_getR (k := 4) cls_13 (by decide) rfl dX12_makes_104 w_1352 rfl (fun x12 => ?_)
    refine s_iloadn (j := 1) dX12_makes_107 rfl ?_
    refine s_iald dX12_makes_108 (fun x13 => ?_)
    refine s_aloadn (j := 0) dX12_makes_109 rfl ?_
    refine s_getR (k := 5) cls_13 (by decide) rfl dX12_makes_110 w_1353 rfl (fun x14 => ?_)
    refine s_iloadn (j := 1) dX12_makes_113 rfl ?_
    refine s_iald dX12_makes_114 (fun x15 => ?_)
    refine s_iconst (v := 1) dX12_makes_115 (by decide) ?_
    refine s_cVV (rest := []) (met_X12_endings l v0 x9 v1 x11 x13 x15 1) cls_13 mth_X12_endings rfl dX12_makes_116 w_1628 w_1630 wp_51 ⟨Nat.le_of_ble_eq_true rfl, Nat.le_of_ble_eq_true rfl⟩ (Nat.le_of_ble_eq_true rfl) rfl ?_
    refine s_n0 (fun y16 hy16 => ?_)
    refine s_iinc (j := 1) (v := y16) (d := 1) (lv' := [(1, .inl y16), (0, .inr (.inr v0))]) dX12_makes_119 rfl (by decide) hy16 (Nat.le_of_ble_eq_true rfl) rfl ?_
    refine s_goto (tgt := 58) dX12_makes_122 (by decide) ?_
    exact Sim.sub [1, 0] rfl (hr58 v0 y16)
theorem sim_X12_makes_l58 (l : Launch) : ∀ (n : Nat) (v0 : Option Nat) (v1 : Int32), Sim (M_X12_makes l) (zFin zcV) 58 [(0, .inr (.inr v0)), (1, .inl v1)] [] (p_X12_makes_l58 n v0 v1)
  | 0, _, _ => s_fl
  | n + 1, v0, v1 => sim_X12_makes_c58 l (p_X12_makes_l58 n) (sim_X12_makes_l58 l n) v0 v1
set_option maxRecDepth 20000 in
theorem sim_X12_makes_b51 (l : Launch) (v0 : Option Nat) : Sim (M_X12_makes l) (zFin zcV) 51 [(0, .inr (.inr v0))] [] (p_X12_makes_b51 v0) := by
  unfold p_X12_makes_b51
  refine s_aloadn (j := 0) dX12_makes_51 rfl ?_
  refine s_iconst (v := 0) dX12_makes_52 (by decide) ?_
  refine s_putI (k := 35) cls_13 (by decide) rfl rfl rfl dX12_makes_53 w_1383 rfl ?_
  refine s_iconst (v := 0) dX12_makes_56 (by decide) ?_
  refine s_istoren (lv' := [(1, .inl 0), (0, .inr (.inr v0))]) dX12_makes_57 (Nat.le_of_ble_eq_true rfl) rfl ?_
  exact Sim.sub [1, 0] rfl (sim_X12_makes_l58 l zFuel v0 0)
set_option maxRecDepth 20000 in
theorem sim_X12_makes_c10 (l : Launch) (r10 : Option Nat → Int32 → ZM Unit) (hr10 : ∀ (v0 : Option Nat) (v1 : Int32), Sim (M_X12_makes l) (zFin zcV) 10 [(0, .inr (.inr v0)), (1, .inl v1)] [] (r10 v0 v1)) (v0 : Option Nat) (v1 : Int32) : Sim (M_X12_makes l) (zFin zcV) 10 [(0, .inr (.inr v0)), (1, .inl v1)] [] (p_X12_makes_c10 r10 v0 v1) := by
  unfold p_X12_makes_c10
  refine s_iloadn (j := 1) dX12_makes_10 rfl ?_
  refine s_sipush (v := 16384) dX12_makes_11 (by decide) ?_
  refine s_icmp_ge (tgt := 51) dX12_makes_14 (by decide) ?_ ?_
  · exact Sim.sub [0] rfl (sim_X12_makes_b51 l v0)
  · refine s_aloadn (j := 0) dX12_makes_17 rfl ?_
    refine s_getR (k := 36) cls_13 (by decide) rfl dX12_makes_18 w_1384 rfl (fun x17 => ?_)
    refine s_iloadn (j := 1) dX12_makes_21 rfl ?_
    refine s_lconst (v := 0) dX12_makes_22 (by decide) ?_
    refine s_last dX12_makes_23 ?_
    refine s_aloadn (j := 0) dX12_makes_24 rfl ?_
    refine s_getR (k := 37) cls_13 (by decide) rfl dX12_makes_25 w_1385 rfl (fun x18 => ?_)
    refine s_iloadn (j := 1) dX12_makes_28 rfl ?_
    refine s_iconst (v := 0) dX12_makes_29 (by decide) ?_
    refine s_iast dX12_makes_30 ?_
    refine s_aloadn (j := 0) dX12_makes_31 rfl ?_
    refine s_getR (k := 38) cls_13 (by decide) rfl dX12_makes_32 w_1386 rfl (fun x19 => ?_)
    refine s_iloadn (j := 1) dX12_makes_35 rfl ?_
    refine s_iconst (v := 0) dX12_makes_36 (by decide) ?_
    refine s_iast dX12_makes_37 ?_
    refine s_aloadn (j := 0) dX12_makes_38 rfl ?_
    refine s_getR (k := 39) cls_13 (by decide) rfl dX12_makes_39 w_1387 rfl (fun x20 => ?_)
    refine s_iloadn (j := 1) dX12_makes_42 rfl ?_
    refine s_iconst (v := 0) dX12_makes_43 (by decide) ?_
    refine s_iast dX12_makes_44 ?_
    refine s_n0 (fun y21 hy21 => ?_)
    refine s_iinc (j := 1) (v := y21) (d := 1) (lv' := [(1, .inl y21), (0, .inr (.inr v0))]) dX12_makes_45 rfl (by decide) hy21 (Nat.le_of_ble_eq_true rfl) rfl ?_
    refine s_goto (tgt := 10) dX12_makes_48 (by decide) ?_
    exact Sim.sub [1, 0] rfl (hr10 v0 y21)
theorem sim_X12_makes_l10 (l : Launch) : ∀ (n : Nat) (v0 : Option Nat) (v1 : Int32), Sim (M_X12_makes l) (zFin zcV) 10 [(0, .inr (.inr v0)), (1, .inl v1)] [] (p_X12_makes_l10 n v0 v1)
  | 0, _, _ => s_fl
  | n + 1, v0, v1 => sim_X12_makes_c10 l (p_X12_makes_l10 n) (sim_X12_makes_l10 l n) v0 v1
set_option maxRecDepth 20000 in
theorem sim_X12_makes (l : Launch) (v0 : Option Nat) : Sim (M_X12_makes l) (zFin zcV) 0 [(0, .inr (.inr v0))] [] (p_X12_makes v0) := by
  unfold p_X12_makes
  refine s_aloadn (j := 0) dX12_makes_0 rfl ?_
  refine s_getI (k := 34) cls_13 (by decide) rfl dX12_makes_1 w_1382 rfl (fun x22 => ?_)
  refine s_if_eq (tgt := 8) dX12_makes_4 (by decide) ?_ ?_
  · refine s_iconst (v := 0) dX12_makes_8 (by decide) ?_
    refine s_istoren (lv' := [(1, .inl 0), (0, .inr (.inr v0))]) dX12_makes_9 (Nat.le_of_ble_eq_true rfl) rfl ?_
    exact Sim.sub [1, 0] rfl (sim_X12_makes_l10 l zFuel v0 0)
  · exact s_vret dX12_makes_7 rfl
theorem met_X12_makes (l : Launch) (v0 : Option Nat) : zMet l yX12_makes cX12_makes 2 none 5 138 [.inr (.inr v0)] zcV (p_X12_makes v0) :=
  zMet.of (by decide +kernel) (Nat.le_of_ble_eq_true rfl) rfl (sim_X12_makes l v0)
def p_X12_ownOf_c2 (r2 : Option Nat → Int64 → Int32 → ZM Int32) (v0 : Option Nat) (v1 : Int64) (v3 : Int32) : ZM Int32 :=
  z_b (z_gI 13 17 v0) fun x1 => if x1 ≤ v3 then (z_rt (-1))
  else (z_b (z_gR 13 18 v0) fun x2 => z_b (z_aL x2 v3) fun x3 => if ¬ (lg_cmp x3 v1) = 0 then (z_n (v3 + 1 : Int32) fun y4 => r2 v0 v1 y4)
  else (z_rt v3))
def p_X12_ownOf_l2 : Nat → Option Nat → Int64 → Int32 → ZM Int32
  | 0, _, _, _ => z_fl
  | n + 1, v0, v1, v3 => p_X12_ownOf_c2 (p_X12_ownOf_l2 n) v0 v1 v3
def p_X12_ownOf (v0 : Option Nat) (v1 : Int64) : ZM Int32 :=
  p_X12_ownOf_l2 zFuel v0 v1 0
abbrev M_X12_ownOf (l : Launch) : ZMe := (l, "SpellScribeModel", cX12_ownOf, 4, 0, 0, (some .int), "ownOf", [])
set_option maxRecDepth 20000 in
theorem sim_X12_ownOf_c2 (l : Launch) (r2 : Option Nat → Int64 → Int32 → ZM Int32) (hr2 : ∀ (v0 : Option Nat) (v1 : Int64) (v3 : Int32), Sim (M_X12_ownOf l) (zFin zcI) 2 [(0, .inr (.inr v0)), (1, .inr (.inl v1)), (3, .inl v3)] [] (r2 v0 v1 v3)) (v0 : Option Nat) (v1 : Int64) (v3 : Int32) : Sim (M_X12_ownOf l) (zFin zcI) 2 [(0, .inr (.inr v0)), (1, .inr (.inl v1)), (3, .inl v3)] [] (p_X12_ownOf_c2 r2 v0 v1 v3) := by
  unfold p_X12_ownOf_c2
  refine s_iloadn (j := 2) dX12_ownOf_2 rfl ?_
  refine s_aloadn (j := 0) dX12_ownOf_3 rfl ?_
  refine s_getI (k := 17) cls_13 (by decide) rfl dX12_ownOf_4 w_1365 rfl (fun x1 => ?_)
  refine s_icmp_ge (tgt := 29) dX12_ownOf_7 (by decide) ?_ ?_
  · refine s_iconst (v := (-1)) dX12_ownOf_29 (by decide) ?_
    exact s_iret dX12_ownOf_30 rfl
  · refine s_aloadn (j := 0) dX12_ownOf_10 rfl ?_
    refine s_getR (k := 18) cls_13 (by decide) rfl dX12_ownOf_11 w_1366 rfl (fun x2 => ?_)
    refine s_iloadn (j := 2) dX12_ownOf_14 rfl ?_
    refine s_lald dX12_ownOf_15 (fun x3 => ?_)
    refine s_lloadn (j := 1) dX12_ownOf_16 rfl ?_
    refine s_lcmp dX12_ownOf_17 ?_
    refine s_if_ne (tgt := 23) dX12_ownOf_18 (by decide) ?_ ?_
    · refine s_n0 (fun y4 hy4 => ?_)
      refine s_iinc (j := 2) (v := y4) (d := 1) (lv' := [(3, .inl y4), (0, .inr (.inr v0)), (1, .inr (.inl v1))]) dX12_ownOf_23 rfl (by decide) hy4 (Nat.le_of_ble_eq_true rfl) rfl ?_
      refine s_goto (tgt := 2) dX12_ownOf_26 (by decide) ?_
      exact Sim.sub [1, 2, 0] rfl (hr2 v0 v1 y4)
    · refine s_iloadn (j := 2) dX12_ownOf_21 rfl ?_
      exact s_iret dX12_ownOf_22 rfl
theorem sim_X12_ownOf_l2 (l : Launch) : ∀ (n : Nat) (v0 : Option Nat) (v1 : Int64) (v3 : Int32), Sim (M_X12_ownOf l) (zFin zcI) 2 [(0, .inr (.inr v0)), (1, .inr (.inl v1)), (3, .inl v3)] [] (p_X12_ownOf_l2 n v0 v1 v3)
  | 0, _, _, _ => s_fl
  | n + 1, v0, v1, v3 => sim_X12_ownOf_c2 l (p_X12_ownOf_l2 n) (sim_X12_ownOf_l2 l n) v0 v1 v3
set_option maxRecDepth 20000 in
theorem sim_X12_ownOf (l : Launch) (v0 : Option Nat) (v1 : Int64) : Sim (M_X12_ownOf l) (zFin zcI) 0 [(0, .inr (.inr v0)), (1, .inr (.inl v1))] [] (p_X12_ownOf v0 v1) := by
  unfold p_X12_ownOf
  refine s_iconst (v := 0) dX12_ownOf_0 (by decide) ?_
  refine s_istoren (lv' := [(3, .inl 0), (0, .inr (.inr v0)), (1, .inr (.inl v1))]) dX12_ownOf_1 (Nat.le_of_ble_eq_true rfl) rfl ?_
  exact Sim.sub [1, 2, 0] rfl (sim_X12_ownOf_l2 l zFuel v0 v1 0)
theorem met_X12_ownOf (l : Launch) (v0 : Option Nat) (v1 : Int64) : zMet l yX12_ownOf cX12_ownOf 4 (some .int) 0 0 [.inr (.inr v0), .inr (.inl v1)] zcI (p_X12_ownOf v0 v1) :=
  zMet.of (by decide +kernel) (Nat.le_of_ble_eq_true rfl) rfl (sim_X12_ownOf l v0 v1)
def p_X12_barOf_c2 (r2 : Option Nat → Int64 → Int32 → ZM Int32) (v0 : Option Nat) (v1 : Int64) (v3 : Int32) : ZM Int32 :=
  z_b (z_gI 13 20 v0) fun x1 => if x1 ≤ v3 then (z_rt (-1))
  else (z_b (z_gR 13 21 v0) fun x2 => z_b (z_aL x2 v3) fun x3 => if ¬ (lg_cmp x3 v1) = 0 then (z_n (v3 + 1 : Int32) fun y4 => r2 v0 v1 y4)
  else (z_rt v3))
def p_X12_barOf_l2 : Nat → Option Nat → Int64 → Int32 → ZM Int32
  | 0, _, _, _ => z_fl
  | n + 1, v0, v1, v3 => p_X12_barOf_c2 (p_X12_barOf_l2 n) v0 v1 v3
def p_X12_barOf (v0 : Option Nat) (v1 : Int64) : ZM Int32 :=
  p_X12_barOf_l2 zFuel v0 v1 0
abbrev M_X12_barOf (l : Launch) : ZMe := (l, "SpellScribeModel", cX12_barOf, 4, 0, 0, (some .int), "barOf", [])
set_option maxRecDepth 20000 in
theorem sim_X12_barOf_c2 (l : Launch) (r2 : Option Nat → Int64 → Int32 → ZM Int32) (hr2 : ∀ (v0 : Option Nat) (v1 : Int64) (v3 : Int32), Sim (M_X12_barOf l) (zFin zcI) 2 [(0, .inr (.inr v0)), (1, .inr (.inl v1)), (3, .inl v3)] [] (r2 v0 v1 v3)) (v0 : Option Nat) (v1 : Int64) (v3 : Int32) : Sim (M_X12_barOf l) (zFin zcI) 2 [(0, .inr (.inr v0)), (1, .inr (.inl v1)), (3, .inl v3)] [] (p_X12_barOf_c2 r2 v0 v1 v3) := by
  unfold p_X12_barOf_c2
  refine s_iloadn (j := 2) dX12_barOf_2 rfl ?_
  refine s_aloadn (j := 0) dX12_barOf_3 rfl ?_
  refine s_getI (k := 20) cls_13 (by decide) rfl dX12_barOf_4 w_1368 rfl (fun x1 => ?_)
  refine s_icmp_ge (tgt := 29) dX12_barOf_7 (by decide) ?_ ?_
  · refine s_iconst (v := (-1)) dX12_barOf_29 (by decide) ?_
    exact s_iret dX12_barOf_30 rfl
  · refine s_aloadn (j := 0) dX12_barOf_10 rfl ?_
    refine s_getR (k := 21) cls_13 (by decide) rfl dX12_barOf_11 w_1369 rfl (fun x2 => ?_)
    refine s_iloadn (j := 2) dX12_barOf_14 rfl ?_
    refine s_lald dX12_barOf_15 (fun x3 => ?_)
    refine s_lloadn (j := 1) dX12_barOf_16 rfl ?_
    refine s_lcmp dX12_barOf_17 ?_
    refine s_if_ne (tgt := 23) dX12_barOf_18 (by decide) ?_ ?_
    · refine s_n0 (fun y4 hy4 => ?_)
      refine s_iinc (j := 2) (v := y4) (d := 1) (lv' := [(3, .inl y4), (0, .inr (.inr v0)), (1, .inr (.inl v1))]) dX12_barOf_23 rfl (by decide) hy4 (Nat.le_of_ble_eq_true rfl) rfl ?_
      refine s_goto (tgt := 2) dX12_barOf_26 (by decide) ?_
      exact Sim.sub [1, 2, 0] rfl (hr2 v0 v1 y4)
    · refine s_iloadn (j := 2) dX12_barOf_21 rfl ?_
      exact s_iret dX12_barOf_22 rfl
theorem sim_X12_barOf_l2 (l : Launch) : ∀ (n : Nat) (v0 : Option Nat) (v1 : Int64) (v3 : Int32), Sim (M_X12_barOf l) (zFin zcI) 2 [(0, .inr (.inr v0)), (1, .inr (.inl v1)), (3, .inl v3)] [] (p_X12_barOf_l2 n v0 v1 v3)
  | 0, _, _, _ => s_fl
  | n + 1, v0, v1, v3 => sim_X12_barOf_c2 l (p_X12_barOf_l2 n) (sim_X12_barOf_l2 l n) v0 v1 v3
set_option maxRecDepth 20000 in
theorem sim_X12_barOf (l : Launch) (v0 : Option Nat) (v1 : Int64) : Sim (M_X12_barOf l) (zFin zcI) 0 [(0, .inr (.inr v0)), (1, .inr (.inl v1))] [] (p_X12_barOf v0 v1) := by
  unfold p_X12_barOf
  refine s_iconst (v := 0) dX12_barOf_0 (by decide) ?_
  refine s_istoren (lv' := [(3, .inl 0), (0, .inr (.inr v0)), (1, .inr (.inl v1))]) dX12_barOf_1 (Nat.le_of_ble_eq_true rfl) rfl ?_
  exact Sim.sub [1, 2, 0] rfl (sim_X12_barOf_l2 l zFuel v0 v1 0)
theorem met_X12_barOf (l : Launch) (v0 : Option Nat) (v1 : Int64) : zMet l yX12_barOf cX12_barOf 4 (some .int) 0 0 [.inr (.inr v0), .inr (.inl v1)] zcI (p_X12_barOf v0 v1) :=
  zMet.of (by decide +kernel) (Nat.le_of_ble_eq_true rfl) rfl (sim_X12_barOf l v0 v1)
def p_X12_inJoins (v0 : Option Nat) (v1 : Int64) : ZM Int32 :=
  z_b (z_gR 13 38 v0) fun x1 => z_b (z_vr 13 v0 (p_X12_slotOf v0 v1)) fun x2 => z_b (z_aI x1 x2) fun x3 => z_rt x3
abbrev M_X12_inJoins (l : Launch) : ZMe := (l, "SpellScribeModel", cX12_inJoins, 3, 1, 23, (some .int), "inJoins", [])
set_option maxRecDepth 20000 in
theorem sim_X12_inJoins (l : Launch) (v0 : Option Nat) (v1 : Int64) : Sim (M_X12_inJoins l) (zFin zcI) 0 [(0, .inr (.inr v0)), (1, .inr (.inl v1))] [] (p_X12_inJoins v0 v1) := by
  unfold p_X12_inJoins
  refine s_aloadn (j := 0) dX12_inJoins_0 rfl ?_
  refine s_getR (k := 38) cls_13 (by decide) rfl dX12_inJoins_1 w_1386 rfl (fun x1 => ?_)
  refine s_aloadn (j := 0) dX12_inJoins_4 rfl ?_
  refine s_lloadn (j := 1) dX12_inJoins_5 rfl ?_
  refine s_cVI (rest := [.inr (.inr x1)]) (met_X12_slotOf l v0 v1) cls_13 mth_X12_slotOf rfl dX12_inJoins_6 w_1605 w_1607 wp_49 ⟨Nat.le_of_ble_eq_true rfl, Nat.le_of_ble_eq_true rfl⟩ (Nat.le_of_ble_eq_true rfl) rfl (fun x2 => ?_)
  refine s_iald dX12_inJoins_9 (fun x3 => ?_)
  exact s_iret dX12_inJoins_10 rfl
theorem met_X12_inJoins (l : Launch) (v0 : Option Nat) (v1 : Int64) : zMet l yX12_inJoins cX12_inJoins 3 (some .int) 1 23 [.inr (.inr v0), .inr (.inl v1)] zcI (p_X12_inJoins v0 v1) :=
  zMet.of (by decide +kernel) (Nat.le_of_ble_eq_true rfl) rfl (sim_X12_inJoins l v0 v1)
def p_X12_meets (v0 : Int64) (v2 : Int64) : ZM Int32 :=
  z_b (p_X12_lastOf v0) fun x1 => z_b (p_X12_firstOf v2) fun x2 => if ¬ x1 = x2 then (z_rz 0)
  else (z_rz 1)
abbrev M_X12_meets (l : Launch) : ZMe := (l, "SpellScribeModel", cX12_meets, 4, 2, 45, (some .boolean), "meets", [])
set_option maxRecDepth 20000 in
theorem sim_X12_meets (l : Launch) (v0 : Int64) (v2 : Int64) : Sim (M_X12_meets l) (zFin zcI) 0 [(0, .inr (.inl v0)), (2, .inr (.inl v2))] [] (p_X12_meets v0 v2) := by
  unfold p_X12_meets
  refine s_lloadn (j := 0) dX12_meets_0 rfl ?_
  refine s_cSI (rest := []) (met_X12_lastOf l v0) mth_X12_lastOf rfl dX12_meets_1 w_1615 w_1616 ⟨Nat.le_of_ble_eq_true rfl, Nat.le_of_ble_eq_true rfl⟩ (Nat.le_of_ble_eq_true rfl) rfl (fun x1 => ?_)
  refine s_lloadn (j := 1) dX12_meets_4 rfl ?_
  refine s_cSI (rest := [.inl x1]) (met_X12_firstOf l v2) mth_X12_firstOf rfl dX12_meets_5 w_1619 w_1620 ⟨Nat.le_of_ble_eq_true rfl, Nat.le_of_ble_eq_true rfl⟩ (Nat.le_of_ble_eq_true rfl) rfl (fun x2 => ?_)
  refine s_icmp_ne (tgt := 15) dX12_meets_8 (by decide) ?_ ?_
  · refine s_iconst (v := 0) dX12_meets_15 (by decide) ?_
    exact s_zret dX12_meets_16 rfl
  · refine s_iconst (v := 1) dX12_meets_11 (by decide) ?_
    refine s_goto (tgt := 16) dX12_meets_12 (by decide) ?_
    exact s_zret dX12_meets_16 rfl
theorem met_X12_meets (l : Launch) (v0 : Int64) (v2 : Int64) : zMet l yX12_meets cX12_meets 4 (some .boolean) 2 45 [.inr (.inl v0), .inr (.inl v2)] zcI (p_X12_meets v0 v2) :=
  zMet.of (by decide +kernel) (Nat.le_of_ble_eq_true rfl) rfl (sim_X12_meets l v0 v2)
def p_X12_joinsOf_b171 (r11 : Option Nat → Int64 → Int32 → Int32 → Int32 → ZM Int32) (v0 : Option Nat) (v1 : Int64) (v3 : Int32) (v4 : Int32) (v5 : Int32) : ZM Int32 :=
  z_n (v5 + 1 : Int32) fun y1 => r11 v0 v1 v3 v4 y1
def p_X12_joinsOf_b162 (r11 : Option Nat → Int64 → Int32 → Int32 → Int32 → ZM Int32) (r89 : Option Nat → Int64 → Int32 → Int32 → Int32 → Int64 → Int32 → Int32 → ZM Int32) (v0 : Option Nat) (v1 : Int64) (v3 : Int32) (v5 : Int32) (v6 : Int64) (v10 : Int32) (v11 : Int32) (s0 : Int32) (s1 : Int32) : ZM Int32 :=
  z_n ((s0 ||| s1) : Int32) fun y2 => z_n (v11 + 1 : Int32) fun y3 => r89 v0 v1 v3 y2 v5 v6 v10 y3
def p_X12_joinsOf_b161 (r11 : Option Nat → Int64 → Int32 → Int32 → Int32 → ZM Int32) (r89 : Option Nat → Int64 → Int32 → Int32 → Int32 → Int64 → Int32 → Int32 → ZM Int32) (v0 : Option Nat) (v1 : Int64) (v3 : Int32) (v5 : Int32) (v6 : Int64) (v10 : Int32) (v11 : Int32) (s0 : Int32) : ZM Int32 :=
  p_X12_joinsOf_b162 r11 r89 v0 v1 v3 v5 v6 v10 v11 s0 0
def p_X12_joinsOf_c89 (r11 : Option Nat → Int64 → Int32 → Int32 → Int32 → ZM Int32) (r89 : Option Nat → Int64 → Int32 → Int32 → Int32 → Int64 → Int32 → Int32 → ZM Int32) (v0 : Option Nat) (v1 : Int64) (v3 : Int32) (v4 : Int32) (v5 : Int32) (v6 : Int64) (v10 : Int32) (v11 : Int32) : ZM Int32 :=
  if (v3 - 2) < v11 then (p_X12_joinsOf_b171 r11 v0 v1 v3 v4 v5)
  else (if v10 = 0 then (p_X12_joinsOf_b171 r11 v0 v1 v3 v4 v5)
  else (z_b (p_X12_part v1 v5 v11) fun x4 => z_b (p_X12_part v1 v11 v3) fun x5 => z_b (z_vr 13 v0 (p_X12_inJoins v0 x4)) fun x6 => if x6 = 0 then (p_X12_joinsOf_b161 r11 r89 v0 v1 v3 v5 v6 v10 v11 v4)
  else (z_b (p_X12_meets v6 x4) fun x7 => if ¬ x7 = 0 then (p_X12_joinsOf_b161 r11 r89 v0 v1 v3 v5 v6 v10 v11 v4)
  else (z_b (p_X12_meets x4 x5) fun x8 => if ¬ x8 = 0 then (p_X12_joinsOf_b161 r11 r89 v0 v1 v3 v5 v6 v10 v11 v4)
  else (z_b (z_vr 13 v0 (p_X12_inJoins v0 x5)) fun x9 => p_X12_joinsOf_b162 r11 r89 v0 v1 v3 v5 v6 v10 v11 v4 x9)))))
def p_X12_joinsOf_l89 (r11 : Option Nat → Int64 → Int32 → Int32 → Int32 → ZM Int32) : Nat → Option Nat → Int64 → Int32 → Int32 → Int32 → Int64 → Int32 → Int32 → ZM Int32
  | 0, _, _, _, _, _, _, _, _ => z_fl
  | n + 1, v0, v1, v3, v4, v5, v6, v10, v11 => p_X12_joinsOf_c89 r11 (p_X12_joinsOf_l89 r11 n) v0 v1 v3 v4 v5 v6 v10 v11
def p_X12_joinsOf_b80 (r11 : Option Nat → Int64 → Int32 → Int32 → Int32 → ZM Int32) (v0 : Option Nat) (v1 : Int64) (v3 : Int32) (v5 : Int32) (v6 : Int64) (v10 : Int32) (s0 : Int32) (s1 : Int32) : ZM Int32 :=
  z_n ((s0 ||| s1) : Int32) fun y10 => z_n ((v5 + 2) : Int32) fun y11 => p_X12_joinsOf_l89 r11 zFuel v0 v1 v3 y10 v5 v6 v10 y11
def p_X12_joinsOf_b79 (r11 : Option Nat → Int64 → Int32 → Int32 → Int32 → ZM Int32) (v0 : Option Nat) (v1 : Int64) (v3 : Int32) (v5 : Int32) (v6 : Int64) (v10 : Int32) (s0 : Int32) : ZM Int32 :=
  p_X12_joinsOf_b80 r11 v0 v1 v3 v5 v6 v10 s0 0
def p_X12_joinsOf_b51 (r11 : Option Nat → Int64 → Int32 → Int32 → Int32 → ZM Int32) (v0 : Option Nat) (v1 : Int64) (v3 : Int32) (v4 : Int32) (v5 : Int32) (v6 : Int64) (v8 : Int64) (s0 : Int32) : ZM Int32 :=
  if s0 = 0 then (p_X12_joinsOf_b79 r11 v0 v1 v3 v5 v6 s0 v4)
  else (z_b (p_X12_meets v6 v8) fun x12 => if ¬ x12 = 0 then (p_X12_joinsOf_b79 r11 v0 v1 v3 v5 v6 s0 v4)
  else (z_b (z_vr 13 v0 (p_X12_inJoins v0 v8)) fun x13 => p_X12_joinsOf_b80 r11 v0 v1 v3 v5 v6 s0 v4 x13))
def p_X12_joinsOf_c11 (r11 : Option Nat → Int64 → Int32 → Int32 → Int32 → ZM Int32) (v0 : Option Nat) (v1 : Int64) (v3 : Int32) (v4 : Int32) (v5 : Int32) : ZM Int32 :=
  if (v3 - 2) < v5 then (z_rt v4)
  else (z_b (p_X12_part v1 0 v5) fun x14 => z_b (p_X12_part v1 v5 v3) fun x15 => z_b (z_vr 13 v0 (p_X12_inJoins v0 x14)) fun x16 => if x16 = 0 then (p_X12_joinsOf_b51 r11 v0 v1 v3 v4 v5 x14 x15 0)
  else (p_X12_joinsOf_b51 r11 v0 v1 v3 v4 v5 x14 x15 1))
def p_X12_joinsOf_l11 : Nat → Option Nat → Int64 → Int32 → Int32 → Int32 → ZM Int32
  | 0, _, _, _, _, _ => z_fl
  | n + 1, v0, v1, v3, v4, v5 => p_X12_joinsOf_c11 (p_X12_joinsOf_l11 n) v0 v1 v3 v4 v5
def p_X12_joinsOf (v0 : Option Nat) (v1 : Int64) : ZM Int32 :=
  z_b (p_X12_lengthOf v1) fun x17 => p_X12_joinsOf_l11 zFuel v0 v1 x17 0 2
abbrev M_X12_joinsOf (l : Launch) : ZMe := (l, "SpellScribeModel", cX12_joinsOf, 16, 3, 68, (some .int), "joinsOf", [])
set_option maxRecDepth 20000 in
theorem sim_X12_joinsOf_b171 (l : Launch) (r11 : Option Nat → Int64 → Int32 → Int32 → Int32 → ZM Int32) (hr11 : ∀ (v0 : Option Nat) (v1 : Int64) (v3 : Int32) (v4 : Int32) (v5 : Int32), Sim (M_X12_joinsOf l) (zFin zcI) 11 [(0, .inr (.inr v0)), (1, .inr (.inl v1)), (3, .inl v3), (4, .inl v4), (5, .inl v5)] [] (r11 v0 v1 v3 v4 v5)) (v0 : Option Nat) (v1 : Int64) (v3 : Int32) (v4 : Int32) (v5 : Int32) : Sim (M_X12_joinsOf l) (zFin zcI) 171 [(0, .inr (.inr v0)), (1, .inr (.inl v1)), (3, .inl v3), (4, .inl v4), (5, .inl v5)] [] (p_X12_joinsOf_b171 r11 v0 v1 v3 v4 v5) := by
  unfold p_X12_joinsOf_b171
  refine s_n0 (fun y1 hy1 => ?_)
  refine s_iinc (j := 4) (v := y1) (d := 1) (lv' := [(5, .inl y1), (0, .inr (.inr v0)), (1, .inr (.inl v1)), (3, .inl v3), (4, .inl v4)]) dX12_joinsOf_171 rfl (by decide) hy1 (Nat.le_of_ble_eq_true rfl) rfl ?_
  refine s_goto (tgt := 11) dX12_joinsOf_174 (by decide) ?_
  exact Sim.sub [1, 2, 3, 4, 0] rfl (hr11 v0 v1 v3 v4 y1)
set_option maxRecDepth 20000 in
theorem sim_X12_joinsOf_b162 (l : Launch) (r11 : Option Nat → Int64 → Int32 → Int32 → Int32 → ZM Int32) (r89 : Option Nat → Int64 → Int32 → Int32 → Int32 → Int64 → Int32 → Int32 → ZM Int32) (hr11 : ∀ (v0 : Option Nat) (v1 : Int64) (v3 : Int32) (v4 : Int32) (v5 : Int32), Sim (M_X12_joinsOf l) (zFin zcI) 11 [(0, .inr (.inr v0)), (1, .inr (.inl v1)), (3, .inl v3), (4, .inl v4), (5, .inl v5)] [] (r11 v0 v1 v3 v4 v5)) (hr89 : ∀ (v0 : Option Nat) (v1 : Int64) (v3 : Int32) (v4 : Int32) (v5 : Int32) (v6 : Int64) (v10 : Int32) (v11 : Int32), Sim (M_X12_joinsOf l) (zFin zcI) 89 [(0, .inr (.inr v0)), (1, .inr (.inl v1)), (3, .inl v3), (4, .inl v4), (5, .inl v5), (6, .inr (.inl v6)), (10, .inl v10), (11, .inl v11)] [] (r89 v0 v1 v3 v4 v5 v6 v10 v11)) (v0 : Option Nat) (v1 : Int64) (v3 : Int32) (v5 : Int32) (v6 : Int64) (v10 : Int32) (v11 : Int32) (s0 : Int32) (s1 : Int32) : Sim (M_X12_joinsOf l) (zFin zcI) 162 [(0, .inr (.inr v0)), (1, .inr (.inl v1)), (3, .inl v3), (5, .inl v5), (6, .inr (.inl v6)), (10, .inl v10), (11, .inl v11)] [.inl s1, .inl s0] (p_X12_joinsOf_b162 r11 r89 v0 v1 v3 v5 v6 v10 v11 s0 s1) := by
  unfold p_X12_joinsOf_b162
  refine s_ior dX12_joinsOf_162 ?_
  refine s_nI (fun y2 => ?_)
  refine s_istore (lv' := [(4, .inl y2), (0, .inr (.inr v0)), (1, .inr (.inl v1)), (3, .inl v3), (5, .inl v5), (6, .inr (.inl v6)), (10, .inl v10), (11, .inl v11)]) dX12_joinsOf_163 (Nat.le_of_ble_eq_true rfl) rfl ?_
  refine s_n0 (fun y3 hy3 => ?_)
  refine s_iinc (j := 7) (v := y3) (d := 1) (lv' := [(11, .inl y3), (4, .inl y2), (0, .inr (.inr v0)), (1, .inr (.inl v1)), (3, .inl v3), (5, .inl v5), (6, .inr (.inl v6)), (10, .inl v10)]) dX12_joinsOf_165 rfl (by decide) hy3 (Nat.le_of_ble_eq_true rfl) rfl ?_
  refine s_goto (tgt := 89) dX12_joinsOf_168 (by decide) ?_
  exact Sim.sub [2, 3, 4, 1, 5, 6, 7, 0] rfl (hr89 v0 v1 v3 y2 v5 v6 v10 y3)
set_option maxRecDepth 20000 in
theorem sim_X12_joinsOf_b161 (l : Launch) (r11 : Option Nat → Int64 → Int32 → Int32 → Int32 → ZM Int32) (r89 : Option Nat → Int64 → Int32 → Int32 → Int32 → Int64 → Int32 → Int32 → ZM Int32) (hr11 : ∀ (v0 : Option Nat) (v1 : Int64) (v3 : Int32) (v4 : Int32) (v5 : Int32), Sim (M_X12_joinsOf l) (zFin zcI) 11 [(0, .inr (.inr v0)), (1, .inr (.inl v1)), (3, .inl v3), (4, .inl v4), (5, .inl v5)] [] (r11 v0 v1 v3 v4 v5)) (hr89 : ∀ (v0 : Option Nat) (v1 : Int64) (v3 : Int32) (v4 : Int32) (v5 : Int32) (v6 : Int64) (v10 : Int32) (v11 : Int32), Sim (M_X12_joinsOf l) (zFin zcI) 89 [(0, .inr (.inr v0)), (1, .inr (.inl v1)), (3, .inl v3), (4, .inl v4), (5, .inl v5), (6, .inr (.inl v6)), (10, .inl v10), (11, .inl v11)] [] (r89 v0 v1 v3 v4 v5 v6 v10 v11)) (v0 : Option Nat) (v1 : Int64) (v3 : Int32) (v5 : Int32) (v6 : Int64) (v10 : Int32) (v11 : Int32) (s0 : Int32) : Sim (M_X12_joinsOf l) (zFin zcI) 161 [(0, .inr (.inr v0)), (1, .inr (.inl v1)), (3, .inl v3), (5, .inl v5), (6, .inr (.inl v6)), (10, .inl v10), (11, .inl v11)] [.inl s0] (p_X12_joinsOf_b161 r11 r89 v0 v1 v3 v5 v6 v10 v11 s0) := by
  unfold p_X12_joinsOf_b161
  refine s_iconst (v := 0) dX12_joinsOf_161 (by decide) ?_
  exact Sim.sub [0, 1, 2, 3, 4, 5, 6] rfl (sim_X12_joinsOf_b162 l r11 r89 hr11 hr89 v0 v1 v3 v5 v6 v10 v11 s0 0)
set_option maxRecDepth 20000 in
theorem sim_X12_joinsOf_c89 (l : Launch) (r11 : Option Nat → Int64 → Int32 → Int32 → Int32 → ZM Int32) (r89 : Option Nat → Int64 → Int32 → Int32 → Int32 → Int64 → Int32 → Int32 → ZM Int32) (hr11 : ∀ (v0 : Option Nat) (v1 : Int64) (v3 : Int32) (v4 : Int32) (v5 : Int32), Sim (M_X12_joinsOf l) (zFin zcI) 11 [(0, .inr (.inr v0)), (1, .inr (.inl v1)), (3, .inl v3), (4, .inl v4), (5, .inl v5)] [] (r11 v0 v1 v3 v4 v5)) (hr89 : ∀ (v0 : Option Nat) (v1 : Int64) (v3 : Int32) (v4 : Int32) (v5 : Int32) (v6 : Int64) (v10 : Int32) (v11 : Int32), Sim (M_X12_joinsOf l) (zFin zcI) 89 [(0, .inr (.inr v0)), (1, .inr (.inl v1)), (3, .inl v3), (4, .inl v4), (5, .inl v5), (6, .inr (.inl v6)), (10, .inl v10), (11, .inl v11)] [] (r89 v0 v1 v3 v4 v5 v6 v10 v11)) (v0 : Option Nat) (v1 : Int64) (v3 : Int32) (v4 : Int32) (v5 : Int32) (v6 : Int64) (v10 : Int32) (v11 : Int32) : Sim (M_X12_joinsOf l) (zFin zcI) 89 [(0, .inr (.inr v0)), (1, .inr (.inl v1)), (3, .inl v3), (4, .inl v4), (5, .inl v5), (6, .inr (.inl v6)), (10, .inl v10), (11, .inl v11)] [] (p_X12_joinsOf_c89 r11 r89 v0 v1 v3 v4 v5 v6 v10 v11) := by
  unfold p_X12_joinsOf_c89
  refine s_iload (j := 7) dX12_joinsOf_89 rfl ?_
  refine s_iloadn (j := 2) dX12_joinsOf_91 rfl ?_
  refine s_iconst (v := 2) dX12_joinsOf_92 (by decide) ?_
  refine s_isub dX12_joinsOf_93 ?_
  refine s_icmp_gt (tgt := 171) dX12_joinsOf_94 (by decide) ?_ ?_
  · exact Sim.sub [0, 1, 2, 3, 4] rfl (sim_X12_joinsOf_b171 l r11 hr11 v0 v1 v3 v4 v5)
  · refine s_iload (j := 6) dX12_joinsOf_97 rfl ?_
    refine s_if_eq (tgt := 171) dX12_joinsOf_99 (by decide) ?_ ?_
    · exact Sim.sub [0, 1, 2, 3, 4] rfl (sim_X12_joinsOf_b171 l r11 hr11 v0 v1 v3 v4 v5)
    · refine s_lloadn (j := 1) dX12_joinsOf_102 rfl ?_
      refine s_iload (j := 4) dX12_joinsOf_103 rfl ?_
      refine s_iload (j := 7) dX12_joinsOf_105 rfl ?_
      refine s_cSL (rest := []) (met_X12_part l v1 v5 v11) mth_X12_part rfl dX12_joinsOf_107 w_1625 w_1626 ⟨Nat.le_of_ble_eq_true rfl, Nat.le_of_ble_eq_true rfl⟩ (Nat.le_of_ble_eq_true rfl) rfl (fun x4 => ?_)
      refine s_lstore (lv' := [(12, .inr (.inl x4)), (0, .inr (.inr v0)), (1, .inr (.inl v1)), (3, .inl v3), (4, .inl v4), (5, .inl v5), (6, .inr (.inl v6)), (10, .inl v10), (11, .inl v11)]) dX12_joinsOf_110 (Nat.le_of_ble_eq_true rfl) rfl ?_
      refine s_lloadn (j := 2) dX12_joinsOf_112 rfl ?_
      refine s_iload (j := 8) dX12_joinsOf_113 rfl ?_
      refine s_iloadn (j := 3) dX12_joinsOf_115 rfl ?_
      refine s_cSL (rest := []) (met_X12_part l v1 v11 v3) mth_X12_part rfl dX12_joinsOf_116 w_1625 w_1626 ⟨Nat.le_of_ble_eq_true rfl, Nat.le_of_ble_eq_true rfl⟩ (Nat.le_of_ble_eq_true rfl) rfl (fun x5 => ?_)
      refine s_lstore (lv' := [(14, .inr (.inl x5)), (12, .inr (.inl x4)), (0, .inr (.inr v0)), (1, .inr (.inl v1)), (3, .inl v3), (4, .inl v4), (5, .inl v5), (6, .inr (.inl v6)), (10, .inl v10), (11, .inl v11)]) dX12_joinsOf_119 (Nat.le_of_ble_eq_true rfl) rfl ?_
      refine s_iload (j := 5) dX12_joinsOf_121 rfl ?_
      refine s_aloadn (j := 2) dX12_joinsOf_123 rfl ?_
      refine s_lload (j := 1) dX12_joinsOf_124 rfl ?_
      refine s_cVI (rest := [.inl v4]) (met_X12_inJoins l v0 x4) cls_13 mth_X12_inJoins rfl dX12_joinsOf_126 w_1647 w_1649 wp_55 ⟨Nat.le_of_ble_eq_true rfl, Nat.le_of_ble_eq_true rfl⟩ (Nat.le_of_ble_eq_true rfl) rfl (fun x6 => ?_)
      refine s_if_eq (tgt := 161) dX12_joinsOf_129 (by decide) ?_ ?_
      · exact Sim.sub [2, 3, 4, 6, 7, 8, 9] rfl (sim_X12_joinsOf_b161 l r11 r89 hr11 hr89 v0 v1 v3 v5 v6 v10 v11 v4)
      · refine s_lload (j := 7) dX12_joinsOf_132 rfl ?_
        refine s_lload (j := 1) dX12_joinsOf_134 rfl ?_
        refine s_cSI (rest := [.inl v4]) (met_X12_meets l v6 x4) mth_X12_meets rfl dX12_joinsOf_136 w_1651 w_1652 ⟨Nat.le_of_ble_eq_true rfl, Nat.le_of_ble_eq_true rfl⟩ (Nat.le_of_ble_eq_true rfl) rfl (fun x7 => ?_)
        refine s_if_ne (tgt := 161) dX12_joinsOf_139 (by decide) ?_ ?_
        · exact Sim.sub [2, 3, 4, 6, 7, 8, 9] rfl (sim_X12_joinsOf_b161 l r11 r89 hr11 hr89 v0 v1 v3 v5 v6 v10 v11 v4)
        · refine s_lload (j := 1) dX12_joinsOf_142 rfl ?_
          refine s_lload (j := 0) dX12_joinsOf_144 rfl ?_
          refine s_cSI (rest := [.inl v4]) (met_X12_meets l x4 x5) mth_X12_meets rfl dX12_joinsOf_146 w_1651 w_1652 ⟨Nat.le_of_ble_eq_true rfl, Nat.le_of_ble_eq_true rfl⟩ (Nat.le_of_ble_eq_true rfl) rfl (fun x8 => ?_)
          refine s_if_ne (tgt := 161) dX12_joinsOf_149 (by decide) ?_ ?_
          · exact Sim.sub [2, 3, 4, 6, 7, 8, 9] rfl (sim_X12_joinsOf_b161 l r11 r89 hr11 hr89 v0 v1 v3 v5 v6 v10 v11 v4)
          · refine s_aloadn (j := 2) dX12_joinsOf_152 rfl ?_
            refine s_lload (j := 0) dX12_joinsOf_153 rfl ?_
            refine s_cVI (rest := [.inl v4]) (met_X12_inJoins l v0 x5) cls_13 mth_X12_inJoins rfl dX12_joinsOf_155 w_1647 w_1649 wp_55 ⟨Nat.le_of_ble_eq_true rfl, Nat.le_of_ble_eq_true rfl⟩ (Nat.le_of_ble_eq_true rfl) rfl (fun x9 => ?_)
            refine s_goto (tgt := 162) dX12_joinsOf_158 (by decide) ?_
            exact Sim.sub [2, 3, 4, 6, 7, 8, 9] rfl (sim_X12_joinsOf_b162 l r11 r89 hr11 hr89 v0 v1 v3 v5 v6 v10 v11 v4 x9)
theorem sim_X12_joinsOf_l89 (l : Launch) (r11 : Option Nat → Int64 → Int32 → Int32 → Int32 → ZM Int32) (hr11 : ∀ (v0 : Option Nat) (v1 : Int64) (v3 : Int32) (v4 : Int32) (v5 : Int32), Sim (M_X12_joinsOf l) (zFin zcI) 11 [(0, .inr (.inr v0)), (1, .inr (.inl v1)), (3, .inl v3), (4, .inl v4), (5, .inl v5)] [] (r11 v0 v1 v3 v4 v5)) : ∀ (n : Nat) (v0 : Option Nat) (v1 : Int64) (v3 : Int32) (v4 : Int32) (v5 : Int32) (v6 : Int64) (v10 : Int32) (v11 : Int32), Sim (M_X12_joinsOf l) (zFin zcI) 89 [(0, .inr (.inr v0)), (1, .inr (.inl v1)), (3, .inl v3), (4, .inl v4), (5, .inl v5), (6, .inr (.inl v6)), (10, .inl v10), (11, .inl v11)] [] (p_X12_joinsOf_l89 r11 n v0 v1 v3 v4 v5 v6 v10 v11)
  | 0, _, _, _, _, _, _, _, _ => s_fl
  | n + 1, v0, v1, v3, v4, v5, v6, v10, v11 => sim_X12_joinsOf_c89 l r11 (p_X12_joinsOf_l89 r11 n) hr11 (sim_X12_joinsOf_l89 l r11 hr11 n) v0 v1 v3 v4 v5 v6 v10 v11
set_option maxRecDepth 20000 in
theorem sim_X12_joinsOf_b80 (l : Launch) (r11 : Option Nat → Int64 → Int32 → Int32 → Int32 → ZM Int32) (hr11 : ∀ (v0 : Option Nat) (v1 : Int64) (v3 : Int32) (v4 : Int32) (v5 : Int32), Sim (M_X12_joinsOf l) (zFin zcI) 11 [(0, .inr (.inr v0)), (1, .inr (.inl v1)), (3, .inl v3), (4, .inl v4), (5, .inl v5)] [] (r11 v0 v1 v3 v4 v5)) (v0 : Option Nat) (v1 : Int64) (v3 : Int32) (v5 : Int32) (v6 : Int64) (v10 : Int32) (s0 : Int32) (s1 : Int32) : Sim (M_X12_joinsOf l) (zFin zcI) 80 [(0, .inr (.inr v0)), (1, .inr (.inl v1)), (3, .inl v3), (5, .inl v5), (6, .inr (.inl v6)), (10, .inl v10)] [.inl s1, .inl s0] (p_X12_joinsOf_b80 r11 v0 v1 v3 v5 v6 v10 s0 s1) := by
  unfold p_X12_joinsOf_b80
  refine s_ior dX12_joinsOf_80 ?_
  refine s_nI (fun y10 => ?_)
  refine s_istore (lv' := [(4, .inl y10), (0, .inr (.inr v0)), (1, .inr (.inl v1)), (3, .inl v3), (5, .inl v5), (6, .inr (.inl v6)), (10, .inl v10)]) dX12_joinsOf_81 (Nat.le_of_ble_eq_true rfl) rfl ?_
  refine s_iload (j := 4) dX12_joinsOf_83 rfl ?_
  refine s_iconst (v := 2) dX12_joinsOf_85 (by decide) ?_
  refine s_iadd dX12_joinsOf_86 ?_
  refine s_nI (fun y11 => ?_)
  refine s_istore (lv' := [(11, .inl y11), (4, .inl y10), (0, .inr (.inr v0)), (1, .inr (.inl v1)), (3, .inl v3), (5, .inl v5), (6, .inr (.inl v6)), (10, .inl v10)]) dX12_joinsOf_87 (Nat.le_of_ble_eq_true rfl) rfl ?_
  exact Sim.sub [2, 3, 4, 1, 5, 6, 7, 0] rfl (sim_X12_joinsOf_l89 l r11 hr11 zFuel v0 v1 v3 y10 v5 v6 v10 y11)
set_option maxRecDepth 20000 in
theorem sim_X12_joinsOf_b79 (l : Launch) (r11 : Option Nat → Int64 → Int32 → Int32 → Int32 → ZM Int32) (hr11 : ∀ (v0 : Option Nat) (v1 : Int64) (v3 : Int32) (v4 : Int32) (v5 : Int32), Sim (M_X12_joinsOf l) (zFin zcI) 11 [(0, .inr (.inr v0)), (1, .inr (.inl v1)), (3, .inl v3), (4, .inl v4), (5, .inl v5)] [] (r11 v0 v1 v3 v4 v5)) (v0 : Option Nat) (v1 : Int64) (v3 : Int32) (v5 : Int32) (v6 : Int64) (v10 : Int32) (s0 : Int32) : Sim (M_X12_joinsOf l) (zFin zcI) 79 [(0, .inr (.inr v0)), (1, .inr (.inl v1)), (3, .inl v3), (5, .inl v5), (6, .inr (.inl v6)), (10, .inl v10)] [.inl s0] (p_X12_joinsOf_b79 r11 v0 v1 v3 v5 v6 v10 s0) := by
  unfold p_X12_joinsOf_b79
  refine s_iconst (v := 0) dX12_joinsOf_79 (by decide) ?_
  exact Sim.sub [0, 1, 2, 3, 4, 5] rfl (sim_X12_joinsOf_b80 l r11 hr11 v0 v1 v3 v5 v6 v10 s0 0)
set_option maxRecDepth 20000 in
theorem sim_X12_joinsOf_b51 (l : Launch) (r11 : Option Nat → Int64 → Int32 → Int32 → Int32 → ZM Int32) (hr11 : ∀ (v0 : Option Nat) (v1 : Int64) (v3 : Int32) (v4 : Int32) (v5 : Int32), Sim (M_X12_joinsOf l) (zFin zcI) 11 [(0, .inr (.inr v0)), (1, .inr (.inl v1)), (3, .inl v3), (4, .inl v4), (5, .inl v5)] [] (r11 v0 v1 v3 v4 v5)) (v0 : Option Nat) (v1 : Int64) (v3 : Int32) (v4 : Int32) (v5 : Int32) (v6 : Int64) (v8 : Int64) (s0 : Int32) : Sim (M_X12_joinsOf l) (zFin zcI) 51 [(0, .inr (.inr v0)), (1, .inr (.inl v1)), (3, .inl v3), (4, .inl v4), (5, .inl v5), (6, .inr (.inl v6)), (8, .inr (.inl v8))] [.inl s0] (p_X12_joinsOf_b51 r11 v0 v1 v3 v4 v5 v6 v8 s0) := by
  unfold p_X12_joinsOf_b51
  refine s_istore (lv' := [(10, .inl s0), (0, .inr (.inr v0)), (1, .inr (.inl v1)), (3, .inl v3), (4, .inl v4), (5, .inl v5), (6, .inr (.inl v6)), (8, .inr (.inl v8))]) dX12_joinsOf_51 (Nat.le_of_ble_eq_true rfl) rfl ?_
  refine s_iload (j := 4) dX12_joinsOf_53 rfl ?_
  refine s_iload (j := 0) dX12_joinsOf_55 rfl ?_
  refine s_if_eq (tgt := 79) dX12_joinsOf_57 (by decide) ?_ ?_
  · exact Sim.sub [1, 2, 3, 5, 6, 0] rfl (sim_X12_joinsOf_b79 l r11 hr11 v0 v1 v3 v5 v6 s0 v4)
  · refine s_lload (j := 6) dX12_joinsOf_60 rfl ?_
    refine s_lload (j := 7) dX12_joinsOf_62 rfl ?_
    refine s_cSI (rest := [.inl v4]) (met_X12_meets l v6 v8) mth_X12_meets rfl dX12_joinsOf_64 w_1651 w_1652 ⟨Nat.le_of_ble_eq_true rfl, Nat.le_of_ble_eq_true rfl⟩ (Nat.le_of_ble_eq_true rfl) rfl (fun x12 => ?_)
    refine s_if_ne (tgt := 79) dX12_joinsOf_67 (by decide) ?_ ?_
    · exact Sim.sub [1, 2, 3, 5, 6, 0] rfl (sim_X12_joinsOf_b79 l r11 hr11 v0 v1 v3 v5 v6 s0 v4)
    · refine s_aloadn (j := 1) dX12_joinsOf_70 rfl ?_
      refine s_lload (j := 7) dX12_joinsOf_71 rfl ?_
      refine s_cVI (rest := [.inl v4]) (met_X12_inJoins l v0 v8) cls_13 mth_X12_inJoins rfl dX12_joinsOf_73 w_1647 w_1649 wp_55 ⟨Nat.le_of_ble_eq_true rfl, Nat.le_of_ble_eq_true rfl⟩ (Nat.le_of_ble_eq_true rfl) rfl (fun x13 => ?_)
      refine s_goto (tgt := 80) dX12_joinsOf_76 (by decide) ?_
      exact Sim.sub [1, 2, 3, 5, 6, 0] rfl (sim_X12_joinsOf_b80 l r11 hr11 v0 v1 v3 v5 v6 s0 v4 x13)
set_option maxRecDepth 20000 in
theorem sim_X12_joinsOf_c11 (l : Launch) (r11 : Option Nat → Int64 → Int32 → Int32 → Int32 → ZM Int32) (hr11 : ∀ (v0 : Option Nat) (v1 : Int64) (v3 : Int32) (v4 : Int32) (v5 : Int32), Sim (M_X12_joinsOf l) (zFin zcI) 11 [(0, .inr (.inr v0)), (1, .inr (.inl v1)), (3, .inl v3), (4, .inl v4), (5, .inl v5)] [] (r11 v0 v1 v3 v4 v5)) (v0 : Option Nat) (v1 : Int64) (v3 : Int32) (v4 : Int32) (v5 : Int32) : Sim (M_X12_joinsOf l) (zFin zcI) 11 [(0, .inr (.inr v0)), (1, .inr (.inl v1)), (3, .inl v3), (4, .inl v4), (5, .inl v5)] [] (p_X12_joinsOf_c11 r11 v0 v1 v3 v4 v5) := by
  unfold p_X12_joinsOf_c11
  refine s_iload (j := 4) dX12_joinsOf_11 rfl ?_
  refine s_iloadn (j := 2) dX12_joinsOf_13 rfl ?_
  refine s_iconst (v := 2) dX12_joinsOf_14 (by decide) ?_
  refine s_isub dX12_joinsOf_15 ?_
  refine s_icmp_gt (tgt := 177) dX12_joinsOf_16 (by decide) ?_ ?_
  · refine s_iload (j := 3) dX12_joinsOf_177 rfl ?_
    exact s_iret dX12_joinsOf_179 rfl
  · refine s_lloadn (j := 1) dX12_joinsOf_19 rfl ?_
    refine s_iconst (v := 0) dX12_joinsOf_20 (by decide) ?_
    refine s_iload (j := 4) dX12_joinsOf_21 rfl ?_
    refine s_cSL (rest := []) (met_X12_part l v1 0 v5) mth_X12_part rfl dX12_joinsOf_23 w_1625 w_1626 ⟨Nat.le_of_ble_eq_true rfl, Nat.le_of_ble_eq_true rfl⟩ (Nat.le_of_ble_eq_true rfl) rfl (fun x14 => ?_)
    refine s_lstore (lv' := [(6, .inr (.inl x14)), (0, .inr (.inr v0)), (1, .inr (.inl v1)), (3, .inl v3), (4, .inl v4), (5, .inl v5)]) dX12_joinsOf_26 (Nat.le_of_ble_eq_true rfl) rfl ?_
    refine s_lloadn (j := 2) dX12_joinsOf_28 rfl ?_
    refine s_iload (j := 5) dX12_joinsOf_29 rfl ?_
    refine s_iloadn (j := 3) dX12_joinsOf_31 rfl ?_
    refine s_cSL (rest := []) (met_X12_part l v1 v5 v3) mth_X12_part rfl dX12_joinsOf_32 w_1625 w_1626 ⟨Nat.le_of_ble_eq_true rfl, Nat.le_of_ble_eq_true rfl⟩ (Nat.le_of_ble_eq_true rfl) rfl (fun x15 => ?_)
    refine s_lstore (lv' := [(8, .inr (.inl x15)), (6, .inr (.inl x14)), (0, .inr (.inr v0)), (1, .inr (.inl v1)), (3, .inl v3), (4, .inl v4), (5, .inl v5)]) dX12_joinsOf_35 (Nat.le_of_ble_eq_true rfl) rfl ?_
    refine s_aloadn (j := 2) dX12_joinsOf_37 rfl ?_
    refine s_lload (j := 1) dX12_joinsOf_38 rfl ?_
    refine s_cVI (rest := []) (met_X12_inJoins l v0 x14) cls_13 mth_X12_inJoins rfl dX12_joinsOf_40 w_1647 w_1649 wp_55 ⟨Nat.le_of_ble_eq_true rfl, Nat.le_of_ble_eq_true rfl⟩ (Nat.le_of_ble_eq_true rfl) rfl (fun x16 => ?_)
    refine s_if_eq (tgt := 50) dX12_joinsOf_43 (by decide) ?_ ?_
    · refine s_iconst (v := 0) dX12_joinsOf_50 (by decide) ?_
      exact Sim.sub [2, 3, 4, 5, 6, 1, 0] rfl (sim_X12_joinsOf_b51 l r11 hr11 v0 v1 v3 v4 v5 x14 x15 0)
    · refine s_iconst (v := 1) dX12_joinsOf_46 (by decide) ?_
      refine s_goto (tgt := 51) dX12_joinsOf_47 (by decide) ?_
      exact Sim.sub [2, 3, 4, 5, 6, 1, 0] rfl (sim_X12_joinsOf_b51 l r11 hr11 v0 v1 v3 v4 v5 x14 x15 1)
theorem sim_X12_joinsOf_l11 (l : Launch) : ∀ (n : Nat) (v0 : Option Nat) (v1 : Int64) (v3 : Int32) (v4 : Int32) (v5 : Int32), Sim (M_X12_joinsOf l) (zFin zcI) 11 [(0, .inr (.inr v0)), (1, .inr (.inl v1)), (3, .inl v3), (4, .inl v4), (5, .inl v5)] [] (p_X12_joinsOf_l11 n v0 v1 v3 v4 v5)
  | 0, _, _, _, _, _ => s_fl
  | n + 1, v0, v1, v3, v4, v5 => sim_X12_joinsOf_c11 l (p_X12_joinsOf_l11 n) (sim_X12_joinsOf_l11 l n) v0 v1 v3 v4 v5
set_option maxRecDepth 20000 in
theorem sim_X12_joinsOf (l : Launch) (v0 : Option Nat) (v1 : Int64) : Sim (M_X12_joinsOf l) (zFin zcI) 0 [(0, .inr (.inr v0)), (1, .inr (.inl v1))] [] (p_X12_joinsOf v0 v1) := by
  unfold p_X12_joinsOf
  refine s_lloadn (j := 1) dX12_joinsOf_0 rfl ?_
  refine s_cSI (rest := []) (met_X12_lengthOf l v1) mth_X12_lengthOf rfl dX12_joinsOf_1 w_1538 w_1539 ⟨Nat.le_of_ble_eq_true rfl, Nat.le_of_ble_eq_true rfl⟩ (Nat.le_of_ble_eq_true rfl) rfl (fun x17 => ?_)
  refine s_istoren (lv' := [(3, .inl x17), (0, .inr (.inr v0)), (1, .inr (.inl v1))]) dX12_joinsOf_4 (Nat.le_of_ble_eq_true rfl) rfl ?_
  refine s_iconst (v := 0) dX12_joinsOf_5 (by decide) ?_
  refine s_istore (lv' := [(4, .inl 0), (3, .inl x17), (0, .inr (.inr v0)), (1, .inr (.inl v1))]) dX12_joinsOf_6 (Nat.le_of_ble_eq_true rfl) rfl ?_
  refine s_iconst (v := 2) dX12_joinsOf_8 (by decide) ?_
  refine s_istore (lv' := [(5, .inl 2), (4, .inl 0), (3, .inl x17), (0, .inr (.inr v0)), (1, .inr (.inl v1))]) dX12_joinsOf_9 (Nat.le_of_ble_eq_true rfl) rfl ?_
  exact Sim.sub [3, 4, 2, 1, 0] rfl (sim_X12_joinsOf_l11 l zFuel v0 v1 x17 0 2)
theorem met_X12_joinsOf (l : Launch) (v0 : Option Nat) (v1 : Int64) : zMet l yX12_joinsOf cX12_joinsOf 16 (some .int) 3 68 [.inr (.inr v0), .inr (.inl v1)] zcI (p_X12_joinsOf v0 v1) :=
  zMet.of (by decide +kernel) (Nat.le_of_ble_eq_true rfl) rfl (sim_X12_joinsOf l v0 v1)
def p_X12_readingsOf_b40 (v0 : Option Nat) (v1 : Int64) (s0 : Int32) : ZM Int32 :=
  z_b (z_gR 13 37 v0) fun x1 => z_b (z_vr 13 v0 (p_X12_slotOf v0 v1)) fun x2 => z_b (z_aI x1 x2) fun x3 => z_b (z_vr 13 v0 (p_X12_joinsOf v0 v1)) fun x4 => z_rt ((s0 ||| x3) ||| x4)
def p_X12_readingsOf (v0 : Option Nat) (v1 : Int64) : ZM Int32 :=
  if (lg_cmp v1 0) = 0 then (z_rt 0)
  else (z_b (z_vr 13 v0 (p_X12_barOf v0 v1)) fun x5 => if x5 = (-1) then (z_b (z_vr 13 v0 (p_X12_ownOf v0 v1)) fun x6 => if ¬ x6 = (-1) then (z_b (z_gR 13 19 v0) fun x7 => z_b (z_aI x7 x6) fun x8 => p_X12_readingsOf_b40 v0 v1 ((1 : Int32) <<< (x8 &&& 31)))
  else (p_X12_readingsOf_b40 v0 v1 0))
  else (z_rt 0))
abbrev M_X12_readingsOf (l : Launch) : ZMe := (l, "SpellScribeModel", cX12_readingsOf, 4, 4, 103, (some .int), "readingsOf", [])
set_option maxRecDepth 20000 in
theorem sim_X12_readingsOf_b40 (l : Launch) (v0 : Option Nat) (v1 : Int64) (s0 : Int32) : Sim (M_X12_readingsOf l) (zFin zcI) 40 [(0, .inr (.inr v0)), (1, .inr (.inl v1))] [.inl s0] (p_X12_readingsOf_b40 v0 v1 s0) := by
  unfold p_X12_readingsOf_b40
  refine s_aloadn (j := 0) dX12_readingsOf_40 rfl ?_
  refine s_getR (k := 37) cls_13 (by decide) rfl dX12_readingsOf_41 w_1385 rfl (fun x1 => ?_)
  refine s_aloadn (j := 0) dX12_readingsOf_44 rfl ?_
  refine s_lloadn (j := 1) dX12_readingsOf_45 rfl ?_
  refine s_cVI (rest := [.inr (.inr x1), .inl s0]) (met_X12_slotOf l v0 v1) cls_13 mth_X12_slotOf rfl dX12_readingsOf_46 w_1605 w_1607 wp_49 ⟨Nat.le_of_ble_eq_true rfl, Nat.le_of_ble_eq_true rfl⟩ (Nat.le_of_ble_eq_true rfl) rfl (fun x2 => ?_)
  refine s_iald dX12_readingsOf_49 (fun x3 => ?_)
  refine s_ior dX12_readingsOf_50 ?_
  refine s_aloadn (j := 0) dX12_readingsOf_51 rfl ?_
  refine s_lloadn (j := 1) dX12_readingsOf_52 rfl ?_
  refine s_cVI (rest := [.inl (s0 ||| x3)]) (met_X12_joinsOf l v0 v1) cls_13 mth_X12_joinsOf rfl dX12_readingsOf_53 w_1643 w_1645 wp_54 ⟨Nat.le_of_ble_eq_true rfl, Nat.le_of_ble_eq_true rfl⟩ (Nat.le_of_ble_eq_true rfl) rfl (fun x4 => ?_)
  refine s_ior dX12_readingsOf_56 ?_
  exact s_iret dX12_readingsOf_57 rfl
set_option maxRecDepth 20000 in
theorem sim_X12_readingsOf (l : Launch) (v0 : Option Nat) (v1 : Int64) : Sim (M_X12_readingsOf l) (zFin zcI) 0 [(0, .inr (.inr v0)), (1, .inr (.inl v1))] [] (p_X12_readingsOf v0 v1) := by
  unfold p_X12_readingsOf
  refine s_lloadn (j := 1) dX12_readingsOf_0 rfl ?_
  refine s_lconst (v := 0) dX12_readingsOf_1 (by decide) ?_
  refine s_lcmp dX12_readingsOf_2 ?_
  refine s_if_eq (tgt := 15) dX12_readingsOf_3 (by decide) ?_ ?_
  · refine s_iconst (v := 0) dX12_readingsOf_15 (by decide) ?_
    exact s_iret dX12_readingsOf_16 rfl
  · refine s_aloadn (j := 0) dX12_readingsOf_6 rfl ?_
    refine s_lloadn (j := 1) dX12_readingsOf_7 rfl ?_
    refine s_cVI (rest := []) (met_X12_barOf l v0 v1) cls_13 mth_X12_barOf rfl dX12_readingsOf_8 w_1573 w_1575 wp_43 ⟨Nat.le_of_ble_eq_true rfl, Nat.le_of_ble_eq_true rfl⟩ (Nat.le_of_ble_eq_true rfl) rfl (fun x5 => ?_)
    refine s_iconst (v := (-1)) dX12_readingsOf_11 (by decide) ?_
    refine s_icmp_eq (tgt := 17) dX12_readingsOf_12 (by decide) ?_ ?_
    · refine s_aloadn (j := 0) dX12_readingsOf_17 rfl ?_
      refine s_lloadn (j := 1) dX12_readingsOf_18 rfl ?_
      refine s_cVI (rest := []) (met_X12_ownOf l v0 v1) cls_13 mth_X12_ownOf rfl dX12_readingsOf_19 w_1565 w_1567 wp_41 ⟨Nat.le_of_ble_eq_true rfl, Nat.le_of_ble_eq_true rfl⟩ (Nat.le_of_ble_eq_true rfl) rfl (fun x6 => ?_)
      refine s_istoren (lv' := [(3, .inl x6), (0, .inr (.inr v0)), (1, .inr (.inl v1))]) dX12_readingsOf_22 (Nat.le_of_ble_eq_true rfl) rfl ?_
      refine s_iloadn (j := 0) dX12_readingsOf_23 rfl ?_
      refine s_iconst (v := (-1)) dX12_readingsOf_24 (by decide) ?_
      refine s_icmp_ne (tgt := 32) dX12_readingsOf_25 (by decide) ?_ ?_
      · refine s_iconst (v := 1) dX12_readingsOf_32 (by decide) ?_
        refine s_aloadn (j := 1) dX12_readingsOf_33 rfl ?_
        refine s_getR (k := 19) cls_13 (by decide) rfl dX12_readingsOf_34 w_1367 rfl (fun x7 => ?_)
        refine s_iloadn (j := 0) dX12_readingsOf_37 rfl ?_
        refine s_iald dX12_readingsOf_38 (fun x8 => ?_)
        refine s_ishl dX12_readingsOf_39 ?_
        exact Sim.sub [1, 2] rfl (sim_X12_readingsOf_b40 l v0 v1 ((1 : Int32) <<< (x8 &&& 31)))
      · refine s_iconst (v := 0) dX12_readingsOf_28 (by decide) ?_
        refine s_goto (tgt := 40) dX12_readingsOf_29 (by decide) ?_
        exact Sim.sub [1, 2] rfl (sim_X12_readingsOf_b40 l v0 v1 0)
    · refine s_iconst (v := 0) dX12_readingsOf_15 (by decide) ?_
      exact s_iret dX12_readingsOf_16 rfl
theorem met_X12_readingsOf (l : Launch) (v0 : Option Nat) (v1 : Int64) : zMet l yX12_readingsOf cX12_readingsOf 4 (some .int) 4 103 [.inr (.inr v0), .inr (.inl v1)] zcI (p_X12_readingsOf v0 v1) :=
  zMet.of (by decide +kernel) (Nat.le_of_ble_eq_true rfl) rfl (sim_X12_readingsOf l v0 v1)
def p_X12_owns_b43 (v0 : Option Nat) (v1 : Int64) (v3 : Int32) (v4 : Int32) (s0 : Option Nat) (s1 : Int32) (s2 : Int32) : ZM Unit :=
  z_b (z_pI 13 17 s0 (s1 + s2)) fun _ => z_b (z_gR 13 18 v0) fun x1 => z_b (z_sL x1 v4 v1) fun _ => z_b (z_gR 13 19 v0) fun x2 => z_b (z_sI x2 v4 v3) fun _ => z_rt ()
def p_X12_owns_b22 (v0 : Option Nat) (v1 : Int64) (v3 : Int32) (s0 : Int32) : ZM Unit :=
  z_b (z_gI 13 17 v0) fun x3 => z_b (z_gI 13 17 v0) fun x4 => if ¬ s0 = x4 then (p_X12_owns_b43 v0 v1 v3 s0 v0 x3 0)
  else (p_X12_owns_b43 v0 v1 v3 s0 v0 x3 1)
def p_X12_owns (v0 : Option Nat) (v1 : Int64) (v3 : Int32) : ZM Unit :=
  z_b (z_vr 13 v0 (p_X12_ownOf v0 v1)) fun x5 => if ¬ x5 = (-1) then (p_X12_owns_b22 v0 v1 v3 x5)
  else (z_b (z_gI 13 17 v0) fun x6 => p_X12_owns_b22 v0 v1 v3 x6)
abbrev M_X12_owns (l : Launch) : ZMe := (l, "SpellScribeModel", cX12_owns, 5, 1, 23, none, "owns", [])
set_option maxRecDepth 20000 in
theorem sim_X12_owns_b43 (l : Launch) (v0 : Option Nat) (v1 : Int64) (v3 : Int32) (v4 : Int32) (s0 : Option Nat) (s1 : Int32) (s2 : Int32) : Sim (M_X12_owns l) (zFin zcV) 43 [(0, .inr (.inr v0)), (1, .inr (.inl v1)), (3, .inl v3), (4, .inl v4)] [.inl s2, .inl s1, .inr (.inr s0)] (p_X12_owns_b43 v0 v1 v3 v4 s0 s1 s2) := by
  unfold p_X12_owns_b43
  refine s_iadd dX12_owns_43 ?_
  refine s_putI (k := 17) cls_13 (by decide) rfl rfl rfl dX12_owns_44 w_1365 rfl ?_
  refine s_aloadn (j := 0) dX12_owns_47 rfl ?_
  refine s_getR (k := 18) cls_13 (by decide) rfl dX12_owns_48 w_1366 rfl (fun x1 => ?_)
  refine s_iload (j := 3) dX12_owns_51 rfl ?_
  refine s_lloadn (j := 1) dX12_owns_53 rfl ?_
  refine s_last dX12_owns_54 ?_
  refine s_aloadn (j := 0) dX12_owns_55 rfl ?_
  refine s_getR (k := 19) cls_13 (by decide) rfl dX12_owns_56 w_1367 rfl (fun x2 => ?_)
  refine s_iload (j := 3) dX12_owns_59 rfl ?_
  refine s_iloadn (j := 2) dX12_owns_61 rfl ?_
  refine s_iast dX12_owns_62 ?_
  exact s_vret dX12_owns_63 rfl
set_option maxRecDepth 20000 in
theorem sim_X12_owns_b22 (l : Launch) (v0 : Option Nat) (v1 : Int64) (v3 : Int32) (s0 : Int32) : Sim (M_X12_owns l) (zFin zcV) 22 [(0, .inr (.inr v0)), (1, .inr (.inl v1)), (3, .inl v3)] [.inl s0] (p_X12_owns_b22 v0 v1 v3 s0) := by
  unfold p_X12_owns_b22
  refine s_istore (lv' := [(4, .inl s0), (0, .inr (.inr v0)), (1, .inr (.inl v1)), (3, .inl v3)]) dX12_owns_22 (Nat.le_of_ble_eq_true rfl) rfl ?_
  refine s_aloadn (j := 1) dX12_owns_24 rfl ?_
  refine s_dupR dX12_owns_25 ?_
  refine s_getI (k := 17) cls_13 (by decide) rfl dX12_owns_26 w_1365 rfl (fun x3 => ?_)
  refine s_iload (j := 0) dX12_owns_29 rfl ?_
  refine s_aloadn (j := 1) dX12_owns_31 rfl ?_
  refine s_getI (k := 17) cls_13 (by decide) rfl dX12_owns_32 w_1365 rfl (fun x4 => ?_)
  refine s_icmp_ne (tgt := 42) dX12_owns_35 (by decide) ?_ ?_
  · refine s_iconst (v := 0) dX12_owns_42 (by decide) ?_
    exact Sim.sub [1, 2, 3, 0] rfl (sim_X12_owns_b43 l v0 v1 v3 s0 v0 x3 0)
  · refine s_iconst (v := 1) dX12_owns_38 (by decide) ?_
    refine s_goto (tgt := 43) dX12_owns_39 (by decide) ?_
    exact Sim.sub [1, 2, 3, 0] rfl (sim_X12_owns_b43 l v0 v1 v3 s0 v0 x3 1)
set_option maxRecDepth 20000 in
theorem sim_X12_owns (l : Launch) (v0 : Option Nat) (v1 : Int64) (v3 : Int32) : Sim (M_X12_owns l) (zFin zcV) 0 [(0, .inr (.inr v0)), (1, .inr (.inl v1)), (3, .inl v3)] [] (p_X12_owns v0 v1 v3) := by
  unfold p_X12_owns
  refine s_aloadn (j := 0) dX12_owns_0 rfl ?_
  refine s_lloadn (j := 1) dX12_owns_1 rfl ?_
  refine s_cVI (rest := []) (met_X12_ownOf l v0 v1) cls_13 mth_X12_ownOf rfl dX12_owns_2 w_1565 w_1567 wp_41 ⟨Nat.le_of_ble_eq_true rfl, Nat.le_of_ble_eq_true rfl⟩ (Nat.le_of_ble_eq_true rfl) rfl (fun x5 => ?_)
  refine s_istore (lv' := [(4, .inl x5), (0, .inr (.inr v0)), (1, .inr (.inl v1)), (3, .inl v3)]) dX12_owns_5 (Nat.le_of_ble_eq_true rfl) rfl ?_
  refine s_iload (j := 0) dX12_owns_7 rfl ?_
  refine s_iconst (v := (-1)) dX12_owns_9 (by decide) ?_
  refine s_icmp_ne (tgt := 20) dX12_owns_10 (by decide) ?_ ?_
  · refine s_iload (j := 0) dX12_owns_20 rfl ?_
    exact Sim.sub [1, 2, 3] rfl (sim_X12_owns_b22 l v0 v1 v3 x5)
  · refine s_aloadn (j := 1) dX12_owns_13 rfl ?_
    refine s_getI (k := 17) cls_13 (by decide) rfl dX12_owns_14 w_1365 rfl (fun x6 => ?_)
    refine s_goto (tgt := 22) dX12_owns_17 (by decide) ?_
    exact Sim.sub [1, 2, 3] rfl (sim_X12_owns_b22 l v0 v1 v3 x6)
theorem met_X12_owns (l : Launch) (v0 : Option Nat) (v1 : Int64) (v3 : Int32) : zMet l yX12_owns cX12_owns 5 none 1 23 [.inr (.inr v0), .inr (.inl v1), .inl v3] zcV (p_X12_owns v0 v1 v3) :=
  zMet.of (by decide +kernel) (Nat.le_of_ble_eq_true rfl) rfl (sim_X12_owns l v0 v1 v3)
def p_X12_own_b122 (v0 : Option Nat) : ZM Int32 :=
  z_b (z_pL 13 0 v0 0) fun _ => z_b (z_gI 13 17 v0) fun x1 => z_rt x1
def p_X12_own_b58 (v0 : Option Nat) (v1 : Int32) (v2 : Int32) (s0 : Option Nat) (s1 : Int32) : ZM Int32 :=
  z_b (z_pI 13 58 s0 s1) fun _ => z_b (z_gI 13 58 v0) fun x2 => if x2 ≤ 0 then (z_b (z_gL 13 0 v0) fun x3 => z_b (z_vr 13 v0 (p_X12_owns v0 x3 ((2 * v1) + v2))) fun _ => z_b (z_gL 13 0 v0) fun x4 => z_b (z_vr 13 v0 (p_X12_barOf v0 x4)) fun x5 => if x5 = (-1) then (p_X12_own_b122 v0)
  else (z_b (z_gI 13 20 v0) fun x6 => z_b (z_pI 13 20 v0 (x6 - 1)) fun _ => z_b (z_gR 13 21 v0) fun x7 => z_b (z_gR 13 21 v0) fun x8 => z_b (z_gI 13 20 v0) fun x9 => z_b (z_aL x8 x9) fun x10 => z_b (z_sL x7 x5 x10) fun _ => p_X12_own_b122 v0))
  else (z_rt 0)
def p_X12_own_b19 (v0 : Option Nat) (v1 : Int32) (v2 : Int32) (s0 : Option Nat) : ZM Int32 :=
  p_X12_own_b58 v0 v1 v2 s0 1
def p_X12_own_b53 (v0 : Option Nat) (v1 : Int32) (v2 : Int32) (s0 : Option Nat) : ZM Int32 :=
  p_X12_own_b58 v0 v1 v2 s0 2
def p_X12_own_b57 (v0 : Option Nat) (v1 : Int32) (v2 : Int32) (s0 : Option Nat) : ZM Int32 :=
  p_X12_own_b58 v0 v1 v2 s0 0
def p_X12_own (v0 : Option Nat) (v1 : Int32) (v2 : Int32) : ZM Int32 :=
  z_b (p_X12_in v1 0 3) fun x11 => if x11 = 0 then (p_X12_own_b19 v0 v1 v2 v0)
  else (z_b (p_X12_in v2 0 1) fun x12 => if ¬ x12 = 0 then (z_b (z_gL 13 0 v0) fun x13 => if (lg_cmp x13 0) = 0 then (p_X12_own_b53 v0 v1 v2 v0)
  else (z_b (z_gI 13 17 v0) fun x14 => if ¬ x14 = 10 then (p_X12_own_b57 v0 v1 v2 v0)
  else (z_b (z_gL 13 0 v0) fun x15 => z_b (z_vr 13 v0 (p_X12_ownOf v0 x15)) fun x16 => if ¬ x16 = (-1) then (p_X12_own_b57 v0 v1 v2 v0)
  else (p_X12_own_b53 v0 v1 v2 v0))))
  else (p_X12_own_b19 v0 v1 v2 v0))
abbrev M_X12_own (l : Launch) : ZMe := (l, "SpellScribeModel", cX12_own, 4, 2, 47, (some .int), "own", [])
set_option maxRecDepth 20000 in
theorem sim_X12_own_b122 (l : Launch) (v0 : Option Nat) : Sim (M_X12_own l) (zFin zcI) 122 [(0, .inr (.inr v0))] [] (p_X12_own_b122 v0) := by
  unfold p_X12_own_b122
  refine s_aloadn (j := 0) dX12_own_122 rfl ?_
  refine s_lconst (v := 0) dX12_own_123 (by decide) ?_
  refine s_putL (k := 0) cls_13 (by decide) rfl rfl rfl dX12_own_124 w_1348 rfl ?_
  refine s_aloadn (j := 0) dX12_own_127 rfl ?_
  refine s_getI (k := 17) cls_13 (by decide) rfl dX12_own_128 w_1365 rfl (fun x1 => ?_)
  exact s_iret dX12_own_131 rfl
set_option maxRecDepth 20000 in
theorem sim_X12_own_b58 (l : Launch) (v0 : Option Nat) (v1 : Int32) (v2 : Int32) (s0 : Option Nat) (s1 : Int32) : Sim (M_X12_own l) (zFin zcI) 58 [(0, .inr (.inr v0)), (1, .inl v1), (2, .inl v2)] [.inl s1, .inr (.inr s0)] (p_X12_own_b58 v0 v1 v2 s0 s1) := by
  unfold p_X12_own_b58
  refine s_putI (k := 58) cls_13 (by decide) rfl rfl rfl dX12_own_58 w_1406 rfl ?_
  refine s_aloadn (j := 0) dX12_own_61 rfl ?_
  refine s_getI (k := 58) cls_13 (by decide) rfl dX12_own_62 w_1406 rfl (fun x2 => ?_)
  refine s_if_le (tgt := 70) dX12_own_65 (by decide) ?_ ?_
  · refine s_aloadn (j := 0) dX12_own_70 rfl ?_
    refine s_aloadn (j := 0) dX12_own_71 rfl ?_
    refine s_getL (k := 0) cls_13 (by decide) rfl dX12_own_72 w_1348 rfl (fun x3 => ?_)
    refine s_iconst (v := 2) dX12_own_75 (by decide) ?_
    refine s_iloadn (j := 1) dX12_own_76 rfl ?_
    refine s_imul dX12_own_77 ?_
    refine s_iloadn (j := 2) dX12_own_78 rfl ?_
    refine s_iadd dX12_own_79 ?_
    refine s_cVV (rest := []) (met_X12_owns l v0 x3 ((2 * v1) + v2)) cls_13 mth_X12_owns rfl dX12_own_80 w_1569 w_1571 wp_42 ⟨Nat.le_of_ble_eq_true rfl, Nat.le_of_ble_eq_true rfl⟩ (Nat.le_of_ble_eq_true rfl) rfl ?_
    refine s_aloadn (j := 0) dX12_own_83 rfl ?_
    refine s_aloadn (j := 0) dX12_own_84 rfl ?_
    refine s_getL (k := 0) cls_13 (by decide) rfl dX12_own_85 w_1348 rfl (fun x4 => ?_)
    refine s_cVI (rest := []) (met_X12_barOf l v0 x4) cls_13 mth_X12_barOf rfl dX12_own_88 w_1573 w_1575 wp_43 ⟨Nat.le_of_ble_eq_true rfl, Nat.le_of_ble_eq_true rfl⟩ (Nat.le_of_ble_eq_true rfl) rfl (fun x5 => ?_)
    refine s_istoren (lv' := [(3, .inl x5), (0, .inr (.inr v0)), (1, .inl v1), (2, .inl v2)]) dX12_own_91 (Nat.le_of_ble_eq_true rfl) rfl ?_
    refine s_iloadn (j := 0) dX12_own_92 rfl ?_
    refine s_iconst (v := (-1)) dX12_own_93 (by decide) ?_
    refine s_icmp_eq (tgt := 122) dX12_own_94 (by decide) ?_ ?_
    · exact Sim.sub [1] rfl (sim_X12_own_b122 l v0)
    · refine s_aloadn (j := 1) dX12_own_97 rfl ?_
      refine s_dupR dX12_own_98 ?_
      refine s_getI (k := 20) cls_13 (by decide) rfl dX12_own_99 w_1368 rfl (fun x6 => ?_)
      refine s_iconst (v := 1) dX12_own_102 (by decide) ?_
      refine s_isub dX12_own_103 ?_
      refine s_putI (k := 20) cls_13 (by decide) rfl rfl rfl dX12_own_104 w_1368 rfl ?_
      refine s_aloadn (j := 1) dX12_own_107 rfl ?_
      refine s_getR (k := 21) cls_13 (by decide) rfl dX12_own_108 w_1369 rfl (fun x7 => ?_)
      refine s_iloadn (j := 0) dX12_own_111 rfl ?_
      refine s_aloadn (j := 1) dX12_own_112 rfl ?_
      refine s_getR (k := 21) cls_13 (by decide) rfl dX12_own_113 w_1369 rfl (fun x8 => ?_)
      refine s_aloadn (j := 1) dX12_own_116 rfl ?_
      refine s_getI (k := 20) cls_13 (by decide) rfl dX12_own_117 w_1368 rfl (fun x9 => ?_)
      refine s_lald dX12_own_120 (fun x10 => ?_)
      refine s_last dX12_own_121 ?_
      exact Sim.sub [1] rfl (sim_X12_own_b122 l v0)
  · refine s_iconst (v := 0) dX12_own_68 (by decide) ?_
    exact s_iret dX12_own_69 rfl
set_option maxRecDepth 20000 in
theorem sim_X12_own_b19 (l : Launch) (v0 : Option Nat) (v1 : Int32) (v2 : Int32) (s0 : Option Nat) : Sim (M_X12_own l) (zFin zcI) 19 [(0, .inr (.inr v0)), (1, .inl v1), (2, .inl v2)] [.inr (.inr s0)] (p_X12_own_b19 v0 v1 v2 s0) := by
  unfold p_X12_own_b19
  refine s_iconst (v := 1) dX12_own_19 (by decide) ?_
  refine s_goto (tgt := 58) dX12_own_20 (by decide) ?_
  exact Sim.sub [0, 1, 2] rfl (sim_X12_own_b58 l v0 v1 v2 s0 1)
set_option maxRecDepth 20000 in
theorem sim_X12_own_b53 (l : Launch) (v0 : Option Nat) (v1 : Int32) (v2 : Int32) (s0 : Option Nat) : Sim (M_X12_own l) (zFin zcI) 53 [(0, .inr (.inr v0)), (1, .inl v1), (2, .inl v2)] [.inr (.inr s0)] (p_X12_own_b53 v0 v1 v2 s0) := by
  unfold p_X12_own_b53
  refine s_iconst (v := 2) dX12_own_53 (by decide) ?_
  refine s_goto (tgt := 58) dX12_own_54 (by decide) ?_
  exact Sim.sub [0, 1, 2] rfl (sim_X12_own_b58 l v0 v1 v2 s0 2)
set_option maxRecDepth 20000 in
theorem sim_X12_own_b57 (l : Launch) (v0 : Option Nat) (v1 : Int32) (v2 : Int32) (s0 : Option Nat) : Sim (M_X12_own l) (zFin zcI) 57 [(0, .inr (.inr v0)), (1, .inl v1), (2, .inl v2)] [.inr (.inr s0)] (p_X12_own_b57 v0 v1 v2 s0) := by
  unfold p_X12_own_b57
  refine s_iconst (v := 0) dX12_own_57 (by decide) ?_
  exact Sim.sub [0, 1, 2] rfl (sim_X12_own_b58 l v0 v1 v2 s0 0)
set_option maxRecDepth 20000 in
theorem sim_X12_own (l : Launch) (v0 : Option Nat) (v1 : Int32) (v2 : Int32) : Sim (M_X12_own l) (zFin zcI) 0 [(0, .inr (.inr v0)), (1, .inl v1), (2, .inl v2)] [] (p_X12_own v0 v1 v2) := by
  unfold p_X12_own
  refine s_aloadn (j := 0) dX12_own_0 rfl ?_
  refine s_iloadn (j := 1) dX12_own_1 rfl ?_
  refine s_iconst (v := 0) dX12_own_2 (by decide) ?_
  refine s_iconst (v := 3) dX12_own_3 (by decide) ?_
  refine s_cSI (rest := [.inr (.inr v0)]) (met_X12_in l v1 0 3) mth_X12_in rfl dX12_own_4 w_1535 w_1536 ⟨Nat.le_of_ble_eq_true rfl, Nat.le_of_ble_eq_true rfl⟩ (Nat.le_of_ble_eq_true rfl) rfl (fun x11 => ?_)
  refine s_if_eq (tgt := 19) dX12_own_7 (by decide) ?_ ?_
  · exact Sim.sub [0, 1, 2] rfl (sim_X12_own_b19 l v0 v1 v2 v0)
  · refine s_iloadn (j := 2) dX12_own_10 rfl ?_
    refine s_iconst (v := 0) dX12_own_11 (by decide) ?_
    refine s_iconst (v := 1) dX12_own_12 (by decide) ?_
    refine s_cSI (rest := [.inr (.inr v0)]) (met_X12_in l v2 0 1) mth_X12_in rfl dX12_own_13 w_1535 w_1536 ⟨Nat.le_of_ble_eq_true rfl, Nat.le_of_ble_eq_true rfl⟩ (Nat.le_of_ble_eq_true rfl) rfl (fun x12 => ?_)
    refine s_if_ne (tgt := 23) dX12_own_16 (by decide) ?_ ?_
    · refine s_aloadn (j := 0) dX12_own_23 rfl ?_
      refine s_getL (k := 0) cls_13 (by decide) rfl dX12_own_24 w_1348 rfl (fun x13 => ?_)
      refine s_lconst (v := 0) dX12_own_27 (by decide) ?_
      refine s_lcmp dX12_own_28 ?_
      refine s_if_eq (tgt := 53) dX12_own_29 (by decide) ?_ ?_
      · exact Sim.sub [0, 1, 2] rfl (sim_X12_own_b53 l v0 v1 v2 v0)
      · refine s_aloadn (j := 0) dX12_own_32 rfl ?_
        refine s_getI (k := 17) cls_13 (by decide) rfl dX12_own_33 w_1365 rfl (fun x14 => ?_)
        refine s_bipush (v := 10) dX12_own_36 (by decide) ?_
        refine s_icmp_ne (tgt := 57) dX12_own_38 (by decide) ?_ ?_
        · exact Sim.sub [0, 1, 2] rfl (sim_X12_own_b57 l v0 v1 v2 v0)
        · refine s_aloadn (j := 0) dX12_own_41 rfl ?_
          refine s_aloadn (j := 0) dX12_own_42 rfl ?_
          refine s_getL (k := 0) cls_13 (by decide) rfl dX12_own_43 w_1348 rfl (fun x15 => ?_)
          refine s_cVI (rest := [.inr (.inr v0)]) (met_X12_ownOf l v0 x15) cls_13 mth_X12_ownOf rfl dX12_own_46 w_1565 w_1567 wp_41 ⟨Nat.le_of_ble_eq_true rfl, Nat.le_of_ble_eq_true rfl⟩ (Nat.le_of_ble_eq_true rfl) rfl (fun x16 => ?_)
          refine s_iconst (v := (-1)) dX12_own_49 (by decide) ?_
          refine s_icmp_ne (tgt := 57) dX12_own_50 (by decide) ?_ ?_
          · exact Sim.sub [0, 1, 2] rfl (sim_X12_own_b57 l v0 v1 v2 v0)
          · exact Sim.sub [0, 1, 2] rfl (sim_X12_own_b53 l v0 v1 v2 v0)
    · exact Sim.sub [0, 1, 2] rfl (sim_X12_own_b19 l v0 v1 v2 v0)
theorem met_X12_own (l : Launch) (v0 : Option Nat) (v1 : Int32) (v2 : Int32) : zMet l yX12_own cX12_own 4 (some .int) 2 47 [.inr (.inr v0), .inl v1, .inl v2] zcI (p_X12_own v0 v1 v2) :=
  zMet.of (by decide +kernel) (Nat.le_of_ble_eq_true rfl) rfl (sim_X12_own l v0 v1 v2)
def p_X12_bar_b137 (v0 : Option Nat) : ZM Int32 :=
  z_b (z_pL 13 0 v0 0) fun _ => z_b (z_gI 13 20 v0) fun x1 => z_rt x1
def p_X12_bar_b83 (v0 : Option Nat) : ZM Int32 :=
  z_b (z_gL 13 0 v0) fun x2 => z_b (z_vr 13 v0 (p_X12_ownOf v0 x2)) fun x3 => if x3 = (-1) then (p_X12_bar_b137 v0)
  else (z_b (z_gI 13 17 v0) fun x4 => z_b (z_pI 13 17 v0 (x4 - 1)) fun _ => z_b (z_gR 13 18 v0) fun x5 => z_b (z_gR 13 18 v0) fun x6 => z_b (z_gI 13 17 v0) fun x7 => z_b (z_aL x6 x7) fun x8 => z_b (z_sL x5 x3 x8) fun _ => z_b (z_gR 13 19 v0) fun x9 => z_b (z_gR 13 19 v0) fun x10 => z_b (z_gI 13 17 v0) fun x11 => z_b (z_aI x10 x11) fun x12 => z_b (z_sI x9 x3 x12) fun _ => p_X12_bar_b137 v0)
def p_X12_bar_b36 (v0 : Option Nat) (s0 : Option Nat) (s1 : Int32) : ZM Int32 :=
  z_b (z_pI 13 58 s0 s1) fun _ => z_b (z_gI 13 58 v0) fun x13 => if x13 ≤ 0 then (z_b (z_gL 13 0 v0) fun x14 => z_b (z_vr 13 v0 (p_X12_barOf v0 x14)) fun x15 => if ¬ x15 = (-1) then (p_X12_bar_b83 v0)
  else (z_b (z_gR 13 21 v0) fun x16 => z_b (z_gI 13 20 v0) fun x17 => z_b (z_gL 13 0 v0) fun x18 => z_b (z_sL x16 x17 x18) fun _ => z_b (z_gI 13 20 v0) fun x19 => z_b (z_pI 13 20 v0 (x19 + 1)) fun _ => p_X12_bar_b83 v0))
  else (z_rt 0)
def p_X12_bar_b31 (v0 : Option Nat) (s0 : Option Nat) : ZM Int32 :=
  p_X12_bar_b36 v0 s0 1
def p_X12_bar_b35 (v0 : Option Nat) (s0 : Option Nat) : ZM Int32 :=
  p_X12_bar_b36 v0 s0 0
def p_X12_bar (v0 : Option Nat) : ZM Int32 :=
  z_b (z_gL 13 0 v0) fun x20 => if (lg_cmp x20 0) = 0 then (p_X12_bar_b31 v0 v0)
  else (z_b (z_gI 13 20 v0) fun x21 => if ¬ x21 = 10 then (p_X12_bar_b35 v0 v0)
  else (z_b (z_gL 13 0 v0) fun x22 => z_b (z_vr 13 v0 (p_X12_barOf v0 x22)) fun x23 => if ¬ x23 = (-1) then (p_X12_bar_b35 v0 v0)
  else (p_X12_bar_b31 v0 v0)))
abbrev M_X12_bar (l : Launch) : ZMe := (l, "SpellScribeModel", cX12_bar, 2, 1, 23, (some .int), "bar", [])
set_option maxRecDepth 20000 in
theorem sim_X12_bar_b137 (l : Launch) (v0 : Option Nat) : Sim (M_X12_bar l) (zFin zcI) 137 [(0, .inr (.inr v0))] [] (p_X12_bar_b137 v0) := by
  unfold p_X12_bar_b137
  refine s_aloadn (j := 0) dX12_bar_137 rfl ?_
  refine s_lconst (v := 0) dX12_bar_138 (by decide) ?_
  refine s_putL (k := 0) cls_13 (by decide) rfl rfl rfl dX12_bar_139 w_1348 rfl ?_
  refine s_aloadn (j := 0) dX12_bar_142 rfl ?_
  refine s_getI (k := 20) cls_13 (by decide) rfl dX12_bar_143 w_1368 rfl (fun x1 => ?_)
  exact s_iret dX12_bar_146 rfl
set_option maxRecDepth 20000 in
theorem sim_X12_bar_b83 (l : Launch) (v0 : Option Nat) : Sim (M_X12_bar l) (zFin zcI) 83 [(0, .inr (.inr v0))] [] (p_X12_bar_b83 v0) := by
  unfold p_X12_bar_b83
  refine s_aloadn (j := 0) dX12_bar_83 rfl ?_
  refine s_aloadn (j := 0) dX12_bar_84 rfl ?_
  refine s_getL (k := 0) cls_13 (by decide) rfl dX12_bar_85 w_1348 rfl (fun x2 => ?_)
  refine s_cVI (rest := []) (met_X12_ownOf l v0 x2) cls_13 mth_X12_ownOf rfl dX12_bar_88 w_1565 w_1567 wp_41 ⟨Nat.le_of_ble_eq_true rfl, Nat.le_of_ble_eq_true rfl⟩ (Nat.le_of_ble_eq_true rfl) rfl (fun x3 => ?_)
  refine s_istoren (lv' := [(1, .inl x3), (0, .inr (.inr v0))]) dX12_bar_91 (Nat.le_of_ble_eq_true rfl) rfl ?_
  refine s_iloadn (j := 0) dX12_bar_92 rfl ?_
  refine s_iconst (v := (-1)) dX12_bar_93 (by decide) ?_
  refine s_icmp_eq (tgt := 137) dX12_bar_94 (by decide) ?_ ?_
  · exact Sim.sub [1] rfl (sim_X12_bar_b137 l v0)
  · refine s_aloadn (j := 1) dX12_bar_97 rfl ?_
    refine s_dupR dX12_bar_98 ?_
    refine s_getI (k := 17) cls_13 (by decide) rfl dX12_bar_99 w_1365 rfl (fun x4 => ?_)
    refine s_iconst (v := 1) dX12_bar_102 (by decide) ?_
    refine s_isub dX12_bar_103 ?_
    refine s_putI (k := 17) cls_13 (by decide) rfl rfl rfl dX12_bar_104 w_1365 rfl ?_
    refine s_aloadn (j := 1) dX12_bar_107 rfl ?_
    refine s_getR (k := 18) cls_13 (by decide) rfl dX12_bar_108 w_1366 rfl (fun x5 => ?_)
    refine s_iloadn (j := 0) dX12_bar_111 rfl ?_
    refine s_aloadn (j := 1) dX12_bar_112 rfl ?_
    refine s_getR (k := 18) cls_13 (by decide) rfl dX12_bar_113 w_1366 rfl (fun x6 => ?_)
    refine s_aloadn (j := 1) dX12_bar_116 rfl ?_
    refine s_getI (k := 17) cls_13 (by decide) rfl dX12_bar_117 w_1365 rfl (fun x7 => ?_)
    refine s_lald dX12_bar_120 (fun x8 => ?_)
    refine s_last dX12_bar_121 ?_
    refine s_aloadn (j := 1) dX12_bar_122 rfl ?_
    refine s_getR (k := 19) cls_13 (by decide) rfl dX12_bar_123 w_1367 rfl (fun x9 => ?_)
    refine s_iloadn (j := 0) dX12_bar_126 rfl ?_
    refine s_aloadn (j := 1) dX12_bar_127 rfl ?_
    refine s_getR (k := 19) cls_13 (by decide) rfl dX12_bar_128 w_1367 rfl (fun x10 => ?_)
    refine s_aloadn (j := 1) dX12_bar_131 rfl ?_
    refine s_getI (k := 17) cls_13 (by decide) rfl dX12_bar_132 w_1365 rfl (fun x11 => ?_)
    refine s_iald dX12_bar_135 (fun x12 => ?_)
    refine s_iast dX12_bar_136 ?_
    exact Sim.sub [1] rfl (sim_X12_bar_b137 l v0)
set_option maxRecDepth 20000 in
theorem sim_X12_bar_b36 (l : Launch) (v0 : Option Nat) (s0 : Option Nat) (s1 : Int32) : Sim (M_X12_bar l) (zFin zcI) 36 [(0, .inr (.inr v0))] [.inl s1, .inr (.inr s0)] (p_X12_bar_b36 v0 s0 s1) := by
  unfold p_X12_bar_b36
  refine s_putI (k := 58) cls_13 (by decide) rfl rfl rfl dX12_bar_36 w_1406 rfl ?_
  refine s_aloadn (j := 0) dX12_bar_39 rfl ?_
  refine s_getI (k := 58) cls_13 (by decide) rfl dX12_bar_40 w_1406 rfl (fun x13 => ?_)
  refine s_if_le (tgt := 48) dX12_bar_43 (by decide) ?_ ?_
  · refine s_aloadn (j := 0) dX12_bar_48 rfl ?_
    refine s_aloadn (j := 0) dX12_bar_49 rfl ?_
    refine s_getL (k := 0) cls_13 (by decide) rfl dX12_bar_50 w_1348 rfl (fun x14 => ?_)
    refine s_cVI (rest := []) (met_X12_barOf l v0 x14) cls_13 mth_X12_barOf rfl dX12_bar_53 w_1573 w_1575 wp_43 ⟨Nat.le_of_ble_eq_true rfl, Nat.le_of_ble_eq_true rfl⟩ (Nat.le_of_ble_eq_true rfl) rfl (fun x15 => ?_)
    refine s_iconst (v := (-1)) dX12_bar_56 (by decide) ?_
    refine s_icmp_ne (tgt := 83) dX12_bar_57 (by decide) ?_ ?_
    · exact Sim.sub [0] rfl (sim_X12_bar_b83 l v0)
    · refine s_aloadn (j := 0) dX12_bar_60 rfl ?_
      refine s_getR (k := 21) cls_13 (by decide) rfl dX12_bar_61 w_1369 rfl (fun x16 => ?_)
      refine s_aloadn (j := 0) dX12_bar_64 rfl ?_
      refine s_getI (k := 20) cls_13 (by decide) rfl dX12_bar_65 w_1368 rfl (fun x17 => ?_)
      refine s_aloadn (j := 0) dX12_bar_68 rfl ?_
      refine s_getL (k := 0) cls_13 (by decide) rfl dX12_bar_69 w_1348 rfl (fun x18 => ?_)
      refine s_last dX12_bar_72 ?_
      refine s_aloadn (j := 0) dX12_bar_73 rfl ?_
      refine s_dupR dX12_bar_74 ?_
      refine s_getI (k := 20) cls_13 (by decide) rfl dX12_bar_75 w_1368 rfl (fun x19 => ?_)
      refine s_iconst (v := 1) dX12_bar_78 (by decide) ?_
      refine s_iadd dX12_bar_79 ?_
      refine s_putI (k := 20) cls_13 (by decide) rfl rfl rfl dX12_bar_80 w_1368 rfl ?_
      exact Sim.sub [0] rfl (sim_X12_bar_b83 l v0)
  · refine s_iconst (v := 0) dX12_bar_46 (by decide) ?_
    exact s_iret dX12_bar_47 rfl
set_option maxRecDepth 20000 in
theorem sim_X12_bar_b31 (l : Launch) (v0 : Option Nat) (s0 : Option Nat) : Sim (M_X12_bar l) (zFin zcI) 31 [(0, .inr (.inr v0))] [.inr (.inr s0)] (p_X12_bar_b31 v0 s0) := by
  unfold p_X12_bar_b31
  refine s_iconst (v := 1) dX12_bar_31 (by decide) ?_
  refine s_goto (tgt := 36) dX12_bar_32 (by decide) ?_
  exact Sim.sub [0] rfl (sim_X12_bar_b36 l v0 s0 1)
set_option maxRecDepth 20000 in
theorem sim_X12_bar_b35 (l : Launch) (v0 : Option Nat) (s0 : Option Nat) : Sim (M_X12_bar l) (zFin zcI) 35 [(0, .inr (.inr v0))] [.inr (.inr s0)] (p_X12_bar_b35 v0 s0) := by
  unfold p_X12_bar_b35
  refine s_iconst (v := 0) dX12_bar_35 (by decide) ?_
  exact Sim.sub [0] rfl (sim_X12_bar_b36 l v0 s0 0)
set_option maxRecDepth 20000 in
theorem sim_X12_bar (l : Launch) (v0 : Option Nat) : Sim (M_X12_bar l) (zFin zcI) 0 [(0, .inr (.inr v0))] [] (p_X12_bar v0) := by
  unfold p_X12_bar
  refine s_aloadn (j := 0) dX12_bar_0 rfl ?_
  refine s_aloadn (j := 0) dX12_bar_1 rfl ?_
  refine s_getL (k := 0) cls_13 (by decide) rfl dX12_bar_2 w_1348 rfl (fun x20 => ?_)
  refine s_lconst (v := 0) dX12_bar_5 (by decide) ?_
  refine s_lcmp dX12_bar_6 ?_
  refine s_if_eq (tgt := 31) dX12_bar_7 (by decide) ?_ ?_
  · exact Sim.sub [0] rfl (sim_X12_bar_b31 l v0 v0)
  · refine s_aloadn (j := 0) dX12_bar_10 rfl ?_
    refine s_getI (k := 20) cls_13 (by decide) rfl dX12_bar_11 w_1368 rfl (fun x21 => ?_)
    refine s_bipush (v := 10) dX12_bar_14 (by decide) ?_
    refine s_icmp_ne (tgt := 35) dX12_bar_16 (by decide) ?_ ?_
    · exact Sim.sub [0] rfl (sim_X12_bar_b35 l v0 v0)
    · refine s_aloadn (j := 0) dX12_bar_19 rfl ?_
      refine s_aloadn (j := 0) dX12_bar_20 rfl ?_
      refine s_getL (k := 0) cls_13 (by decide) rfl dX12_bar_21 w_1348 rfl (fun x22 => ?_)
      refine s_cVI (rest := [.inr (.inr v0)]) (met_X12_barOf l v0 x22) cls_13 mth_X12_barOf rfl dX12_bar_24 w_1573 w_1575 wp_43 ⟨Nat.le_of_ble_eq_true rfl, Nat.le_of_ble_eq_true rfl⟩ (Nat.le_of_ble_eq_true rfl) rfl (fun x23 => ?_)
      refine s_iconst (v := (-1)) dX12_bar_27 (by decide) ?_
      refine s_icmp_ne (tgt := 35) dX12_bar_28 (by decide) ?_ ?_
      · exact Sim.sub [0] rfl (sim_X12_bar_b35 l v0 v0)
      · exact Sim.sub [0] rfl (sim_X12_bar_b31 l v0 v0)
theorem met_X12_bar (l : Launch) (v0 : Option Nat) : zMet l yX12_bar cX12_bar 2 (some .int) 1 23 [.inr (.inr v0)] zcI (p_X12_bar v0) :=
  zMet.of (by decide +kernel) (Nat.le_of_ble_eq_true rfl) rfl (sim_X12_bar l v0)
def p_X12_isLetter (v0 : Int32) : ZM Int32 :=
  z_b (p_X12_in v0 97 104) fun x1 => z_rz x1
abbrev M_X12_isLetter (l : Launch) : ZMe := (l, "SpellScribeModel", cX12_isLetter, 1, 1, 22, (some .boolean), "isLetter", [])
set_option maxRecDepth 20000 in
theorem sim_X12_isLetter (l : Launch) (v0 : Int32) : Sim (M_X12_isLetter l) (zFin zcI) 0 [(0, .inl v0)] [] (p_X12_isLetter v0) := by
  unfold p_X12_isLetter
  refine s_iloadn (j := 0) dX12_isLetter_0 rfl ?_
  refine s_bipush (v := 97) dX12_isLetter_1 (by decide) ?_
  refine s_bipush (v := 104) dX12_isLetter_3 (by decide) ?_
  refine s_cSI (rest := []) (met_X12_in l v0 97 104) mth_X12_in rfl dX12_isLetter_5 w_1535 w_1536 ⟨Nat.le_of_ble_eq_true rfl, Nat.le_of_ble_eq_true rfl⟩ (Nat.le_of_ble_eq_true rfl) rfl (fun x1 => ?_)
  exact s_zret dX12_isLetter_8 rfl
theorem met_X12_isLetter (l : Launch) (v0 : Int32) : zMet l yX12_isLetter cX12_isLetter 1 (some .boolean) 1 22 [.inl v0] zcI (p_X12_isLetter v0) :=
  zMet.of (by decide +kernel) (Nat.le_of_ble_eq_true rfl) rfl (sim_X12_isLetter l v0)
