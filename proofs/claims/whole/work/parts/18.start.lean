/-! ===== the launch, as the law finds it ===== -/
theorem z_fl_flags {l : Launch} (h : l.flags = flags0) : l.stackTraces = false := by
  unfold Launch.stackTraces
  rw [h]
  decide +kernel
theorem z_arrP {s : State} {args : Array Value} {ty : FieldType} (h : (Cond.arrayClass ty).before args s = true) (hr : ∀ (cA : ClassId), s.vm.findClass ("[" ++ ty.toString) = some cA → va_RA s cA ty) (hn : ∀ k : Class, ∀ comp : ClassId, k.kind = .array comp ty → ∀ cA : ClassId, s.vm.classes[cA]? = some k → ArrOfT s cA ty) : ∃ cA : ClassId, ArrOfT s cA ty ∧ va_RA s cA ty := by
  obtain ⟨cA, k, comp, h1, h2, h3⟩ := Cond.arrayClass_spec h
  exact ⟨cA, hn k comp h3 cA h2, hr cA h1⟩
theorem z_arrO {s : State} {args : Array Value} (h : (Cond.arrayOver (.object "java/lang/Object")).before args s = true) : ∃ cA : ClassId, ArrOfT s cA (.object "java/lang/Object") ∧ va_RA s cA (.object "java/lang/Object") := by
  obtain ⟨comp, cA, k, h1, h2, h3, h4, h5⟩ := Cond.arrayOver_spec h
  exact ⟨cA, fun n z => ⟨(fun k h => by cases h), k, h3, comp, h4⟩, k, comp, h3, h4, h1, h5⟩
theorem z_known {s : State} {args : Array Value} (hts : ∀ w ∈ lw_tbl, w.before args s = true) {c : Nat} {C : String} {T : u_T} {N : Nat} {ty : Nat → FieldType} (hc : zCls c C T N ty) (hi : Cond.instantiable C N ∈ lw_tbl) : ∃ q : ClassId × (Nat → Nat), u_Kn s C T N q.1 q.2 := by
  obtain ⟨cC, iS, h⟩ := u_known (ws := u_ws C T N) (fun w hw => hts w (hc.2.1 w hw).1) (fun w h => h) (hts _ hi)
  exact ⟨(cC, iS), h⟩
theorem z_str {s : State} {args : Array Value} {k : Nat} {tx : String} (h : (Cond.stringRef "SpellScribe" k tx).before args s = true) (hx : (Cond.exactly (.string "SpellScribe" k) "java/lang/String").before args s = true) : ∃ a, vk_R "SpellScribe" k tx a s := by
  obtain ⟨a, c, cell, kk, h1, -⟩ := Cond.exactly_spec (args := args) (first := s) (o := none) (s := s) (idx := []) (t := .string "SpellScribe" k) (cls := "java/lang/String") hx
  exact ⟨a, vk_R.of h h1⟩
/-- the launch's beginning: what the law stands on -/
theorem z_begin {s : State} {b L : Nat} {xs : Nat → Int32} (hts : ∀ w ∈ lw_tbl, w.before #[Value.ref b] s = true) (hX : va_X b L xs s s.heap) (hb : b < s.heap.size) (hgv : (Jvm.Cond.and given_1 narrow_1).before #[Value.ref b] s = true) :
    ∃ G : ZG, ZGok G ∧ G.s0 = s ∧ G.sb = b ∧ G.sL = L ∧ G.sx = xs := by
  have hs := flat_of_before _ hgv
  obtain ⟨cI, hI1, hI2⟩ := z_arrP (hts _ w_85) (fun cA h => h) (fun k comp h3 cA h2 => fun n z => ⟨(fun k h => by cases h), k, h2, comp, h3⟩)
  obtain ⟨cJ, hJ1, hJ2⟩ := z_arrP (hts _ w_1526) (fun cA h => h) (fun k comp h3 cA h2 => fun n z => ⟨(fun k h => by cases h), k, h2, comp, h3⟩)
  obtain ⟨cO, hO1, hO2⟩ := z_arrO (hts _ w_902)
  have hkn : ∀ c : Nat, ∃ q : ClassId × (Nat → Nat), ∀ r : vw_C, vwCl[c]? = some r → u_Kn s r.1 r.2.1 r.2.2 q.1 q.2 := by
    intro c
    cases hr : vwCl[c]? with
    | none => exact ⟨(0, fun _ => 0), fun r h => by cases h⟩
    | some r =>
      have : ∃ q : ClassId × (Nat → Nat), u_Kn s r.1 r.2.1 r.2.2 q.1 q.2 := by
        have hc := (List.getElem?_eq_some_iff.mp hr).1
        match c, hc, hr with
        | 0, _, hr => cases hr; exact z_known hts cls_0 w_44
        | 1, _, hr => cases hr; exact z_known hts cls_1 w_152
        | 2, _, hr => cases hr; exact z_known hts cls_2 w_207
        | 3, _, hr => cases hr; exact z_known hts cls_3 w_38
        | 4, _, hr => cases hr; exact z_known hts cls_4 w_225
        | 5, _, hr => cases hr; exact z_known hts cls_5 w_76
        | 6, _, hr => cases hr; exact z_known hts cls_6 w_992
        | 7, _, hr => cases hr; exact z_known hts cls_7 w_816
        | 8, _, hr => cases hr; exact z_known hts cls_8 w_255
        | 9, _, hr => cases hr; exact z_known hts cls_9 w_119
        | 10, _, hr => cases hr; exact z_known hts cls_10 w_171
        | 11, _, hr => cases hr; exact z_known hts cls_11 w_70
        | 12, _, hr => cases hr; exact z_known hts cls_12 w_30
        | 13, _, hr => cases hr; exact z_known hts cls_13 w_1343
        | n + 14, hc, _ => exact absurd hc (by simp)
      obtain ⟨q, hq⟩ := this
      exact ⟨q, fun r' h' => by cases h'; exact hq⟩
  obtain ⟨kn, hkn⟩ := Classical.axiomOfChoice hkn
  have hA : ∀ a : Nat, a < s.heap.size → ¬ (fun q => s.heap.size ≤ q) a := fun a h1 h2 => absurd h1 (Nat.not_lt.mpr h2)
  obtain ⟨df, cD, cellD, kD, d1, d2, d3, d4, d5, d6, d7⟩ := Cond.exactly_spec (args := #[Value.ref b]) (first := s) (o := none) (s := s) (idx := []) (t := .static "java/util/ArrayList" "DEFAULTCAPACITY_EMPTY_ELEMENTDATA" "[Ljava/lang/Object;") (cls := "[Ljava/lang/Object;") (hs _ (by decide +kernel))
  have hAr : (Cond.arrayOf (.static "java/util/ArrayList" "DEFAULTCAPACITY_EMPTY_ELEMENTDATA" "[Ljava/lang/Object;") (.object "java/lang/Object")).before #[Value.ref b] s = true := hs _ (by decide +kernel)
  have hLn : (Cond.eq (.length (.static "java/util/ArrayList" "DEFAULTCAPACITY_EMPTY_ELEMENTDATA" "[Ljava/lang/Object;")) (.int 0)).before #[Value.ref b] s = true := hs _ (by decide +kernel)
  obtain ⟨t, ht, hT⟩ := va_Tof (f := fun _ => Value.null) (N := 0) (A := fun q => s.heap.size ≤ q) (by decide) hAr (va_eqt hLn) (fun j hj => absurd hj (Nat.not_lt_zero j)) hA
  have htd : t = df := by
    have := ht.symm.trans d1
    cases this
    rfl
  subst htd
  obtain ⟨mi, hmi⟩ := va_Mi.of (hs (Cond.isRef (.mirror "[Ljava/lang/Object;")) (by decide +kernel))
  refine ⟨(s, #[Value.ref b], (fun c => (kn c).1, fun c => (kn c).2), (cI, cJ, cO), t, mi, (b, L, xs)), ⟨hts, ⟨fun c q hq => hkn c q hq, fun k q hq => ?_⟩, ?_, ?_, ?_, ?_, hmi, ?_, ?_, hX, hb⟩, rfl, rfl, rfl, rfl⟩
  · match k, hq with
    | 0, hq => cases hq; exact ⟨hI1, hI2⟩
    | 1, hq => cases hq; exact ⟨hJ1, hJ2⟩
    | 2, hq => cases hq; exact ⟨hO1, hO2⟩
    | k + 3, hq => cases hq
  · exact va_Zof (hts _ w_56) (hts _ w_5) d1 hA
  · obtain ⟨cell, e1, e2, e3, e4, e5, e6⟩ := hT
    exact ⟨(Array.getElem?_eq_some_iff.mp e1).1, cell, e1, e2, e5⟩
  · exact vx_Zqof (hts _ w_739) (hts _ w_15) (hs _ (by decide +kernel)) hA
  · exact vx_Zqof (hts _ w_741) (hts _ w_15) (hs _ (by decide +kernel)) hA
  · exact List.forall_mem_cons.mpr ⟨z_str (hts _ w_753) (hs _ (by decide +kernel)), List.forall_mem_cons.mpr ⟨z_str (hts _ w_789) (hs _ (by decide +kernel)), List.forall_mem_cons.mpr ⟨z_str (hts _ w_807) (hs _ (by decide +kernel)), List.forall_mem_cons.mpr ⟨z_str (hts _ w_814) (hs _ (by decide +kernel)), List.forall_mem_cons.mpr ⟨z_str (hts _ w_985) (hs _ (by decide +kernel)), List.forall_mem_cons.mpr ⟨z_str (hts _ w_990) (hs _ (by decide +kernel)), List.forall_mem_cons.mpr ⟨z_str (hts _ w_1050) (hs _ (by decide +kernel)), List.forall_mem_cons.mpr ⟨z_str (hts _ w_1057) (hs _ (by decide +kernel)), List.forall_mem_cons.mpr ⟨z_str (hts _ w_1058) (hs _ (by decide +kernel)), List.forall_mem_cons.mpr ⟨z_str (hts _ w_1066) (hs _ (by decide +kernel)), List.forall_mem_cons.mpr ⟨z_str (hts _ w_1078) (hs _ (by decide +kernel)), List.forall_mem_cons.mpr ⟨z_str (hts _ w_1083) (hs _ (by decide +kernel)), List.forall_mem_cons.mpr ⟨z_str (hts _ w_1109) (hs _ (by decide +kernel)), List.forall_mem_cons.mpr ⟨z_str (hts _ w_1129) (hs _ (by decide +kernel)), List.forall_mem_cons.mpr ⟨z_str (hts _ w_1131) (hs _ (by decide +kernel)), List.forall_mem_cons.mpr ⟨z_str (hts _ w_1142) (hs _ (by decide +kernel)), List.forall_mem_cons.mpr ⟨z_str (hts _ w_1154) (hs _ (by decide +kernel)), List.forall_mem_cons.mpr ⟨z_str (hts _ w_1155) (hs _ (by decide +kernel)), List.forall_mem_cons.mpr ⟨z_str (hts _ w_1168) (hs _ (by decide +kernel)), List.forall_mem_cons.mpr ⟨z_str (hts _ w_1169) (hs _ (by decide +kernel)), List.forall_mem_cons.mpr ⟨z_str (hts _ w_1183) (hs _ (by decide +kernel)), List.forall_mem_cons.mpr ⟨z_str (hts _ w_1187) (hs _ (by decide +kernel)), List.forall_mem_cons.mpr ⟨z_str (hts _ w_1188) (hs _ (by decide +kernel)), List.forall_mem_cons.mpr ⟨z_str (hts _ w_1287) (hs _ (by decide +kernel)), List.forall_mem_cons.mpr ⟨z_str (hts _ w_1328) (hs _ (by decide +kernel)), List.forall_mem_cons.mpr ⟨z_str (hts _ w_1340) (hs _ (by decide +kernel)), fun _ h => absurd h List.not_mem_nil⟩⟩⟩⟩⟩⟩⟩⟩⟩⟩⟩⟩⟩⟩⟩⟩⟩⟩⟩⟩⟩⟩⟩⟩⟩⟩
  · intro i j hi hj hij
    match i, j, hi, hj, hij with
    | 0, 1, _, _, _ => exact va_Nc.of (hs _ (by decide +kernel))
    | 0, 2, _, _, _ => exact va_Nc.of (hs _ (by decide +kernel))
    | 1, 0, _, _, _ => exact va_Nc.of (hs _ (by decide +kernel))
    | 1, 2, _, _, _ => exact va_Nc.of (hs _ (by decide +kernel))
    | 2, 0, _, _, _ => exact va_Nc.of (hs _ (by decide +kernel))
    | 2, 1, _, _, _ => exact va_Nc.of (hs _ (by decide +kernel))
    | 0, 0, _, _, h => exact absurd rfl h
    | 1, 1, _, _, h => exact absurd rfl h
    | 2, 2, _, _, h => exact absurd rfl h
    | n + 3, _, h, _, _ => exact absurd h (by omega)
    | 0, n + 3, _, h, _ => exact absurd h (by omega)
    | 1, n + 3, _, h, _ => exact absurd h (by omega)
    | 2, n + 3, _, h, _ => exact absurd h (by omega)
/-! ===== the heap of functions at the law's start ===== -/
def z_h0 (B df mi b L : Nat) (xs : Nat → Int32) : ZH := (B, 0, fun a => if a = df then (5, 0) else (0, 0), fun _ _ => 0, fun _ _ => 0, fun _ _ => none, (df, mi, b, L, xs))
