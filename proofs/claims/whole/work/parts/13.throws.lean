/-! ===== throws: as the kit's rows of a throw, with the heap's size told ===== -/
section ZThrowKit
variable {p : Program} {l : Launch} {e : Env} {R : Room} {s : State} {m : MethodId} {args : Array Value} {below : List Frame} {meth : Method} {c : Code} {H : Heap} {locs : List Loc} {cells slots : Nat} {Q : State → Prop}
variable {mc ms : Nat} {free : Addr → Prop} {A0 A1 : Nat → Prop} {H0 : Heap} {a : Array Value} {ls : Array Slot} {st0 rest : List Value}
variable {Qc : Array Value → State → Outcome → State → Prop} {XC : String → State → State → Prop}
theorem zx_throwS {cc : ByteArray} {pc : Nat} (hexec : p.tables.exec = Jvm.exec) (hb : c.code = cc) (hl : l.stackTraces = false) {own cls text : String} {names : List String} {ik is ic mc ms sa : Nat} {A : Nat → Prop}
    (hown : s.vm.findClass own = some m.cls) (hcls : Bundle.fit cls = true) (hnames : ∀ n ∈ names, Bundle.fit n = true)
    (hk : (Cond.classLink own ik cls).before args s = true) (hini : (Cond.initialized cls).before args s = true) (hstr : vk_R own is text sa s) (hat : ∀ w ∈ vx_atS own ic cls names, w.before args s = true)
    (hgood : ∀ w ∈ Cond.classLink own ik cls :: Cond.initialized cls :: vx_atS own ic cls names, vx_ot w = true)
    (hU : vx_Zq Bundle.tN "UNASSIGNED_STACK" Bundle.steD A s s.heap) (hN : vx_Zq Bundle.tN "SUPPRESSED_SENTINEL" Bundle.listD A s s.heap) (hS : va_S A s.heap H locs) (hsize : ls.size = c.maxLocals)
    (d0 : decode cc pc = .ok (.new ik, 3)) (d3 : decode cc (pc + 3) = .ok (.dup, 1)) (d4 : decode cc (pc + 4) = .ok (.ldc is, 2)) (d6 : decode cc (pc + 6) = .ok (.invokespecial ic, 3)) (d9 : decode cc (pc + 9) = .ok (.athrow, 1))
    (hout : ∀ x ∈ c.exceptionTable.toList, covers x (pc + 9) = false)
    (hRframes : names.length + 3 < R.frames) (hRlocals : (rest.map fun v => v.category).sum + (13 * (names.length + 1) + 43) ≤ R.locals) (hRcells : cells + 1 ≤ R.cells) (hRslots : slots + 6 ≤ R.slots) (hlocks : meth.locks = false)
    (hx : ∀ t : State, s.vm.Alike t.vm → t.heap.size = H.size + 1 → (∀ q : Nat, q < H.size → t.heap[q]? = H[q]?) → XC cls s t)
    (hf : ∀ z ∈ locs, free z.base) (hc : cells + 1 ≤ mc) (hs : slots + 6 ≤ ms) :
    W p l e R s m args below meth c H locs cells slots (vx_MQ below Qc XC args s mc ms free) (F0 m pc ls rest) := by
  intro T hT X
  have htr : e.platform.stackTraces = false := (show e.platform.stackTraces = l.stackTraces by rw [X.admits.platform]).trans hl
  have Y := vx_rebase X (R' := { frames := R.frames, locals := R.locals, cells := 1, slots := 6 }) (Nat.le_refl _) (Nat.le_refl _) hRcells hRslots
  obtain ⟨s', hA⟩ : ∃ z, z = (T.setVm s.vm).setFrames (.invoking m args :: below) := ⟨_, rfl⟩
  rw [← hA] at Y
  have hvm : s'.vm = s.vm := by rw [hA]; rfl
  have hhp : s'.heap = H := by rw [hA]; exact hT
  have hW0 : s.WarmedH s'.vm := by rw [hvm]; exact State.WarmedH.refl s
  have hat' : ∀ w ∈ vx_atS own ic cls names, w.before args s' = true := fun w hw => vx_ot_at hW0 hvm.symm (hgood w (List.mem_cons_of_mem _ (List.mem_cons_of_mem _ hw))) (hat w hw)
  have hk' : (Cond.classLink own ik cls).before args s' = true := vx_ot_at hW0 hvm.symm (hgood _ List.mem_cons_self) hk
  have hini' : (Cond.initialized cls).before args s' = true := vx_ot_at hW0 hvm.symm (hgood _ (List.mem_cons_of_mem _ List.mem_cons_self)) hini
  have hU' : vx_Zq Bundle.tN "UNASSIGNED_STACK" Bundle.steD A s' s'.heap := by rw [hhp]; exact vx_Zq.moved hW0.alike (hU.kept hS.2.1)
  have hN' : vx_Zq Bundle.tN "SUPPRESSED_SENTINEL" Bundle.listD A s' s'.heap := by rw [hhp]; exact vx_Zq.moved hW0.alike (hN.kept hS.2.1)
  have h : ∀ w ∈ Bundle.ownAtoms own ic cls names, w.before args s' = true := vx_own hat' (vx_isRefq hU'.1) (vx_isRefq hN'.1) hU'.2.word hN'.2.word
  have hown' : s'.vm.findClass own = some m.cls := by rw [hvm]; exact hown
  have hins : (Cond.instantiable cls 6).before args s' = true := h _ (by simp [Bundle.ownAtoms])
  obtain ⟨vm₁, cX, kX, hfX, hkX, -, -, X₁, st1⟩ := Y.newCold hexec (own := own) (C := cls) (index := ik) (n := 6) hown' hk' hins hini'
    (g := F0 m pc ls rest) rfl (by rw [hb]; exact d0) (Nat.le_refl _) (Nat.le_refl _)
  generalize hT1 : (T.setVm vm₁).pushCell { cls := cX, slots := kX.instanceTypes.map defaultValue, vm := .none } = T1 at X₁ st1
  have hcat : (Value.ref T.heap.size).category = 1 := rfl
  have hcellA : T1.heap[T.heap.size]? = some (freshCell cX kX) := by rw [← hT1]; exact State.heap_pushCell_size _ _
  have d3' : decode c.code (pc + 3) = .ok (.dup, 1) := by rw [hb]; exact d3
  have d4' : decode c.code (pc + 4) = .ok (.ldc is, 2) := by rw [hb]; exact d4
  have hstr' : vk_R own is text sa s' := vk_R.warm hW0 hstr
  obtain ⟨U, hsteps, hrun, hend, hW, hsame, ce, hce, hO⟩ := X₁.ctorThrowS hexec htr (own := own) (cls := cls) (names := names) (ic := ic) hown' hcls hnames h (fun x hx => nomatch hx) hfX hkX hcellA (by rw [hhp, hT]; exact Nat.le_refl _) (msg := .ref sa) rfl
    (g := { method := m, pc := pc + 6, locals := ls, stack := .ref sa :: .ref T.heap.size :: .ref T.heap.size :: rest, locked := none }) rfl hsize rfl rfl (rest := rest) rfl
    (by rw [hb]; exact d6) (by rw [hb]; exact d9) hout hRframes (by simp only [List.map_cons, List.sum_cons, hcat]; omega) hlocks
  obtain ⟨f1, f2⟩ := vx_frame hsame
  have f3 := hsame.2.2.1
  rw [hhp] at f1 f2 f3
  have f4 : U.heap.size = H.size + 1 := by
    have f5 : T.heap.size < U.heap.size := (Array.getElem?_eq_some_iff.mp hce).1
    rw [hT] at f5
    have f6 : U.heap.size ≤ H.size + (0 + 1) := f3
    omega
  have hWs : s.WarmedH U.vm := State.WarmedH.trans hW0 hW
  have hcl : s.vm.findClass cls = some ce.cls := by
    have h9 := hO.cls
    rw [hvm] at h9
    exact h9
  have hall : s.sameButNew ({ U with vm := s.vm } : State) locs mc ms := by
    subst hA
    obtain ⟨e1, e2⟩ := hsame
    rw [State.setFrames_setFrames] at e1
    have h2 : (T.setVm s.vm).sameButNew ({ U with vm := s.vm } : State) [] (0 + 1) (0 + 6) := ⟨e1, e2⟩
    have h3 := X.same.trans h2
    rw [List.append_nil] at h3
    exact h3.mono hc hs
  refine ⟨U, ?_, .threw T.heap.size, hrun, hend, Or.inr ⟨T.heap.size, rfl, cls, ce, locs, hx U hWs.alike f4 (fun q hq => f2 q hq (fun z hz => nomatch hz)), hce, hO.vm, hcl, hWs, hall, hf⟩⟩
  refine st1 _ ?_
  show Steps p.tables e below (T1.setTop { method := m, pc := pc + 3, locals := ls, stack := .ref T.heap.size :: rest, locked := none }) _
  jvm_step X₁.here [X₁.here.top, hexec, d3', Value.category]
  exact X₁.ldcString hexec (own := own) (text := text) (index := is) (a := sa) hown' hstr'.1 hstr'.2
    (g := { method := m, pc := pc + 4, locals := ls, stack := .ref T.heap.size :: .ref T.heap.size :: rest, locked := none }) rfl d4' _ hsteps
theorem zx_throwSW {cc : ByteArray} {pc : Nat} (hexec : p.tables.exec = Jvm.exec) (hb : c.code = cc) (hl : l.stackTraces = false) {own cls text : String} {names : List String} {ik is ic mc ms sa : Nat} {A : Nat → Prop}
    (hown : s.vm.findClass own = some m.cls) (hcls : Bundle.fit cls = true) (hnames : ∀ n ∈ names, Bundle.fit n = true)
    (hk : (Cond.classLink own ik cls).before args s = true) (hini : (Cond.initialized cls).before args s = true) (hstr : vk_R own is text sa s) (hat : ∀ w ∈ vx_atS own ic cls names, w.before args s = true)
    (hgood : ∀ w ∈ Cond.classLink own ik cls :: Cond.initialized cls :: vx_atS own ic cls names, vx_ot w = true)
    (hU : vx_Zq Bundle.tN "UNASSIGNED_STACK" Bundle.steD A s s.heap) (hN : vx_Zq Bundle.tN "SUPPRESSED_SENTINEL" Bundle.listD A s s.heap) (hS : va_S A s.heap H locs) (hsize : ls.size = c.maxLocals)
    (d0 : decode cc pc = .ok (.new ik, 3)) (d3 : decode cc (pc + 3) = .ok (.dup, 1)) (d4 : decode cc (pc + 4) = .ok (.ldc_w is, 3)) (d7 : decode cc (pc + 7) = .ok (.invokespecial ic, 3)) (d10 : decode cc (pc + 10) = .ok (.athrow, 1))
    (hout : ∀ x ∈ c.exceptionTable.toList, covers x (pc + 10) = false)
    (hRframes : names.length + 3 < R.frames) (hRlocals : (rest.map fun v => v.category).sum + (13 * (names.length + 1) + 43) ≤ R.locals) (hRcells : cells + 1 ≤ R.cells) (hRslots : slots + 6 ≤ R.slots) (hlocks : meth.locks = false)
    (hx : ∀ t : State, s.vm.Alike t.vm → t.heap.size = H.size + 1 → (∀ q : Nat, q < H.size → t.heap[q]? = H[q]?) → XC cls s t)
    (hf : ∀ z ∈ locs, free z.base) (hc : cells + 1 ≤ mc) (hs : slots + 6 ≤ ms) :
    W p l e R s m args below meth c H locs cells slots (vx_MQ below Qc XC args s mc ms free) (F0 m pc ls rest) := by
  intro T hT X
  have htr : e.platform.stackTraces = false := (show e.platform.stackTraces = l.stackTraces by rw [X.admits.platform]).trans hl
  have Y := vx_rebase X (R' := { frames := R.frames, locals := R.locals, cells := 1, slots := 6 }) (Nat.le_refl _) (Nat.le_refl _) hRcells hRslots
  obtain ⟨s', hA⟩ : ∃ z, z = (T.setVm s.vm).setFrames (.invoking m args :: below) := ⟨_, rfl⟩
  rw [← hA] at Y
  have hvm : s'.vm = s.vm := by rw [hA]; rfl
  have hhp : s'.heap = H := by rw [hA]; exact hT
  have hW0 : s.WarmedH s'.vm := by rw [hvm]; exact State.WarmedH.refl s
  have hat' : ∀ w ∈ vx_atS own ic cls names, w.before args s' = true := fun w hw => vx_ot_at hW0 hvm.symm (hgood w (List.mem_cons_of_mem _ (List.mem_cons_of_mem _ hw))) (hat w hw)
  have hk' : (Cond.classLink own ik cls).before args s' = true := vx_ot_at hW0 hvm.symm (hgood _ List.mem_cons_self) hk
  have hini' : (Cond.initialized cls).before args s' = true := vx_ot_at hW0 hvm.symm (hgood _ (List.mem_cons_of_mem _ List.mem_cons_self)) hini
  have hU' : vx_Zq Bundle.tN "UNASSIGNED_STACK" Bundle.steD A s' s'.heap := by rw [hhp]; exact vx_Zq.moved hW0.alike (hU.kept hS.2.1)
  have hN' : vx_Zq Bundle.tN "SUPPRESSED_SENTINEL" Bundle.listD A s' s'.heap := by rw [hhp]; exact vx_Zq.moved hW0.alike (hN.kept hS.2.1)
  have h : ∀ w ∈ Bundle.ownAtoms own ic cls names, w.before args s' = true := vx_own hat' (vx_isRefq hU'.1) (vx_isRefq hN'.1) hU'.2.word hN'.2.word
  have hown' : s'.vm.findClass own = some m.cls := by rw [hvm]; exact hown
  have hins : (Cond.instantiable cls 6).before args s' = true := h _ (by simp [Bundle.ownAtoms])
  obtain ⟨vm₁, cX, kX, hfX, hkX, -, -, X₁, st1⟩ := Y.newCold hexec (own := own) (C := cls) (index := ik) (n := 6) hown' hk' hins hini'
    (g := F0 m pc ls rest) rfl (by rw [hb]; exact d0) (Nat.le_refl _) (Nat.le_refl _)
  generalize hT1 : (T.setVm vm₁).pushCell { cls := cX, slots := kX.instanceTypes.map defaultValue, vm := .none } = T1 at X₁ st1
  have hcat : (Value.ref T.heap.size).category = 1 := rfl
  have hcellA : T1.heap[T.heap.size]? = some (freshCell cX kX) := by rw [← hT1]; exact State.heap_pushCell_size _ _
  have d3' : decode c.code (pc + 3) = .ok (.dup, 1) := by rw [hb]; exact d3
  have d4' : decode c.code (pc + 4) = .ok (.ldc_w is, 3) := by rw [hb]; exact d4
  have hstr' : vk_R own is text sa s' := vk_R.warm hW0 hstr
  obtain ⟨U, hsteps, hrun, hend, hW, hsame, ce, hce, hO⟩ := X₁.ctorThrowS hexec htr (own := own) (cls := cls) (names := names) (ic := ic) hown' hcls hnames h (fun x hx => nomatch hx) hfX hkX hcellA (by rw [hhp, hT]; exact Nat.le_refl _) (msg := .ref sa) rfl
    (g := { method := m, pc := pc + 7, locals := ls, stack := .ref sa :: .ref T.heap.size :: .ref T.heap.size :: rest, locked := none }) rfl hsize rfl rfl (rest := rest) rfl
    (by rw [hb]; exact d7) (by rw [hb]; exact d10) hout hRframes (by simp only [List.map_cons, List.sum_cons, hcat]; omega) hlocks
  obtain ⟨f1, f2⟩ := vx_frame hsame
  have f3 := hsame.2.2.1
  rw [hhp] at f1 f2 f3
  have f4 : U.heap.size = H.size + 1 := by
    have f5 : T.heap.size < U.heap.size := (Array.getElem?_eq_some_iff.mp hce).1
    rw [hT] at f5
    have f6 : U.heap.size ≤ H.size + (0 + 1) := f3
    omega
  have hWs : s.WarmedH U.vm := State.WarmedH.trans hW0 hW
  have hcl : s.vm.findClass cls = some ce.cls := by
    have h9 := hO.cls
    rw [hvm] at h9
    exact h9
  have hall : s.sameButNew ({ U with vm := s.vm } : State) locs mc ms := by
    subst hA
    obtain ⟨e1, e2⟩ := hsame
    rw [State.setFrames_setFrames] at e1
    have h2 : (T.setVm s.vm).sameButNew ({ U with vm := s.vm } : State) [] (0 + 1) (0 + 6) := ⟨e1, e2⟩
    have h3 := X.same.trans h2
    rw [List.append_nil] at h3
    exact h3.mono hc hs
  refine ⟨U, ?_, .threw T.heap.size, hrun, hend, Or.inr ⟨T.heap.size, rfl, cls, ce, locs, hx U hWs.alike f4 (fun q hq => f2 q hq (fun z hz => nomatch hz)), hce, hO.vm, hcl, hWs, hall, hf⟩⟩
  refine st1 _ ?_
  show Steps p.tables e below (T1.setTop { method := m, pc := pc + 3, locals := ls, stack := .ref T.heap.size :: rest, locked := none }) _
  jvm_step X₁.here [X₁.here.top, hexec, d3', Value.category]
  exact X₁.ldcStringW hexec (own := own) (text := text) (index := is) (a := sa) hown' hstr'.1 hstr'.2
    (g := { method := m, pc := pc + 4, locals := ls, stack := .ref T.heap.size :: .ref T.heap.size :: rest, locked := none }) rfl d4' _ hsteps
end ZThrowKit
/-! ===== methods that return or throw ===== -/
def zFinX {α : Type} (cv : α → Option Value) : ZX → (α ⊕ Nat) → ZH → State → Prop := fun X v h' =>
  vx_MQ X.below (fun _ _ o t => (∃ x, v = .inl x ∧ o = .returned (cv x)) ∧ zRel X.G h' t.heap) (fun E _ t => (∃ n, v = .inr n ∧ E = zEx n) ∧ zRel X.G h' t.heap) X.a X.s (zT h' - X.t0) (zN h' - X.n0) (fun q => X.G.B ≤ q)
def zMetX {α : Type} (l : Launch) (y : MethodName) (cc : ByteArray) (nL : Nat) (rt : Option FieldType) (F Lc : Nat) (av : List ZV) (cv : α → Option Value) (f : ZM (α ⊕ Nat)) : Prop :=
  ∀ (h : ZH) (v : α ⊕ Nat) (h' : ZH), f h = some (v, h') → (zT h ≤ zT h' ∧ zN h ≤ zN h') ∧ ∀ (G : ZG), ZGok G →
    vx_Met l y [.code y cc nL rt] { frames := F, cells := zT h' - zT h, slots := zN h' - zN h, locals := Lc }
      (va_Pc (av.map zval) (fun U => zRel G h U.heap ∧ G.s0.WarmedH U.vm)) (fun _ _ o t => (∃ x, v = .inl x ∧ o = .returned (cv x)) ∧ zRel G h' t.heap) (fun E _ t => (∃ n, v = .inr n ∧ E = zEx n) ∧ zRel G h' t.heap) (zT h' - zT h) (zN h' - zN h) (fun q => G.B ≤ q)
def z_xrt {α : Type} (x : α) : ZM (α ⊕ Nat) := fun h => some (.inl x, h)
def z_xrz (x : Int32) : ZM (Int32 ⊕ Nat) := fun h => if x = 0 ∨ x = 1 then some (.inl x, h) else none
def z_xrc (x : Int32) : ZM (Int32 ⊕ Nat) := fun h => if x.toUInt32.toUInt16.toUInt32.toInt32 = x then some (.inl x, h) else none
def z_th {α : Type} (n : Nat) : ZM (α ⊕ Nat) := fun h => some (.inr n, znew h (0, 0) 6)
section ZXEnds
variable {M : ZMe} {pc : Nat} {lv : List (Nat × ZV)}
theorem s_xiret {x : Int32} (hd : decode M.cc pc = .ok (.ireturn, 1)) (hr : M.rt = some .int) : Sim M (zFinX zcI) pc lv [.inl x] (z_xrt x) := by
  intro h v h' e
  cases e
  exact ⟨⟨Nat.le_refl _, Nat.le_refl _⟩, fun X ok a1 a2 a3 a4 H locs ls r hf hl => vx_ret (W.iret ok.2.2.1 ok.2.2.2.1 (ok.2.2.2.2.2.2.2.2.1.trans hr) (fun t ht hW => ⟨⟨x, rfl, rfl⟩, by rw [ht]; exact r⟩) hf hd ok.2.2.2.2.2.2.2.1)⟩
theorem s_xzret {x : Int32} (hd : decode M.cc pc = .ok (.ireturn, 1)) (hr : M.rt = some .boolean) : Sim M (zFinX zcI) pc lv [.inl x] (z_xrz x) := by
  intro h v h' e
  unfold z_xrz at e
  by_cases hc : x = 0 ∨ x = 1
  · rw [if_pos hc] at e
    cases e
    exact ⟨⟨Nat.le_refl _, Nat.le_refl _⟩, fun X ok a1 a2 a3 a4 H locs ls r hf hl => vx_ret (W.zret ok.2.2.1 ok.2.2.2.1 (ok.2.2.2.2.2.2.2.2.1.trans hr) (by rcases hc with q | q <;> rw [q] <;> rfl) (fun t ht hW => ⟨⟨x, rfl, rfl⟩, by rw [ht]; exact r⟩) hf hd ok.2.2.2.2.2.2.2.1)⟩
  · rw [if_neg hc] at e; cases e
theorem s_xcret {x : Int32} (hd : decode M.cc pc = .ok (.ireturn, 1)) (hr : M.rt = some .char) : Sim M (zFinX zcI) pc lv [.inl x] (z_xrc x) := by
  intro h v h' e
  unfold z_xrc at e
  by_cases hc : x.toUInt32.toUInt16.toUInt32.toInt32 = x
  · rw [if_pos hc] at e
    cases e
    exact ⟨⟨Nat.le_refl _, Nat.le_refl _⟩, fun X ok a1 a2 a3 a4 H locs ls r hf hl => vx_ret (W.zret ok.2.2.1 ok.2.2.2.1 (ok.2.2.2.2.2.2.2.2.1.trans hr) (congrArg Value.int hc) (fun t ht hW => ⟨⟨x, rfl, rfl⟩, by rw [ht]; exact r⟩) hf hd ok.2.2.2.2.2.2.2.1)⟩
  · rw [if_neg hc] at e; cases e
theorem zMetX.of {α : Type} {l : Launch} {y : MethodName} {cc : ByteArray} {nL F Lc : Nat} {rt : Option FieldType} {av : List ZV} {lv : List (Nat × ZV)} {cv : α → Option Value} {f : ZM (α ⊕ Nat)}
    (hy : plainName y.cls = true) (hlen : (av.map zcat).sum ≤ nL) (hlv : zargs 0 av = lv) (sim : Sim (l, y.cls, cc, nL, F, Lc, rt, y.name, []) (zFinX cv) 0 lv [] f) : zMetX l y cc nL rt F Lc av cv f := by
  subst hlv
  intro h v h' e
  obtain ⟨mo, w⟩ := sim h v h' e
  refine ⟨mo, fun G hG => vx_ofW (cc := cc) (maxL := nL) (ret := rt) hy rfl ?_⟩
  intro p e s m args below meth c s₁ B hml htb0 hv
  obtain ⟨rfl, hrel, hwarm⟩ := hv
  have hown : s.vm.findClass y.cls = some m.cls := findClass_of_methodNamed B.named
  have hnm : meth.name = y.name := (name_of_methodNamed B.named B.method).1
  have htb : c.exceptionTable.toList = [] := by
    cases hl : c.exceptionTable.toList with
    | nil => rfl
    | cons x xs => exact absurd (by rw [hl]; exact List.mem_cons_self) (fun hx => htb0 x hx)
  have h5 := w (G, zT h, zN h, nL, p, l, e, { frames := F, cells := zT h' - zT h, slots := zN h' - zN h, locals := Lc }, s, m, (av.map zval).toArray, below, meth, c) ⟨hG, hwarm, B.exec, B.bytes, hml, rfl, hown, B.notSynchronized, B.returns, rfl, rfl, rfl, hnm, htb, hrel.1, hrel.2.1, hrel.2.2.1⟩
    (Nat.le_refl _) (Nat.le_refl _) (Nat.le_refl _) (Nat.le_refl _) s.heap [] _ hrel (fun q hq => by cases hq) (by
      have h6 := lv_entry (av.map zval) (n := nL) (by rw [zargs_len]; exact hlen)
      rw [zargs_of] at h6
      exact h6)
  rw [lg_entry_eq]
  have h7 : zT h - zT h = 0 := Nat.sub_self _
  have h8 : zN h - zN h = 0 := Nat.sub_self _
  dsimp only [zW, ZX.t0, ZX.n0, ZX.G, ZX.p, ZX.l, ZX.e, ZX.R, ZX.s, ZX.m, ZX.a, ZX.below, ZX.meth, ZX.c] at h5
  rw [h7, h8] at h5
  exact h5
/-- the words of a throw: all in the tables -/
def zThW (own : String) (ik ic : Nat) (cls : String) (names : List String) : Prop := Cond.classLink own ik cls ∈ lw_tbl ∧ Cond.initialized cls ∈ lw_tbl ∧ (∀ w ∈ vx_atS own ic cls names, w ∈ lw_tbl ∧ zgw w = true) ∧ (∀ w ∈ Cond.classLink own ik cls :: Cond.initialized cls :: vx_atS own ic cls names, vx_ot w = true) ∧ Bundle.fit cls = true ∧ (∀ n ∈ names, Bundle.fit n = true)
theorem zth_rel {G : ZG} {h : ZH} {H H1 : Heap} (r : zRel G h H) (z : H1.size = H.size + 1) (oq : ∀ q, q < H.size → H1[q]? = H[q]?) : zRel G (znew h (0, 0) 6) H1 :=
  zRel_new r (0, 0) 6 z oq (by unfold zC; rw [show zK (znew h (0, 0) 6) (zT h) = (0, 0) by show zw _ _ _ _ = _; simp [zw]]; trivial)
theorem s_throw {α : Type} {cv : α → Option Value} {n ik is ic : Nat} {text : String} {names : List String} {st : List ZV} (hw : zThW M.own ik ic (zEx n) names) (hflags : M.l.stackTraces = false) (hown : M.own = "SpellScribe") (htx : (is, text) ∈ zstrs) (htb : M.tb = []) (d0 : decode M.cc pc = .ok (.new ik, 3)) (d3 : decode M.cc (pc + 3) = .ok (.dup, 1)) (d4 : decode M.cc (pc + 4) = .ok (.ldc is, 2)) (d6 : decode M.cc (pc + 6) = .ok (.invokespecial ic, 3)) (d9 : decode M.cc (pc + 9) = .ok (.athrow, 1)) (hF : names.length + 3 < M.F) (hL : (st.map zcat).sum + (13 * (names.length + 1) + 43) ≤ M.Lc) : Sim M (zFinX cv) pc lv st (z_th n) := by
  intro h v h' e
  cases e
  refine ⟨⟨Nat.le_succ _, Nat.le_add_right _ _⟩, fun X ok a1 a2 a3 a4 H locs ls r hf hl => ?_⟩
  obtain ⟨w1, w2, w3, w4, w5, w6⟩ := hw
  have e1 : zT (znew h (0, 0) 6) = zT h + 1 := rfl
  have e2 : zN (znew h (0, 0) 6) = zN h + 6 := rfl
  rw [e1] at a3
  rw [e2] at a4
  obtain ⟨sa, hsa⟩ := ok.1.2.2.2.2.2.2.2.1 _ htx
  have hsa' : vk_R M.own is text sa X.s := by rw [hown]; exact vk_R.warm ok.2.1 hsa
  have hk : ∀ a : Nat, a < X.G.s0.heap.size → ¬ (fun q => X.G.B ≤ q) a → X.s.heap[a]? = X.G.s0.heap[a]? := fun a h1 _ => ok.2.2.2.2.2.2.2.2.2.2.2.2.2.2.2.2 a h1
  refine zx_throwS (A := fun q => X.G.B ≤ q) ok.2.2.1 ok.2.2.2.1 (by rw [ok.2.2.2.2.2.2.2.2.2.2.2.1]; exact hflags) ok.2.2.2.2.2.2.1 w5 w6 (ok.ws w1 rfl) (ok.ws w2 rfl) hsa' (fun w hw => zw_of2 ok.1 (w3 w hw).1 (w3 w hw).2 ok.2.1 X.a) w4 (vx_Zq.kept (vx_Zq.moved ok.2.1.alike ok.1.2.2.2.2.1) hk) (vx_Zq.kept (vx_Zq.moved ok.2.1.alike ok.1.2.2.2.2.2.1) hk) ⟨by rw [ok.2.2.2.2.2.2.2.2.2.2.2.2.2.2.1, r.1]; exact a1, fun q h1 h2 => ?_, hf⟩ (by rw [ok.2.2.2.2.1, ← ok.2.2.2.2.2.1]; exact hl.1) d0 d3 d4 d6 d9 (by rw [ok.2.2.2.2.2.2.2.2.2.2.2.2.2.1, htb]; intro x hx; cases hx) (by rw [ok.2.2.2.2.2.2.2.2.2.1]; exact hF) (zrestL hL ok) (by omega) (by omega) ok.2.2.2.2.2.2.2.1 (fun t ht z oq => ⟨⟨n, rfl, rfl⟩, zth_rel r z oq⟩) hf (by rw [e1]; omega) (by rw [e2]; omega)
  have h3 : q < X.G.B := Nat.not_le.mp h2
  rw [r.2.2.1 q h3, ok.2.2.2.2.2.2.2.2.2.2.2.2.2.2.2.2 q h3]
theorem s_throwW {α : Type} {cv : α → Option Value} {n ik is ic : Nat} {text : String} {names : List String} {st : List ZV} (hw : zThW M.own ik ic (zEx n) names) (hflags : M.l.stackTraces = false) (hown : M.own = "SpellScribe") (htx : (is, text) ∈ zstrs) (htb : M.tb = []) (d0 : decode M.cc pc = .ok (.new ik, 3)) (d3 : decode M.cc (pc + 3) = .ok (.dup, 1)) (d4 : decode M.cc (pc + 4) = .ok (.ldc_w is, 3)) (d7 : decode M.cc (pc + 7) = .ok (.invokespecial ic, 3)) (d10 : decode M.cc (pc + 10) = .ok (.athrow, 1)) (hF : names.length + 3 < M.F) (hL : (st.map zcat).sum + (13 * (names.length + 1) + 43) ≤ M.Lc) : Sim M (zFinX cv) pc lv st (z_th n) := by
  intro h v h' e
  cases e
  refine ⟨⟨Nat.le_succ _, Nat.le_add_right _ _⟩, fun X ok a1 a2 a3 a4 H locs ls r hf hl => ?_⟩
  obtain ⟨w1, w2, w3, w4, w5, w6⟩ := hw
  have e1 : zT (znew h (0, 0) 6) = zT h + 1 := rfl
  have e2 : zN (znew h (0, 0) 6) = zN h + 6 := rfl
  rw [e1] at a3
  rw [e2] at a4
  obtain ⟨sa, hsa⟩ := ok.1.2.2.2.2.2.2.2.1 _ htx
  have hsa' : vk_R M.own is text sa X.s := by rw [hown]; exact vk_R.warm ok.2.1 hsa
  have hk : ∀ a : Nat, a < X.G.s0.heap.size → ¬ (fun q => X.G.B ≤ q) a → X.s.heap[a]? = X.G.s0.heap[a]? := fun a h1 _ => ok.2.2.2.2.2.2.2.2.2.2.2.2.2.2.2.2 a h1
  refine zx_throwSW (A := fun q => X.G.B ≤ q) ok.2.2.1 ok.2.2.2.1 (by rw [ok.2.2.2.2.2.2.2.2.2.2.2.1]; exact hflags) ok.2.2.2.2.2.2.1 w5 w6 (ok.ws w1 rfl) (ok.ws w2 rfl) hsa' (fun w hw => zw_of2 ok.1 (w3 w hw).1 (w3 w hw).2 ok.2.1 X.a) w4 (vx_Zq.kept (vx_Zq.moved ok.2.1.alike ok.1.2.2.2.2.1) hk) (vx_Zq.kept (vx_Zq.moved ok.2.1.alike ok.1.2.2.2.2.2.1) hk) ⟨by rw [ok.2.2.2.2.2.2.2.2.2.2.2.2.2.2.1, r.1]; exact a1, fun q h1 h2 => ?_, hf⟩ (by rw [ok.2.2.2.2.1, ← ok.2.2.2.2.2.1]; exact hl.1) d0 d3 d4 d7 d10 (by rw [ok.2.2.2.2.2.2.2.2.2.2.2.2.2.1, htb]; intro x hx; cases hx) (by rw [ok.2.2.2.2.2.2.2.2.2.1]; exact hF) (zrestL hL ok) (by omega) (by omega) ok.2.2.2.2.2.2.2.1 (fun t ht z oq => ⟨⟨n, rfl, rfl⟩, zth_rel r z oq⟩) hf (by rw [e1]; omega) (by rw [e2]; omega)
  have h3 : q < X.G.B := Nat.not_le.mp h2
  rw [r.2.2.1 q h3, ok.2.2.2.2.2.2.2.2.2.2.2.2.2.2.2.2 q h3]
end ZXEnds
/-! ===== a call of a method that throws, from a method with handlers ===== -/
def z_bx {α β : Type} (m : ZM (β ⊕ Nat)) (k : β → ZM α) (kx : Nat → ZM α) : ZM α := fun h => match m h with
  | none => none
  | some (.inl v, h') => k v h'
  | some (.inr n, h') => kx n h'
section ZCatch
variable {α β : Type} {M : ZMe} {Qf : ZX → α → ZH → State → Prop} {pc : Nat} {lv : List (Nat × ZV)} {rest : List ZV}
theorem W.zcallX {p : Program} {l : Launch} {e : Env} {R : Room} {s : State} {m : MethodId} {args : Array Value} {below : List Frame} {meth : Method} {c : Code} {H : Heap} {locs : List Loc} {cells slots mc ms : Nat} {Q : State → Prop} {ls : Array Slot} {st0 rs : List Value} {Qa : State → Outcome → State → Prop} {XC : String → State → State → Prop} {free : Addr → Prop}
    (hr : vx_Run p l e R s m args below meth c H locs cells slots mc ms (F0 m pc ls st0) rs Qa XC free)
    (kk : ∀ (v : Option Value) (st₀ t : State) (H1 : Heap) (L : List Loc), Qa st₀ (.returned v) t → t.heap = H1 → (∀ q ∈ L, free q.base) → W p l e R s m args below meth c H1 (locs ++ L) (cells + mc) (slots + ms) Q (F0 m (pc + 3) ls (v.toList ++ rs)))
    (kx : ∀ (q : Addr) (st₀ t : State) (H1 : Heap) (L : List Loc) (E : String) (ce : Cell), XC E st₀ t → t.heap = H1 → (∀ q ∈ L, free q.base) → H1[q]? = some ce → ce.vm = .none → s.vm.findClass E = some ce.cls → vx_W p l e R s m args below meth c H1 (locs ++ L) (cells + mc) (slots + ms) Q (F0 m pc ls rs) q) : W p l e R s m args below meth c H locs cells slots Q (F0 m pc ls st0) := by
  intro T hT X
  rcases hr T hT X with ⟨v, st₀, t, T', L, h0, X', hL, e1, e2, hq, st⟩ | ⟨q, st₀, t, T', L, E, ce, h0, X', hL, e1, e2, hx, hce, hcv, hcl, st⟩
  · obtain ⟨t2, a1, b1⟩ := kk v st₀ t T'.heap L hq e1.symm hL T' rfl X'
    exact ⟨t2, st t2 a1, b1⟩
  · obtain ⟨t2, a1, b1⟩ := kx q st₀ t T'.heap L E ce hx e1.symm hL (by rw [e1]; exact hce) hcv hcl T' rfl X'
    exact ⟨t2, st.trans a1, b1⟩
theorem zcast_0 : Cond.castable (zEx 0) (zEx 0) ∈ lw_tbl := List.mem_append_right _ (List.mem_of_getElem? (i := 714) (by decide +kernel))
theorem zcast_1 : Cond.castable (zEx 1) (zEx 1) ∈ lw_tbl := List.mem_append_right _ (List.mem_of_getElem? (i := 782) (by decide +kernel))
theorem zcast_2 : Cond.castable (zEx 2) (zEx 2) ∈ lw_tbl := List.mem_append_right _ (List.mem_of_getElem? (i := 1043) (by decide +kernel))
theorem zcast_self (n : Nat) (h : n < 3) : Cond.castable (zEx n) (zEx n) ∈ lw_tbl := by
  match n, h with
  | 0, _ => exact zcast_0
  | 1, _ => exact zcast_1
  | 2, _ => exact zcast_2
/-- what a handler's row must be for the exception n thrown at pc -/
def zHand (M : ZMe) (pc n : Nat) (hpc : Nat) : Prop := ∃ (pre : List ExceptionTableEntry) (x : ExceptionTableEntry) (suf : List ExceptionTableEntry), M.tb = pre ++ x :: suf ∧
  (∀ z ∈ pre, covers z pc = false ∨ (z.catchType ≠ 0 ∧ ∃ j, j < 3 ∧ j ≠ n ∧ Cond.classLink M.own z.catchType (zEx j) ∈ lw_tbl)) ∧ covers x pc = true ∧ x.catchType ≠ 0 ∧ Cond.classLink M.own x.catchType (zEx n) ∈ lw_tbl ∧ n < 3 ∧ x.handlerPc = hpc
theorem s_callVX {l : Launch} {y : MethodName} {yb : ByteArray} {yL : Nat} {yr : Option FieldType} {yF yW : Nat} {As : List ZV} {cv : β → Option Value} {f : ZM (β ⊕ Nat)} {r : Option Nat} {c N : Nat} {C : String} {T : u_T} {ty : Nat → FieldType} {index : Nat} {st : List ZV} {kk : β → ZM α} {kx : Nat → ZM α} {st' : β → List ZV} (hM : zMetX l y yb yL yr yF yW (.inr (.inr r) :: As) cv f) (hc : zCls c C T N ty) (hm : zMth y yb yL yr As.length) (hl : M.l = l) (hd : decode M.cc pc = .ok (.invokevirtual index, 3)) (hw : Cond.methodLink M.own index y ∈ lw_tbl) (hi : Cond.instanceMethod y ∈ lw_tbl) (hse : Cond.selects C y y ∈ lw_tbl) (hR : yF + 1 ≤ M.F ∧ 8 + (yL + 11) + yW ≤ M.Lc) (hrest : (rest.map zcat).sum ≤ 8) (hst0 : As.reverse ++ .inr (.inr r) :: rest = st) (hst : ∀ x, (st' x).map zval = (cv x).toList ++ rest.map zval) (hs : ∀ x, Sim M Qf (pc + 3) lv (st' x) (kk x)) (hx : ∀ n, (∀ h, kx n h = none) ∨ ∃ hpc, zHand M pc n hpc ∧ ∀ q, Sim M Qf hpc lv [.inr (.inr (some q))] (kx n)) :
    Sim M Qf pc lv st (z_bx (z_vr c r f) kk kx) := by
  subst hst0
  intro h v h' e
  cases r with
  | none => cases e
  | some a =>
    unfold z_bx z_vr at e
    dsimp only at e
    have hK : zK h a = (c + 6, 0) := by
      by_cases hK : zK h a = (c + 6, 0)
      · exact hK
      · rw [if_neg hK] at e; cases e
    rw [if_pos hK] at e
    cases hf1 : f h with
    | none => rw [hf1] at e; cases e
    | some q1 =>
      obtain ⟨u, h1⟩ := q1
      rw [hf1] at e
      obtain ⟨mo1, hMet⟩ := hM h u h1 hf1
      -- the walk behind the call, of either end
      have key : (zT h1 ≤ zT h' ∧ zN h1 ≤ zN h') ∧ ((∃ x, u = .inl x ∧ kk x h1 = some (v, h')) ∨ ∃ n hpc, u = .inr n ∧ zHand M pc n hpc ∧ (∀ q, Sim M Qf hpc lv [.inr (.inr (some q))] (kx n)) ∧ kx n h1 = some (v, h')) := by
        cases u with
        | inl x =>
          dsimp only at e
          exact ⟨(hs x h1 v h' e).1, Or.inl ⟨x, rfl, e⟩⟩
        | inr n =>
          dsimp only at e
          rcases hx n with q | ⟨hpc, q1, q2⟩
          · rw [q] at e; cases e
          · exact ⟨(q2 0 h1 v h' e).1, Or.inr ⟨n, hpc, rfl, q1, q2, e⟩⟩
      obtain ⟨mo, alt⟩ := key
      refine ⟨⟨Nat.le_trans mo1.1 mo.1, Nat.le_trans mo1.2 mo.2⟩, fun X ok a1 a2 a3 a4 H locs ls rel hf hlv => ?_⟩
      obtain ⟨hB, hP⟩ := zRel_obj rel hK
      have hMet' := hMet X.G ok.1
      have e9 : X.l = l := ok.2.2.2.2.2.2.2.2.2.2.2.1.trans hl
      rw [← e9] at hMet'
      have b1 : zT h - X.t0 + (zT h1 - zT h) = zT h1 - X.t0 := by omega
      have b2 : zN h - X.n0 + (zN h1 - zN h) = zN h1 - X.n0 := by omega
      refine W.zcallX (vx_runV (As := As.map zval) (rest := rest.map zval) (b := a) (zFix ok) hMet' ⟨zCallB ok hm hw hR _ _, ok.ws hi rfl, ok.ws hse rfl⟩ ⟨zPcBlind, va_recv ok.K hP (ci := c) (q0 := 0) hc.1 rfl, fun U hU hW => ⟨rfl, by rw [hU]; exact rel, State.WarmedH.trans ok.2.1 hW⟩⟩ rfl (by simp) (hlv.1.trans ok.2.2.2.2.2.1) (by simp [zval, va_rf]) (lv_room (zrest hrest)) hd ⟨by omega, by omega⟩) (fun v0 st₀ t H1 L hq hH hL => ?_) (fun q st₀ t H1 L E ce hq hH hL hce hcv hcl => ?_)
      · obtain ⟨⟨x, hu, hv⟩, hrel⟩ := hq
        rcases alt with ⟨x', hu', ek⟩ | ⟨n, hpc, hu', -⟩
        · have ex : x = x' := by rw [hu] at hu'; exact Sum.inl.inj hu'
          subst ex
          have hv' : v0 = cv x := Outcome.returned.inj hv
          subst hv'
          rw [hH] at hrel
          have w1 := (hs x h1 v h' ek).2 X ok (by omega) (by omega) a3 a4 H1 (locs ++ L) ls hrel (fun q hq => (List.mem_append.mp hq).elim (hf q) (hL q)) hlv
          rw [hst] at w1
          rw [b1, b2]
          exact w1
        · rw [hu] at hu'; cases hu'
      · obtain ⟨⟨n, hu, hE⟩, hrel⟩ := hq
        rcases alt with ⟨x', hu', -⟩ | ⟨n', hpc, hu', hh, hsx, ek⟩
        · rw [hu] at hu'; cases hu'
        · have en : n = n' := by rw [hu] at hu'; exact Sum.inr.inj hu'
          subst en
          subst hE
          rw [hH] at hrel
          obtain ⟨pre, x, suf, t1, t2, t3, t4, t5, t6, t7⟩ := hh
          have w1 := (hsx q h1 v h' ek).2 X ok (by omega) (by omega) a3 a4 H1 (locs ++ L) ls hrel (fun q hq => (List.mem_append.mp hq).elim (hf q) (hL q)) hlv
          rw [b1, b2]
          refine vx_catch ok.2.2.2.2.2.2.1 pre x suf (by rw [ok.2.2.2.2.2.2.2.2.2.2.2.2.2.1]; exact t1) (fun z hz => ?_) t3 t4 (ok.ws t5 rfl) (zw_of2 ok.1 (zcast_self n t6) rfl ok.2.1 X.a) hce hcv hcl (by rw [t7]; exact w1)
          rcases t2 z hz with q | ⟨q1, j, q2, q3, q4⟩
          · exact Or.inl q
          · exact Or.inr ⟨q1, zEx j, ok.ws q4 rfl, va_Nc.moved ok.2.1.alike (ok.1.2.2.2.2.2.2.2.2.1 n j t6 q2 (fun z => q3 z.symm))⟩
end ZCatch
/-! ===== methods with handlers: their contracts, their calls ===== -/
def zMetH {α : Type} (l : Launch) (y : MethodName) (cc : ByteArray) (nL : Nat) (rt : Option FieldType) (hh : List (Nat × Nat × Nat × Nat)) (F Lc : Nat) (av : List ZV) (cv : α → Option Value) (f : ZM α) : Prop :=
  ∀ (h : ZH) (v : α) (h' : ZH), f h = some (v, h') → (zT h ≤ zT h' ∧ zN h ≤ zN h') ∧ ∀ (G : ZG), ZGok G →
    Met l y [.codeWith y cc nL rt hh] { frames := F, cells := zT h' - zT h, slots := zN h' - zN h, locals := Lc }
      (va_Pc (av.map zval) (fun U => zRel G h U.heap ∧ G.s0.WarmedH U.vm)) (fun _ _ o t => o = .returned (cv v) ∧ zRel G h' t.heap) (zT h' - zT h) (zN h' - zN h) (fun q => G.B ≤ q)
theorem zMetH.of {α : Type} {l : Launch} {y : MethodName} {cc : ByteArray} {nL F Lc : Nat} {rt : Option FieldType} {hh : List (Nat × Nat × Nat × Nat)} {av : List ZV} {lv : List (Nat × ZV)} {cv : α → Option Value} {f : ZM α}
    (hy : plainName y.cls = true) (hlen : (av.map zcat).sum ≤ nL) (hlv : zargs 0 av = lv) (sim : Sim (l, y.cls, cc, nL, F, Lc, rt, y.name, tableOf hh) (zFin cv) 0 lv [] f) : zMetH l y cc nL rt hh F Lc av cv f := by
  subst hlv
  intro h v h' e
  obtain ⟨mo, w⟩ := sim h v h' e
  refine ⟨mo, fun G hG => va_MetW (cc := cc) (maxL := nL) (ret := rt) (hh := hh) hy rfl ?_⟩
  intro p e s m args below meth c s₁ B hml hv
  obtain ⟨rfl, hrel, hwarm⟩ := hv
  have hown : s.vm.findClass y.cls = some m.cls := findClass_of_methodNamed B.named
  have hnm : meth.name = y.name := (name_of_methodNamed B.named B.method).1
  have htb : c.exceptionTable.toList = tableOf hh := vx_table (x := y) B (atoms_spec (ws := [.codeWith y cc nL rt hh]) B.pre _ List.mem_cons_self)
  have h5 := w (G, zT h, zN h, nL, p, l, e, { frames := F, cells := zT h' - zT h, slots := zN h' - zN h, locals := Lc }, s, m, (av.map zval).toArray, below, meth, c) ⟨hG, hwarm, B.exec, B.bytes, hml, rfl, hown, B.notSynchronized, B.returns, rfl, rfl, rfl, hnm, htb, hrel.1, hrel.2.1, hrel.2.2.1⟩
    (Nat.le_refl _) (Nat.le_refl _) (Nat.le_refl _) (Nat.le_refl _) s.heap [] _ hrel (fun q hq => by cases hq) (by
      have h6 := lv_entry (av.map zval) (n := nL) (by rw [zargs_len]; exact hlen)
      rw [zargs_of] at h6
      exact h6)
  rw [lg_entry_eq]
  have h7 : zT h - zT h = 0 := Nat.sub_self _
  have h8 : zN h - zN h = 0 := Nat.sub_self _
  dsimp only [zW, ZX.t0, ZX.n0, ZX.G, ZX.p, ZX.l, ZX.e, ZX.R, ZX.s, ZX.m, ZX.a, ZX.below, ZX.meth, ZX.c] at h5
  rw [h7, h8] at h5
  exact h5
/-- a method with handlers of the table -/
def zMthH (y : MethodName) (cc : ByteArray) (nL : Nat) (rt : Option FieldType) (hh : List (Nat × Nat × Nat × Nat)) (n : Nat) : Prop :=
  Cond.codeWith y cc nL rt hh ∈ lw_tbl ∧ Cond.initialized y.cls ∈ lw_tbl ∧ y.cls ≠ "java/lang/invoke/MethodHandle" ∧ y.cls ≠ "java/lang/invoke/VarHandle" ∧ (parseMethodDescriptor y.desc).map (fun d => d.parameters.length) = some n
section ZCallH
variable {α : Type} {M : ZMe} {Qf : ZX → α → ZH → State → Prop} {pc : Nat} {lv : List (Nat × ZV)} {rest : List ZV}
theorem s_cSH {l : Launch} {y : MethodName} {yb : ByteArray} {yL : Nat} {yr : Option FieldType} {hh : List (Nat × Nat × Nat × Nat)} {yF yW : Nat} {As : List ZV} {f : ZM Int32} {index : Nat} {st : List ZV} {kk : Int32 → ZM α} (hM : zMetH l y yb yL yr hh yF yW As zcI f) (hm : zMthH y yb yL yr hh As.length) (hl : M.l = l) (hd : decode M.cc pc = .ok (.invokestatic index, 3)) (hw : Cond.methodLink M.own index y ∈ lw_tbl) (hi : Cond.static y ∈ lw_tbl) (hR : yF + 1 ≤ M.F ∧ 8 + (yL + 11) + yW ≤ M.Lc) (hrest : (rest.map zcat).sum ≤ 8) (hst0 : As.reverse ++ rest = st) (hs : ∀ x, Sim M Qf (pc + 3) lv (.inl x :: rest) (kk x)) :
    Sim M Qf pc lv st (z_b f kk) := by
  subst hst0
  intro h v h' e
  obtain ⟨x, h1, e1, e2⟩ := z_b_inv e
  obtain ⟨mo1, hMet⟩ := hM h x h1 e1
  obtain ⟨mo, w⟩ := hs x h1 v h' e2
  refine ⟨⟨Nat.le_trans mo1.1 mo.1, Nat.le_trans mo1.2 mo.2⟩, fun X ok a1 a2 a3 a4 H locs ls rel hf hlv => ?_⟩
  have hMet' := hMet X.G ok.1
  have e9 : X.l = l := ok.2.2.2.2.2.2.2.2.2.2.2.1.trans hl
  rw [← e9] at hMet'
  obtain ⟨m1, m2, m3, m4, m5⟩ := hm
  have b1 : zT h - X.t0 + (zT h1 - zT h) = zT h1 - X.t0 := by omega
  have b2 : zN h - X.n0 + (zN h1 - zN h) = zN h1 - X.n0 := by omega
  have cw : vx_CSW X.R X.s X.a M.own index y yb yL yr hh [.codeWith y yb yL yr hh] { frames := yF, cells := zT h1 - zT h, slots := zN h1 - zN h, locals := yW } (zT h1 - zT h) (zN h1 - zN h) As.length := by
    refine ⟨⟨rfl, rfl, by rw [ok.2.2.2.2.2.2.2.2.2.1]; exact hR.1, by rw [ok.2.2.2.2.2.2.2.2.2.2.1]; exact hR.2, fun w hw a' U hU => ?_, List.mem_cons_self⟩, ok.ws m1 rfl, ok.ws m2 rfl, ⟨m3, m4⟩, fun sig h => ?_, ok.ws hw rfl, ok.ws hi rfl⟩
    · rw [List.mem_singleton.mp hw]
      exact zw_of ok.1 m1 rfl (State.WarmedH.trans ok.2.1 hU) a'
    · rw [h] at m5
      exact (Option.some.inj m5).symm
  refine W.zcall (vx_runSW (As := As.map zval) (rest := rest.map zval) (zFix ok) hMet' cw ⟨zPcBlind, fun U hU hW => ⟨rfl, by rw [hU]; exact rel, State.WarmedH.trans ok.2.1 hW⟩⟩ rfl (by simp) (hlv.1.trans ok.2.2.2.2.2.1) (by simp) (lv_room (zrest hrest)) hd ⟨by omega, by omega⟩) (fun v0 st₀ t H1 L hq hH hL => ?_)
  obtain ⟨hv, hrel⟩ := hq
  have hv' : v0 = zcI x := Outcome.returned.inj hv
  subst hv'
  rw [hH] at hrel
  have w1 := w X ok (by omega) (by omega) a3 a4 H1 (locs ++ L) ls hrel (fun q hq => (List.mem_append.mp hq).elim (hf q) (hL q)) hlv
  rw [b1, b2]
  exact w1
/-! handlers of one, two or three exceptions -/
def z_h1 (a : Nat) (k1 : ZM α) : Nat → ZM α := fun n => if n = a then k1 else z_fl
def z_h2 (a b : Nat) (k1 k2 : ZM α) : Nat → ZM α := fun n => if n = a then k1 else if n = b then k2 else z_fl
def z_h3 (a b c : Nat) (k1 k2 k3 : ZM α) : Nat → ZM α := fun n => if n = a then k1 else if n = b then k2 else if n = c then k3 else z_fl
theorem s_h1 {a pa : Nat} {k1 : ZM α} (h1 : zHand M pc a pa) (s1 : ∀ q, Sim M Qf pa lv [.inr (.inr (some q))] k1) :
    ∀ n, (∀ h, z_h1 a k1 n h = none) ∨ ∃ hpc, zHand M pc n hpc ∧ ∀ q, Sim M Qf hpc lv [.inr (.inr (some q))] (z_h1 a k1 n) := by
  intro n
  unfold z_h1
  by_cases e1 : n = a
  · subst e1; rw [if_pos rfl]; exact Or.inr ⟨pa, h1, s1⟩
  · rw [if_neg e1]; exact Or.inl fun h => rfl
theorem s_h2 {a b pa pb : Nat} {k1 k2 : ZM α} (h1 : zHand M pc a pa) (h2 : zHand M pc b pb) (s1 : ∀ q, Sim M Qf pa lv [.inr (.inr (some q))] k1) (s2 : ∀ q, Sim M Qf pb lv [.inr (.inr (some q))] k2) :
    ∀ n, (∀ h, z_h2 a b k1 k2 n h = none) ∨ ∃ hpc, zHand M pc n hpc ∧ ∀ q, Sim M Qf hpc lv [.inr (.inr (some q))] (z_h2 a b k1 k2 n) := by
  intro n
  unfold z_h2
  by_cases e1 : n = a
  · subst e1; rw [if_pos rfl]; exact Or.inr ⟨pa, h1, s1⟩
  · rw [if_neg e1]
    by_cases e2 : n = b
    · subst e2; rw [if_pos rfl]; exact Or.inr ⟨pb, h2, s2⟩
    · rw [if_neg e2]; exact Or.inl fun h => rfl
theorem s_h3 {a b c pa pb pd : Nat} {k1 k2 k3 : ZM α} (h1 : zHand M pc a pa) (h2 : zHand M pc b pb) (h3 : zHand M pc c pd) (s1 : ∀ q, Sim M Qf pa lv [.inr (.inr (some q))] k1) (s2 : ∀ q, Sim M Qf pb lv [.inr (.inr (some q))] k2) (s3 : ∀ q, Sim M Qf pd lv [.inr (.inr (some q))] k3) :
    ∀ n, (∀ h, z_h3 a b c k1 k2 k3 n h = none) ∨ ∃ hpc, zHand M pc n hpc ∧ ∀ q, Sim M Qf hpc lv [.inr (.inr (some q))] (z_h3 a b c k1 k2 k3 n) := by
  intro n
  unfold z_h3
  by_cases e1 : n = a
  · subst e1; rw [if_pos rfl]; exact Or.inr ⟨pa, h1, s1⟩
  · rw [if_neg e1]
    by_cases e2 : n = b
    · subst e2; rw [if_pos rfl]; exact Or.inr ⟨pb, h2, s2⟩
    · rw [if_neg e2]
      by_cases e3 : n = c
      · subst e3; rw [if_pos rfl]; exact Or.inr ⟨pd, h3, s3⟩
      · rw [if_neg e3]; exact Or.inl fun h => rfl
end ZCallH
/-! ===== the script, the switch ===== -/
section ZLaw
variable {α : Type} {M : ZMe} {Qf : ZX → α → ZH → State → Prop} {pc : Nat} {lv : List (Nat × ZV)} {st : List ZV}
theorem s_scN {r : Option Nat} {kk : Int32 → ZM α} (hd : decode M.cc pc = .ok (.arraylength, 1)) (hs : ∀ x, Sim M Qf (pc + 1) lv (.inl x :: st) (kk x)) : Sim M Qf pc lv (.inr (.inr r) :: st) (z_b (z_sN r) kk) := by
  refine Sim.read hs (fun h v h' e => ?_)
  unfold z_sN at e
  split at e
  · rename_i hr
    cases e
    refine ⟨rfl, fun X ok H locs cs n Q ls rel hl w => ?_⟩
    have hX := ok.1.2.2.2.2.2.2.2.2.2.1
    have hb := ok.1.2.2.2.2.2.2.2.2.2.2
    obtain ⟨scr, q1, q2, q3, q4, q5⟩ := hX
    have eD := rel.2.2.2.2
    rw [eD] at hr w
    subst hr
    exact W.alen (n := Int32.ofNat X.G.sL) ok.2.2.1 ok.2.2.2.1 (by rw [rel.2.2.1 _ hb]; exact q1) (State.isArrayOf_alike ok.2.1.alike q2) (by rw [q4]) rfl rfl hd w
  · cases e
theorem s_scA {r : Option Nat} {i : Int32} {kk : Int32 → ZM α} (hd : decode M.cc pc = .ok (.iaload, 1)) (hs : ∀ x, Sim M Qf (pc + 1) lv (.inl x :: st) (kk x)) : Sim M Qf pc lv (.inl i :: .inr (.inr r) :: st) (z_b (z_sA r i) kk) := by
  refine Sim.read hs (fun h v h' e => ?_)
  unfold z_sA at e
  split at e
  · rename_i hr
    cases e
    refine ⟨rfl, fun X ok H locs cs n Q ls rel hl w => ?_⟩
    have hX := ok.1.2.2.2.2.2.2.2.2.2.1
    have hb := ok.1.2.2.2.2.2.2.2.2.2.2
    obtain ⟨scr, q1, q2, q3, q4, q5⟩ := hX
    have eD := rel.2.2.2.2
    rw [eD] at hr w
    obtain ⟨hr, hi⟩ := hr
    subst hr
    have hlt : i.toNatClampNeg < X.G.sL := Nat.not_le.mp fun q => hi (Or.inr q)
    exact W.iald (v := .int (X.G.sx i.toNatClampNeg)) ok.2.2.1 ok.2.2.2.1 (by rw [rel.2.2.1 _ hb]; exact q1) (State.isArrayOf_alike ok.2.1.alike q2) q3 (by rw [q4]; exact hi) (q5 _ hlt) rfl rfl hd w
  · cases e
def z_sw {α : Type} (x : Int32) (hi : Nat) (kf : Nat → ZM α) (kd : ZM α) : ZM α := if x.toInt < 0 ∨ (hi : Int) < x.toInt then kd else kf x.toInt.toNat
theorem s_switch {dflt : Int} {offs : Array Int} {len hi dt : Nat} {x : Int32} {tg : Nat → Nat} {kf : Nat → ZM α} {kd : ZM α} (hd : decode M.cc pc = .ok (.tableswitch dflt 0 (hi : Int) offs, len)) (ho : ∀ j, j ≤ hi → ∃ off, offs[j]? = some off ∧ (pc : Int) + off = (tg j : Int)) (hdt : (pc : Int) + dflt = (dt : Int)) (h1 : ∀ j, j ≤ hi → Sim M Qf (tg j) lv st (kf j)) (h2 : Sim M Qf dt lv st kd) : Sim M Qf pc lv (.inl x :: st) (z_sw x hi kf kd) := by
  unfold z_sw
  by_cases hc : x.toInt < 0 ∨ (hi : Int) < x.toInt
  · rw [if_pos hc]
    exact h2.go (fun X ok H locs c n Q ls hl kk => lv_tableOut ok.2.2.1 ok.2.2.2.1 hd hc hdt (kk ls hl))
  · rw [if_neg hc]
    have hj : x.toInt.toNat ≤ hi := by omega
    obtain ⟨off, e1, e2⟩ := ho _ hj
    exact (h1 _ hj).go (fun X ok H locs c n Q ls hl kk => lv_tableIn ok.2.2.1 ok.2.2.2.1 hd (fun q => hc (Or.inl q)) (fun q => hc (Or.inr q)) (by rw [Int.sub_zero]; exact e1) e2 (kk ls hl))
end ZLaw
