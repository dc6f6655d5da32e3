/-! ===== ends of methods, contracts, calls ===== -/
def z_rz (x : Int32) : ZM Int32 := fun h => if x = 0 ∨ x = 1 then some (x, h) else none
def z_rc (x : Int32) : ZM Int32 := fun h => if x.toUInt32.toUInt16.toUInt32.toInt32 = x then some (x, h) else none
abbrev zcI : Int32 → Option Value := fun x => some (.int x)
abbrev zcL : Int64 → Option Value := fun x => some (.long x)
abbrev zcR : Option Nat → Option Value := fun x => some (va_rf x)
abbrev zcV : Unit → Option Value := fun _ => none
section ZEnds
variable {M : ZMe} {pc : Nat} {lv : List (Nat × ZV)}
theorem s_iret {x : Int32} (hd : decode M.cc pc = .ok (.ireturn, 1)) (hr : M.rt = some .int) : Sim M (zFin zcI) pc lv [.inl x] (z_rt x) := by
  intro h v h' e
  cases e
  exact ⟨⟨Nat.le_refl _, Nat.le_refl _⟩, fun X ok a1 a2 a3 a4 H locs ls r hf hl => W.iret ok.2.2.1 ok.2.2.2.1 (ok.2.2.2.2.2.2.2.2.1.trans hr) (fun t ht hW => ⟨rfl, by rw [ht]; exact r⟩) hf hd ok.2.2.2.2.2.2.2.1⟩
theorem s_zret {x : Int32} (hd : decode M.cc pc = .ok (.ireturn, 1)) (hr : M.rt = some .boolean) : Sim M (zFin zcI) pc lv [.inl x] (z_rz x) := by
  intro h v h' e
  unfold z_rz at e
  by_cases hc : x = 0 ∨ x = 1
  · rw [if_pos hc] at e
    cases e
    exact ⟨⟨Nat.le_refl _, Nat.le_refl _⟩, fun X ok a1 a2 a3 a4 H locs ls r hf hl => W.zret ok.2.2.1 ok.2.2.2.1 (ok.2.2.2.2.2.2.2.2.1.trans hr) (by rcases hc with q | q <;> rw [q] <;> rfl) (fun t ht hW => ⟨rfl, by rw [ht]; exact r⟩) hf hd ok.2.2.2.2.2.2.2.1⟩
  · rw [if_neg hc] at e; cases e
theorem s_cret {x : Int32} (hd : decode M.cc pc = .ok (.ireturn, 1)) (hr : M.rt = some .char) : Sim M (zFin zcI) pc lv [.inl x] (z_rc x) := by
  intro h v h' e
  unfold z_rc at e
  by_cases hc : x.toUInt32.toUInt16.toUInt32.toInt32 = x
  · rw [if_pos hc] at e
    cases e
    exact ⟨⟨Nat.le_refl _, Nat.le_refl _⟩, fun X ok a1 a2 a3 a4 H locs ls r hf hl => W.zret ok.2.2.1 ok.2.2.2.1 (ok.2.2.2.2.2.2.2.2.1.trans hr) (congrArg Value.int hc) (fun t ht hW => ⟨rfl, by rw [ht]; exact r⟩) hf hd ok.2.2.2.2.2.2.2.1⟩
  · rw [if_neg hc] at e; cases e
theorem s_lret {x : Int64} (hd : decode M.cc pc = .ok (.lreturn, 1)) (hr : M.rt = some .long) : Sim M (zFin zcL) pc lv [.inr (.inl x)] (z_rt x) := by
  intro h v h' e
  cases e
  exact ⟨⟨Nat.le_refl _, Nat.le_refl _⟩, fun X ok a1 a2 a3 a4 H locs ls r hf hl => W.lret ok.2.2.1 ok.2.2.2.1 (ok.2.2.2.2.2.2.2.2.1.trans hr) (fun t ht hW => ⟨rfl, by rw [ht]; exact r⟩) hf hd ok.2.2.2.2.2.2.2.1⟩
theorem s_vret (hd : decode M.cc pc = .ok (.return_, 1)) (hr : M.rt = none) : Sim M (zFin zcV) pc lv [] (z_rt ()) := by
  intro h v h' e
  cases e
  exact ⟨⟨Nat.le_refl _, Nat.le_refl _⟩, fun X ok a1 a2 a3 a4 H locs ls r hf hl => W.vret ok.2.2.1 ok.2.2.2.1 (ok.2.2.2.2.2.2.2.2.1.trans hr) (fun t ht hW => ⟨rfl, by rw [ht]; exact r⟩) hf hd ok.2.2.2.2.2.2.2.1⟩
theorem zrf_or (r : Option Nat) : va_rf r = .null ∨ ∃ a, va_rf r = .ref a := by
  cases r with
  | none => exact Or.inl rfl
  | some a => exact Or.inr ⟨a, rfl⟩
theorem s_aret {t : FieldType} {x : Option Nat} (hd : decode M.cc pc = .ok (.areturn, 1)) (hr : M.rt = some t) (ht : (∃ n, t = .object n) ∨ ∃ u, t = .array u) : Sim M (zFin zcR) pc lv [.inr (.inr x)] (z_rt x) := by
  intro h v h' e
  cases e
  exact ⟨⟨Nat.le_refl _, Nat.le_refl _⟩, fun X ok a1 a2 a3 a4 H locs ls r hf hl => W.aret ok.2.2.1 ok.2.2.2.1 (ok.2.2.2.2.2.2.2.2.1.trans hr) ht (zrf_or _) (fun t ht hW => ⟨rfl, by rw [ht]; exact r⟩) hf hd ok.2.2.2.2.2.2.2.1⟩
end ZEnds
/-! contracts -/
def zargs : Nat → List ZV → List (Nat × ZV)
  | _, [] => []
  | i, v :: vs => (i, v) :: zargs (if zcat v = 2 then i + 2 else i + 1) vs
theorem zargs_of (av : List ZV) : ∀ i, lv_args i (av.map zval) = zlv (zargs i av) := by
  induction av with
  | nil => intro i; rfl
  | cons v vs ih =>
    intro i
    show (i, zval v) :: lv_args (if (zval v).category = 2 then i + 2 else i + 1) (vs.map zval) = (i, zval v) :: zlv (zargs (if zcat v = 2 then i + 2 else i + 1) vs)
    rw [zval_cat, ih]
theorem zargs_len (av : List ZV) : (lg_sl (av.map zval)).length = (av.map zcat).sum := by
  induction av with
  | nil => rfl
  | cons v vs ih =>
    show ((if (zval v).category = 2 then [Slot.val (zval v), .second] else [.val (zval v)]) ++ lg_sl (vs.map zval)).length = zcat v + (vs.map zcat).sum
    rw [List.length_append, ih, zval_cat]
    rcases v with x | x | r <;> rfl
theorem zMet.of {α : Type} {l : Launch} {y : MethodName} {cc : ByteArray} {nL F Lc : Nat} {rt : Option FieldType} {av : List ZV} {lv : List (Nat × ZV)} {cv : α → Option Value} {f : ZM α}
    (hy : plainName y.cls = true) (hlen : (av.map zcat).sum ≤ nL) (hlv : zargs 0 av = lv) (sim : Sim (l, y.cls, cc, nL, F, Lc, rt, y.name, []) (zFin cv) 0 lv [] f) : zMet l y cc nL rt F Lc av cv f := by
  subst hlv
  intro h v h' e
  obtain ⟨mo, w⟩ := sim h v h' e
  refine ⟨mo, fun G hG => Met.ofW (cc := cc) (maxL := nL) (ret := rt) hy rfl ?_⟩
  intro p e s m args below meth c s₁ B hml hv
  obtain ⟨rfl, hrel, hwarm⟩ := hv
  have hown : s.vm.findClass y.cls = some m.cls := findClass_of_methodNamed B.named
  have hnm : meth.name = y.name := (name_of_methodNamed B.named B.method).1
  have htb : c.exceptionTable.toList = [] := by
    obtain ⟨meth9, c9, h1, h2, -, -, -, -, h7, -⟩ := Cond.code_spec B.named (atoms_spec (ws := [.code y cc nL rt]) B.pre _ List.mem_cons_self)
    cases Option.some.inj (h1.symm.trans B.method)
    cases Option.some.inj (h2.symm.trans (Stand.of_body B).code)
    rw [Array.isEmpty_iff.mp h7]
  have h5 := w (G, zT h, zN h, nL, p, l, e, { frames := F, cells := zT h' - zT h, slots := zN h' - zN h, locals := Lc }, s, m, (av.map zval).toArray, below, meth, c) ⟨hG, hwarm, B.exec, B.bytes, hml, rfl, hown, B.notSynchronized, B.returns, rfl, rfl, rfl, hnm, htb, hrel.1, hrel.2.1, hrel.2.2.1⟩
    (Nat.le_refl _) (Nat.le_refl _) (Nat.le_refl _) (Nat.le_refl _) s.heap [] _ hrel (fun q hq => by cases hq) (by
      have h6 := lv_entry (av.map zval) (n := nL) (by rw [zargs_len]; exact hlen)
      rw [zargs_of] at h6
      exact h6)
  rw [lg_entry_eq]
  have h7 : zT h - zT h = 0 := Nat.sub_self _
  have h8 : zN h - zN h = 0 := Nat.sub_self _
  dsimp only [zW, ZX.t0, ZX.n0, ZX.G, ZX.p, ZX.l, ZX.e, ZX.R, ZX.s, ZX.m, ZX.a, ZX.below, ZX.meth, ZX.c] at h5
  rw [h7, h8] at h5
  exact h5
section ZCall
variable {α β : Type} {M : ZMe} {Qf : ZX → α → ZH → State → Prop} {pc : Nat} {lv : List (Nat × ZV)} {rest : List ZV}
theorem W.zcall {p : Program} {l : Launch} {e : Env} {R : Room} {s : State} {m : MethodId} {args : Array Value} {below : List Frame} {meth : Method} {c : Code} {H : Heap} {locs : List Loc} {cells slots mc ms : Nat} {Q : State → Prop} {ls : Array Slot} {st0 rs : List Value} {Qa : State → Outcome → State → Prop} {free : Addr → Prop}
    (hr : va_Run p l e R s m args below meth c H locs cells slots mc ms (F0 m pc ls st0) rs Qa free)
    (kk : ∀ (v : Option Value) (st₀ t : State) (H1 : Heap) (L : List Loc), Qa st₀ (.returned v) t → t.heap = H1 → (∀ q ∈ L, free q.base) → W p l e R s m args below meth c H1 (locs ++ L) (cells + mc) (slots + ms) Q (F0 m (pc + 3) ls (v.toList ++ rs))) : W p l e R s m args below meth c H locs cells slots Q (F0 m pc ls st0) := by
  intro T hT X
  obtain ⟨v, st₀, t, T', L, h0, X', hL, e1, e2, hq, st⟩ := hr T hT X
  obtain ⟨t2, a1, b1⟩ := kk v st₀ t T'.heap L hq e1.symm hL T' rfl X'
  exact ⟨t2, st t2 a1, b1⟩
theorem W.zcall5 {p : Program} {l : Launch} {e : Env} {R : Room} {s : State} {m : MethodId} {args : Array Value} {below : List Frame} {meth : Method} {c : Code} {H : Heap} {locs : List Loc} {cells slots mc ms : Nat} {Q : State → Prop} {ls : Array Slot} {st0 rs : List Value} {Qa : State → Outcome → State → Prop} {free : Addr → Prop}
    (hr : va_Run5 p l e R s m args below meth c H locs cells slots mc ms (F0 m pc ls st0) rs Qa free)
    (kk : ∀ (v : Option Value) (st₀ t : State) (H1 : Heap) (L : List Loc), Qa st₀ (.returned v) t → t.heap = H1 → (∀ q ∈ L, free q.base) → W p l e R s m args below meth c H1 (locs ++ L) (cells + mc) (slots + ms) Q (F0 m (pc + 5) ls (v.toList ++ rs))) : W p l e R s m args below meth c H locs cells slots Q (F0 m pc ls st0) := by
  intro T hT X
  obtain ⟨v, st₀, t, T', L, h0, X', hL, e1, e2, hq, st⟩ := hr T hT X
  obtain ⟨t2, a1, b1⟩ := kk v st₀ t T'.heap L hq e1.symm hL T' rfl X'
  exact ⟨t2, st t2 a1, b1⟩
/-- a call of a method with a contract: 'run' is the kit's row -/
theorem Sim.call {pc' : Nat} {l : Launch} {y : MethodName} {yb : ByteArray} {yL : Nat} {yr : Option FieldType} {yF yW : Nat} {av : List ZV} {cv : β → Option Value} {f : ZM β} (hM : zMet l y yb yL yr yF yW av cv f) {kk : β → ZM α} {st : List ZV} {st' : β → List ZV} (hst : ∀ x, (st' x).map zval = (cv x).toList ++ rest.map zval)
    (hs : ∀ x, Sim M Qf pc' lv (st' x) (kk x)) {g : ZM β} (hg : ∀ h q, g h = some q → f h = some q)
    (run : ∀ (h : ZH) (q : β × ZH), g h = some q → ∀ (X : ZX) (_ : zOk X M) (H : Heap) (locs : List Loc) (c n mc ms : Nat) (Q : State → Prop) (ls : Array Slot) (Qa : Array Value → State → Outcome → State → Prop) (fr : Addr → Prop), zRel X.G h H → lv_has ls X.nL (zlv lv) → c + mc ≤ X.R.cells → n + ms ≤ X.R.slots →
      Met l y [.code y yb yL yr] { frames := yF, cells := mc, slots := ms, locals := yW } (va_Pc (av.map zval) (fun U => zRel X.G h U.heap ∧ X.G.s0.WarmedH U.vm)) Qa mc ms fr →
      (∀ (v : Option Value) (st₀ t : State) (H1 : Heap) (L : List Loc), Qa (av.map zval).toArray st₀ (.returned v) t → t.heap = H1 → (∀ q ∈ L, fr q.base) → zW X H1 (locs ++ L) (c + mc) (n + ms) Q (F0 X.m pc' ls (v.toList ++ rest.map zval))) → zW X H locs c n Q (F0 X.m pc ls (st.map zval))) :
    Sim M Qf pc lv st (z_b g kk) := by
  intro h v h' e
  obtain ⟨x, h1, e1, e2⟩ := z_b_inv e
  have e3 := hg h _ e1
  obtain ⟨mo, w⟩ := hs x h1 v h' e2
  obtain ⟨mo1, hMet⟩ := hM h x h1 e3
  refine ⟨⟨Nat.le_trans mo1.1 mo.1, Nat.le_trans mo1.2 mo.2⟩, fun X ok a1 a2 a3 a4 H locs ls r hf hl => ?_⟩
  · refine run h _ e1 X ok H locs _ _ _ _ _ ls _ _ r hl ?_ ?_ (hMet X.G ok.1) (fun v0 st₀ t H1 L hq hH hL => ?_)
    · omega
    · omega
    · obtain ⟨hv, hrel⟩ := hq
      have hv' : v0 = cv x := Outcome.returned.inj hv
      subst hv'
      rw [hH] at hrel
      have w1 := w X ok (by omega) (by omega) a3 a4 H1 (locs ++ L) ls hrel (fun q hq => (List.mem_append.mp hq).elim (hf q) (hL q)) hl
      rw [hst] at w1
      rw [show zT h - X.t0 + (zT h1 - zT h) = zT h1 - X.t0 by omega, show zN h - X.n0 + (zN h1 - zN h) = zN h1 - X.n0 by omega]
      exact w1
theorem zrest {rest : List ZV} (h : (rest.map zcat).sum ≤ 8) : ((rest.map zval).map fun v => v.category).sum ≤ 8 := by
  rw [List.map_map]
  have e : ((fun v : Value => v.category) ∘ zval) = zcat := funext zval_cat
  rw [e]; exact h
theorem zCallB {X : ZX} (ok : zOk X M) {y : MethodName} {yb : ByteArray} {yL yF yW n index : Nat} {yr : Option FieldType} (hm : zMth y yb yL yr n) (hl : Cond.methodLink M.own index y ∈ lw_tbl) (hR : yF + 1 ≤ M.F ∧ 8 + (yL + 11) + yW ≤ M.Lc) (mc ms : Nat) :
    CallB X.R X.s X.a M.own index y yb yL yr [.code y yb yL yr] { frames := yF, cells := mc, slots := ms, locals := yW } mc ms n := by
  obtain ⟨m1, m2, m3, m4, m5⟩ := hm
  refine ⟨rfl, rfl, by rw [ok.2.2.2.2.2.2.2.2.2.1]; exact hR.1, by rw [ok.2.2.2.2.2.2.2.2.2.2.1]; exact hR.2, fun w hw a' U hU => ?_, List.mem_cons_self, ok.ws m1 rfl, ok.ws m2 rfl, ⟨m3, m4⟩, fun sig h => ?_, ok.ws hl rfl⟩
  · rw [List.mem_singleton.mp hw]
    exact zw_of ok.1 m1 rfl (State.WarmedH.trans ok.2.1 hU) a'
  · rw [h] at m5
    exact (Option.some.inj m5).symm
theorem zCallN {X : ZX} (ok : zOk X M) {y : MethodName} {yb : ByteArray} {yL yF yW n index : Nat} {yr : Option FieldType} {host : String} (hm : zMth y yb yL yr n) (hl : Cond.methodLinkNest M.own index y host ∈ lw_tbl) (hR : yF + 1 ≤ M.F ∧ 8 + (yL + 11) + yW ≤ M.Lc) (mc ms : Nat) :
    va_CN X.R X.s X.a M.own index y host yb yL yr [.code y yb yL yr] { frames := yF, cells := mc, slots := ms, locals := yW } mc ms n := by
  obtain ⟨m1, m2, m3, m4, m5⟩ := hm
  refine ⟨⟨rfl, rfl, by rw [ok.2.2.2.2.2.2.2.2.2.1]; exact hR.1, by rw [ok.2.2.2.2.2.2.2.2.2.2.1]; exact hR.2, fun w hw a' U hU => ?_, List.mem_cons_self⟩, ok.ws m1 rfl, ok.ws m2 rfl, ⟨m3, m4⟩, fun sig h => ?_, va_Nw.use rfl (va_Nw.warmM ok.2.1 (va_Nw.of rfl (ok.1.1 _ hl)))⟩
  · rw [List.mem_singleton.mp hw]
    exact zw_of ok.1 m1 rfl (State.WarmedH.trans ok.2.1 hU) a'
  · rw [h] at m5
    exact (Option.some.inj m5).symm
theorem zFix {X : ZX} (ok : zOk X M) : CallFix X.p X.m X.c M.cc M.nL X.s X.a [] M.own := ⟨ok.2.2.1, ok.2.2.2.1, ok.2.2.2.2.1, ok.2.2.2.2.2.2.1, fun w hw => by cases hw⟩
theorem zPcBlind {av : List Value} {G : ZG} {h : ZH} : FrameBlind (va_Pc av (fun U => zRel G h U.heap ∧ G.s0.WarmedH U.vm)) := fun _ _ _ _ q => ⟨q.1, q.2.1, q.2.2⟩
theorem s_callV {l : Launch} {y : MethodName} {yb : ByteArray} {yL : Nat} {yr : Option FieldType} {yF yW : Nat} {As : List ZV} {cv : β → Option Value} {f : ZM β} {r : Option Nat} {c N : Nat} {C : String} {T : u_T} {ty : Nat → FieldType} {index : Nat} {st : List ZV} {kk : β → ZM α} {st' : β → List ZV} (hM : zMet l y yb yL yr yF yW (.inr (.inr r) :: As) cv f) (hc : zCls c C T N ty) (hm : zMth y yb yL yr As.length) (hl : M.l = l) (hd : decode M.cc pc = .ok (.invokevirtual index, 3)) (hw : Cond.methodLink M.own index y ∈ lw_tbl) (hi : Cond.instanceMethod y ∈ lw_tbl) (hse : Cond.selects C y y ∈ lw_tbl) (hR : yF + 1 ≤ M.F ∧ 8 + (yL + 11) + yW ≤ M.Lc) (hrest : (rest.map zcat).sum ≤ 8) (hst0 : As.reverse ++ .inr (.inr r) :: rest = st) (hst : ∀ x, (st' x).map zval = (cv x).toList ++ rest.map zval) (hs : ∀ x, Sim M Qf (pc + 3) lv (st' x) (kk x)) :
    Sim M Qf pc lv st (z_b (z_vr c r f) kk) := by
  subst hst0
  refine Sim.call hM hst hs (fun h q e => ?_) (fun h q e X ok H locs cs n mc ms Q ls Qa fr rel hlv h1 h2 hMet w => ?_)
  · unfold z_vr at e
    cases r with
    | none => cases e
    | some a =>
      dsimp only at e
      split at e
      · exact e
      · cases e
  · unfold z_vr at e
    cases r with
    | none => cases e
    | some a =>
      dsimp only at e
      split at e
      · rename_i hK
        obtain ⟨hB, hP⟩ := zRel_obj rel hK
        have hMet' : Met X.l y [.code y yb yL yr] { frames := yF, cells := mc, slots := ms, locals := yW } (va_Pc (Value.ref a :: As.map zval) (fun U => zRel X.G h U.heap ∧ X.G.s0.WarmedH U.vm)) Qa mc ms fr := by
          have e9 : X.l = l := ok.2.2.2.2.2.2.2.2.2.2.2.1.trans hl
          rw [e9]; exact hMet
        refine W.zcall (va_runV (As := As.map zval) (rest := rest.map zval) (b := a) (zFix ok) hMet' ⟨zCallB ok hm hw hR mc ms, ok.ws hi rfl, ok.ws hse rfl⟩ ⟨zPcBlind, va_recv ok.K hP (ci := c) (q0 := 0) hc.1 rfl, fun U hU hW => ⟨rfl, by rw [hU]; exact rel, State.WarmedH.trans ok.2.1 hW⟩⟩ rfl (by simp) (hlv.1.trans ok.2.2.2.2.2.1) (by simp [zval, va_rf]) (lv_room (zrest hrest)) hd ⟨h1, h2⟩) w
      · cases e
theorem s_callVN {l : Launch} {y : MethodName} {yb : ByteArray} {yL : Nat} {yr : Option FieldType} {yF yW : Nat} {As : List ZV} {cv : β → Option Value} {f : ZM β} {r : Option Nat} {c N : Nat} {C : String} {T : u_T} {ty : Nat → FieldType} {index : Nat} {host : String} {st : List ZV} {kk : β → ZM α} {st' : β → List ZV} (hM : zMet l y yb yL yr yF yW (.inr (.inr r) :: As) cv f) (hc : zCls c C T N ty) (hm : zMth y yb yL yr As.length) (hl : M.l = l) (hd : decode M.cc pc = .ok (.invokevirtual index, 3)) (hw : Cond.methodLinkNest M.own index y host ∈ lw_tbl) (hi : Cond.instanceMethod y ∈ lw_tbl) (hse : Cond.selects C y y ∈ lw_tbl) (hR : yF + 1 ≤ M.F ∧ 8 + (yL + 11) + yW ≤ M.Lc) (hrest : (rest.map zcat).sum ≤ 8) (hst0 : As.reverse ++ .inr (.inr r) :: rest = st) (hst : ∀ x, (st' x).map zval = (cv x).toList ++ rest.map zval) (hs : ∀ x, Sim M Qf (pc + 3) lv (st' x) (kk x)) :
    Sim M Qf pc lv st (z_b (z_vr c r f) kk) := by
  subst hst0
  refine Sim.call hM hst hs (fun h q e => ?_) (fun h q e X ok H locs cs n mc ms Q ls Qa fr rel hlv h1 h2 hMet w => ?_)
  · unfold z_vr at e
    cases r with
    | none => cases e
    | some a =>
      dsimp only at e
      split at e
      · exact e
      · cases e
  · unfold z_vr at e
    cases r with
    | none => cases e
    | some a =>
      dsimp only at e
      split at e
      · rename_i hK
        obtain ⟨hB, hP⟩ := zRel_obj rel hK
        have hMet' : Met X.l y [.code y yb yL yr] { frames := yF, cells := mc, slots := ms, locals := yW } (va_Pc (Value.ref a :: As.map zval) (fun U => zRel X.G h U.heap ∧ X.G.s0.WarmedH U.vm)) Qa mc ms fr := by
          have e9 : X.l = l := ok.2.2.2.2.2.2.2.2.2.2.2.1.trans hl
          rw [e9]; exact hMet
        refine W.zcall (va_runVN (As := As.map zval) (rest := rest.map zval) (b := a) (zFix ok) hMet' ⟨zCallN ok hm hw hR mc ms, ok.ws hi rfl, ok.ws hse rfl⟩ ⟨zPcBlind, va_recv ok.K hP (ci := c) (q0 := 0) hc.1 rfl, fun U hU hW => ⟨rfl, by rw [hU]; exact rel, State.WarmedH.trans ok.2.1 hW⟩⟩ rfl (by simp) (hlv.1.trans ok.2.2.2.2.2.1) (by simp [zval, va_rf]) (lv_room (zrest hrest)) hd ⟨h1, h2⟩) w
      · cases e
theorem s_callS {l : Launch} {y : MethodName} {yb : ByteArray} {yL : Nat} {yr : Option FieldType} {yF yW : Nat} {As : List ZV} {cv : β → Option Value} {f : ZM β} {index : Nat} {st : List ZV} {kk : β → ZM α} {st' : β → List ZV} (hM : zMet l y yb yL yr yF yW As cv f) (hm : zMth y yb yL yr As.length) (hl : M.l = l) (hd : decode M.cc pc = .ok (.invokestatic index, 3)) (hw : Cond.methodLink M.own index y ∈ lw_tbl) (hi : Cond.static y ∈ lw_tbl) (hR : yF + 1 ≤ M.F ∧ 8 + (yL + 11) + yW ≤ M.Lc) (hrest : (rest.map zcat).sum ≤ 8) (hst0 : As.reverse ++ rest = st) (hst : ∀ x, (st' x).map zval = (cv x).toList ++ rest.map zval) (hs : ∀ x, Sim M Qf (pc + 3) lv (st' x) (kk x)) :
    Sim M Qf pc lv st (z_b f kk) := by
  subst hst0
  refine Sim.call hM hst hs (fun h q e => e) (fun h q e X ok H locs cs n mc ms Q ls Qa fr rel hlv h1 h2 hMet w => ?_)
  have hMet' : Met X.l y [.code y yb yL yr] { frames := yF, cells := mc, slots := ms, locals := yW } (va_Pc (As.map zval) (fun U => zRel X.G h U.heap ∧ X.G.s0.WarmedH U.vm)) Qa mc ms fr := by
    have e9 : X.l = l := ok.2.2.2.2.2.2.2.2.2.2.2.1.trans hl
    rw [e9]; exact hMet
  exact W.zcall (va_runS (As := As.map zval) (rest := rest.map zval) (zFix ok) hMet' ⟨zCallB ok hm hw hR mc ms, ok.ws hi rfl⟩ ⟨zPcBlind, fun U hU hW => ⟨rfl, by rw [hU]; exact rel, State.WarmedH.trans ok.2.1 hW⟩⟩ rfl (by simp) (hlv.1.trans ok.2.2.2.2.2.1) (by simp) (lv_room (zrest hrest)) hd ⟨h1, h2⟩) w
theorem s_callSN {l : Launch} {y : MethodName} {yb : ByteArray} {yL : Nat} {yr : Option FieldType} {yF yW : Nat} {As : List ZV} {cv : β → Option Value} {f : ZM β} {index : Nat} {host : String} {st : List ZV} {kk : β → ZM α} {st' : β → List ZV} (hM : zMet l y yb yL yr yF yW As cv f) (hm : zMth y yb yL yr As.length) (hl : M.l = l) (hd : decode M.cc pc = .ok (.invokestatic index, 3)) (hw : Cond.methodLinkNest M.own index y host ∈ lw_tbl) (hi : Cond.static y ∈ lw_tbl) (hR : yF + 1 ≤ M.F ∧ 8 + (yL + 11) + yW ≤ M.Lc) (hrest : (rest.map zcat).sum ≤ 8) (hst0 : As.reverse ++ rest = st) (hst : ∀ x, (st' x).map zval = (cv x).toList ++ rest.map zval) (hs : ∀ x, Sim M Qf (pc + 3) lv (st' x) (kk x)) :
    Sim M Qf pc lv st (z_b f kk) := by
  subst hst0
  refine Sim.call hM hst hs (fun h q e => e) (fun h q e X ok H locs cs n mc ms Q ls Qa fr rel hlv h1 h2 hMet w => ?_)
  have hMet' : Met X.l y [.code y yb yL yr] { frames := yF, cells := mc, slots := ms, locals := yW } (va_Pc (As.map zval) (fun U => zRel X.G h U.heap ∧ X.G.s0.WarmedH U.vm)) Qa mc ms fr := by
    have e9 : X.l = l := ok.2.2.2.2.2.2.2.2.2.2.2.1.trans hl
    rw [e9]; exact hMet
  exact W.zcall (va_runSN (As := As.map zval) (rest := rest.map zval) (zFix ok) hMet' ⟨zCallN ok hm hw hR mc ms, ok.ws hi rfl, trivial⟩ ⟨zPcBlind, fun U hU hW => ⟨rfl, by rw [hU]; exact rel, State.WarmedH.trans ok.2.1 hW⟩⟩ rfl (by simp) (hlv.1.trans ok.2.2.2.2.2.1) (by simp) (lv_room (zrest hrest)) hd ⟨h1, h2⟩) w
/-- a constructor's call: the object is there already -/
def z_ii (r : Option Nat) (f : ZM Unit) : ZM Unit := fun h => match r with
  | none => none
  | some _ => f h
theorem s_callI {l : Launch} {y : MethodName} {yb : ByteArray} {yL : Nat} {yF yW : Nat} {As : List ZV} {f : ZM Unit} {r : Option Nat} {index : Nat} {st : List ZV} {kk : Unit → ZM α} (hM : zMet l y yb yL none yF yW (.inr (.inr r) :: As) zcV f) (hm : zMth y yb yL none As.length) (hy : y.name = "<init>") (hl : M.l = l) (hd : decode M.cc pc = .ok (.invokespecial index, 3)) (hw : Cond.methodLink M.own index y ∈ lw_tbl) (hi : Cond.instanceMethod y ∈ lw_tbl) (hR : yF + 1 ≤ M.F ∧ 8 + (yL + 11) + yW ≤ M.Lc) (hrest : (rest.map zcat).sum ≤ 8) (hst0 : As.reverse ++ .inr (.inr r) :: rest = st) (hs : Sim M Qf (pc + 3) lv rest (kk ())) :
    Sim M Qf pc lv st (z_b (z_ii r f) kk) := by
  subst hst0
  refine Sim.call (rest := rest) hM (st' := fun _ => rest) (fun _ => rfl) (fun _ => hs) (fun h q e => ?_) (fun h q e X ok H locs cs n mc ms Q ls Qa fr rel hlv h1 h2 hMet w => ?_)
  · cases r with
    | none => cases e
    | some a => exact e
  · cases r with
    | none => cases e
    | some a =>
      have hMet' : Met X.l y [.code y yb yL none] { frames := yF, cells := mc, slots := ms, locals := yW } (va_Pc (Value.ref a :: As.map zval) (fun U => zRel X.G h U.heap ∧ X.G.s0.WarmedH U.vm)) Qa mc ms fr := by
        have e9 : X.l = l := ok.2.2.2.2.2.2.2.2.2.2.2.1.trans hl
        rw [e9]; exact hMet
      exact W.zcall (va_runI (As := As.map zval) (rest := rest.map zval) (b := a) (zFix ok) hMet' ⟨zCallB ok hm hw hR mc ms, hy, ok.ws hi rfl⟩ ⟨zPcBlind, fun U hU hW => ⟨rfl, by rw [hU]; exact rel, State.WarmedH.trans ok.2.1 hW⟩⟩ rfl (by simp) (hlv.1.trans ok.2.2.2.2.2.1) (by simp [zval, va_rf]) (lv_room (zrest hrest)) hd ⟨h1, h2⟩) w
theorem s_callIN {l : Launch} {y : MethodName} {yb : ByteArray} {yL : Nat} {yF yW : Nat} {As : List ZV} {f : ZM Unit} {r : Option Nat} {index : Nat} {host : String} {st : List ZV} {kk : Unit → ZM α} (hM : zMet l y yb yL none yF yW (.inr (.inr r) :: As) zcV f) (hm : zMth y yb yL none As.length) (hy : y.name = "<init>") (hl : M.l = l) (hd : decode M.cc pc = .ok (.invokespecial index, 3)) (hw : Cond.methodLinkNest M.own index y host ∈ lw_tbl) (hi : Cond.instanceMethod y ∈ lw_tbl) (hR : yF + 1 ≤ M.F ∧ 8 + (yL + 11) + yW ≤ M.Lc) (hrest : (rest.map zcat).sum ≤ 8) (hst0 : As.reverse ++ .inr (.inr r) :: rest = st) (hs : Sim M Qf (pc + 3) lv rest (kk ())) :
    Sim M Qf pc lv st (z_b (z_ii r f) kk) := by
  subst hst0
  refine Sim.call (rest := rest) hM (st' := fun _ => rest) (fun _ => rfl) (fun _ => hs) (fun h q e => ?_) (fun h q e X ok H locs cs n mc ms Q ls Qa fr rel hlv h1 h2 hMet w => ?_)
  · cases r with
    | none => cases e
    | some a => exact e
  · cases r with
    | none => cases e
    | some a =>
      have hMet' : Met X.l y [.code y yb yL none] { frames := yF, cells := mc, slots := ms, locals := yW } (va_Pc (Value.ref a :: As.map zval) (fun U => zRel X.G h U.heap ∧ X.G.s0.WarmedH U.vm)) Qa mc ms fr := by
        have e9 : X.l = l := ok.2.2.2.2.2.2.2.2.2.2.2.1.trans hl
        rw [e9]; exact hMet
      exact W.zcall (va_runIN (As := As.map zval) (rest := rest.map zval) (b := a) (zFix ok) hMet' ⟨zCallN ok hm hw hR mc ms, hy, ok.ws hi rfl⟩ ⟨zPcBlind, fun U hU hW => ⟨rfl, by rw [hU]; exact rel, State.WarmedH.trans ok.2.1 hW⟩⟩ rfl (by simp) (hlv.1.trans ok.2.2.2.2.2.1) (by simp [zval, va_rf]) (lv_room (zrest hrest)) hd ⟨h1, h2⟩) w
/-- Object's constructor -/
theorem s_objInit {index : Nat} {a : Option Nat} {k : ZM α} (hd : decode M.cc pc = .ok (.invokespecial index, 3)) (hw : Cond.methodLink M.own index objectInit ∈ lw_tbl) (hi : Cond.instanceMethod objectInit ∈ lw_tbl) (hcode : Cond.code objectInit ⟨#[0xb1]⟩ 1 none ∈ lw_tbl) (hR : 1 ≤ M.F ∧ 12 ≤ M.Lc) (hs : Sim M Qf (pc + 3) lv [] k) : Sim M Qf pc lv [.inr (.inr a)] (z_b (z_ii a (z_rt ())) (fun _ => k)) := by
  cases a with
  | none => intro h v h' e; cases e
  | some a =>
    have hs' : Sim M Qf (pc + 3) lv [] (z_b (z_ii (some a) (z_rt ())) (fun _ => k)) := hs
    exact hs'.go (fun X ok H locs c n Q ls hl kk => W.objInit ok.2.2.1 ok.2.2.2.1 ok.2.2.2.2.2.2.1 (ok.ws hw rfl) (ok.ws hi rfl) (ok.ws hcode rfl) rfl (by rw [ok.2.2.2.2.1, ← ok.2.2.2.2.2.1]; exact hl.1) rfl hd (by rw [ok.2.2.2.2.2.2.2.2.2.1]; exact hR.1) (by rw [ok.2.2.2.2.2.2.2.2.2.2.1]; exact hR.2) (kk ls hl))
end ZCall
