/-! ===== calls through an interface; a cast ===== -/
section ZIface
variable {α β : Type} {M : ZMe} {Qf : ZX → α → ZH → State → Prop} {pc : Nat} {lv : List (Nat × ZV)} {rest : List ZV}
/-- which implementation an interface's method has in a class, as the tables tell it -/
def zFace (C : String) (x y : MethodName) (n : Nat) : Prop := (x.cls ≠ "java/lang/invoke/MethodHandle" ∧ x.cls ≠ "java/lang/invoke/VarHandle" ∧ (parseMethodDescriptor x.desc).map (fun d => d.parameters.length) = some n) ∧ Cond.selects C x y ∈ lw_tbl ∧ Cond.instanceMethod y ∈ lw_tbl ∧ Cond.declares x ∈ lw_tbl ∧ Cond.interfaceMethod x.cls x.cls x.name x.desc ∈ lw_tbl ∧ Cond.publicMethod y ∈ lw_tbl ∧ Cond.unhidden C x.name x.desc ∈ lw_tbl ∧ Cond.castable C x.cls ∈ lw_tbl
theorem s_callF {l : Launch} {x y : MethodName} {yb : ByteArray} {yL : Nat} {yr : Option FieldType} {yF yW : Nat} {As : List ZV} {cv : β → Option Value} {f : ZM β} {r : Option Nat} {c N : Nat} {C : String} {T : u_T} {ty : Nat → FieldType} {index count : Nat} {st : List ZV} {kk : β → ZM α} {st' : β → List ZV} (hM : zMet l y yb yL yr yF yW (.inr (.inr r) :: As) cv f) (hc : zCls c C T N ty) (hm : zMth y yb yL yr As.length) (hF : zFace C x y As.length) (hl : M.l = l) (hd : decode M.cc pc = .ok (.invokeinterface index count, 5)) (hw : Cond.methodLink M.own index x ∈ lw_tbl) (hR : yF + 1 ≤ M.F ∧ 8 + (yL + 11) + yW ≤ M.Lc) (hrest : (rest.map zcat).sum ≤ 8) (hst0 : As.reverse ++ .inr (.inr r) :: rest = st) (hst : ∀ x, (st' x).map zval = (cv x).toList ++ rest.map zval) (hs : ∀ x, Sim M Qf (pc + 5) lv (st' x) (kk x)) :
    Sim M Qf pc lv st (z_b (z_vr c r f) kk) := by
  subst hst0
  refine Sim.call hM hst hs (fun h q e => ?_) (fun h q e X ok H locs cs n mc ms Q ls Qa fr rel hlv h1 h2 hMet w => ?_)
  · unfold z_vr at e
    cases r with
    | none => cases e
    | some a =>
      dsimp only at e
      split at e
      · exact e
      · cases e
  · unfold z_vr at e
    cases r with
    | none => cases e
    | some a =>
      dsimp only at e
      split at e
      · rename_i hK
        obtain ⟨hB, hP⟩ := zRel_obj rel hK
        have hMet' : Met X.l y [.code y yb yL yr] { frames := yF, cells := mc, slots := ms, locals := yW } (va_Pc (Value.ref a :: As.map zval) (fun U => zRel X.G h U.heap ∧ X.G.s0.WarmedH U.vm)) Qa mc ms fr := by
          have e9 : X.l = l := ok.2.2.2.2.2.2.2.2.2.2.2.1.trans hl
          rw [e9]; exact hMet
        obtain ⟨⟨g1, g2, g3⟩, g4, g5, g6, g7, g8, g9, g10⟩ := hF
        have hFw : va_Fw C x y X.s := va_Fw.moved ⟨g1, g2⟩ ok.2.1.alike (va_Fw.of (ok.1.1 _ g6) (ok.1.1 _ g7) (ok.1.1 _ g8) (ok.1.1 _ g9) (ok.1.1 _ g10))
        obtain ⟨m1, m2, m3, m4, m5⟩ := id hm
        have hCI : va_CI X.R X.s X.a M.own C index x y yb yL yr [.code y yb yL yr] { frames := yF, cells := mc, slots := ms, locals := yW } mc ms As.length := by
          refine ⟨⟨rfl, rfl, by rw [ok.2.2.2.2.2.2.2.2.2.1]; exact hR.1, by rw [ok.2.2.2.2.2.2.2.2.2.2.1]; exact hR.2, fun w hw a' U hU => ?_, List.mem_cons_self⟩, ok.ws hw rfl, va_any rfl hFw.1, va_any rfl hFw.2.1, ok.ws g4 rfl, ok.ws g5 rfl, va_any rfl hFw.2.2.1, va_any rfl hFw.2.2.2.1, va_any rfl hFw.2.2.2.2, ok.ws m2 rfl, ok.ws m1 rfl, ⟨g1, g2⟩, fun sig h => ?_⟩
          · rw [List.mem_singleton.mp hw]
            exact zw_of ok.1 m1 rfl (State.WarmedH.trans ok.2.1 hU) a'
          · rw [h] at g3
            exact (Option.some.inj g3).symm
        have hat : ClassAt X.s C (X.G.D.1 c) := (ok.K.1 c _ hc.1).2
        refine W.zcall5 (va_runF (As := As.map zval) (rest := rest.map zval) (b := a) hat (zFix ok) hMet' hCI ⟨zPcBlind, va_recv ok.K hP (ci := c) (q0 := 0) hc.1 rfl, fun U hU hW => ⟨rfl, by rw [hU]; exact rel, State.WarmedH.trans ok.2.1 hW⟩⟩ rfl (by simp) (hlv.1.trans ok.2.2.2.2.2.1) (by simp [zval, va_rf]) (lv_room (zrest hrest)) hd ⟨h1, h2⟩) w
      · cases e
/-- a cast of an object to its own class; null passes -/
def z_ct (c : Nat) (r : Option Nat) : ZM Unit := fun h => match r with
  | none => some ((), h)
  | some a => if zK h a = (c + 6, 0) then some ((), h) else none
theorem s_cast {c N : Nat} {C : String} {T : u_T} {ty : Nat → FieldType} {index : Nat} {r : Option Nat} {kk : Unit → ZM α} (hc : zCls c C T N ty) (hd : decode M.cc pc = .ok (.checkcast index, 3)) (hw : Cond.classLink M.own index C ∈ lw_tbl) (hs : Sim M Qf (pc + 3) lv (.inr (.inr r) :: rest) (kk ())) : Sim M Qf pc lv (.inr (.inr r) :: rest) (z_b (z_ct c r) kk) := by
  refine Sim.read (st' := fun _ => .inr (.inr r) :: rest) (fun _ => hs) (fun h v h' e => ?_)
  unfold z_ct at e
  cases r with
  | none =>
    cases e
    exact ⟨rfl, fun X ok H locs cs n Q ls rel hl w => lv_castN ok.2.2.1 ok.2.2.2.1 hd w⟩
  | some a =>
    dsimp only at e
    split at e
    · rename_i hK
      cases e
      refine ⟨rfl, fun X ok H locs cs n Q ls rel hl w => ?_⟩
      obtain ⟨-, hP⟩ := zRel_obj rel hK
      exact va_castS ok.2.2.1 ok.2.2.2.1 ok.2.2.2.2.2.2.1 (ok.ws hw rfl) (ok.K.1 c _ hc.1).2 (va_recv ok.K hP (ci := c) (q0 := 0) hc.1 rfl) hd w
    · cases e
end ZIface
