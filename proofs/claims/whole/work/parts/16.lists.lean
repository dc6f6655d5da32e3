/-! ===== rows for lists: references in arrays, the mirror of Object[], inherited fields under another name ===== -/
def zob (k : Nat × Nat) : Prop := k = (12, 0) ∨ k = (13, 0) ∨ k = (14, 0)
section ZLists
variable {α : Type} {M : ZMe} {Qf : ZX → α → ZH → State → Prop} {pc : Nat} {lv : List (Nat × ZV)} {st : List ZV}
theorem zob_cell {X : ZX} {M : ZMe} (ok : zOk X M) {h : ZH} {H : Heap} (rel : zRel X.G h H) {b : Nat} (hb : zob (zK h b)) : ∃ cellV : Cell, H[b]? = some cellV ∧ cellV.vm = .none ∧ (∃ kv, X.s.vm.classes[cellV.cls]? = some kv) ∧ ∀ comp, X.s.vm.findClass "java/lang/Object" = some comp → X.s.vm.assignable cellV.cls comp = true := by
  have key : ∀ (c N : Nat) (C : String) (T : u_T) (ty : Nat → FieldType), zCls c C T N ty → Cond.castable C "java/lang/Object" ∈ lw_tbl → zK h b = (c + 6, 0) → ∃ cellV : Cell, H[b]? = some cellV ∧ cellV.vm = .none ∧ (∃ kv, X.s.vm.classes[cellV.cls]? = some kv) ∧ ∀ comp, X.s.vm.findClass "java/lang/Object" = some comp → X.s.vm.assignable cellV.cls comp = true := by
    intro c N C T ty hc hw hK
    obtain ⟨-, hP⟩ := zRel_obj rel hK
    obtain ⟨r', hr', cellV, g1, g2, g3, -⟩ := hP 0 _ rfl
    have hcls := (ok.K.1 c _ hc.1).2
    obtain ⟨c0, t1, f1, f2, f3⟩ := Cond.castable_spec (zw_of2 ok.1 hw rfl ok.2.1 X.a)
    have e0 : c0 = X.G.D.1 c := Option.some.inj (f1.symm.trans hcls.1)
    subst e0
    obtain ⟨kC, hkC, -⟩ := hcls.2
    have g2' : cellV.cls = X.G.D.1 c := g2
    refine ⟨cellV, g1, g3, ⟨kC, by rw [g2']; exact hkC⟩, fun comp hcomp => ?_⟩
    have e1 : t1 = comp := Option.some.inj (f2.symm.trans hcomp)
    subst e1
    rw [g2']
    exact f3
  rcases hb with q | q | q
  · exact key 6 _ _ _ _ cls_6 w_1856 q
  · exact key 7 _ _ _ _ cls_7 w_1855 q
  · exact key 8 _ _ _ _ cls_8 w_1851 q
theorem s_aald {r : Option Nat} {i : Int32} {kk : Option Nat → ZM α} (hd : decode M.cc pc = .ok (.aaload, 1)) (hs : ∀ x, Sim M Qf (pc + 1) lv (.inr (.inr x) :: st) (kk x)) : Sim M Qf pc lv (.inl i :: .inr (.inr r) :: st) (z_b (z_aR r i) kk) := by
  refine Sim.read hs (fun h v h' e => ?_)
  unfold z_aR at e
  cases r with
  | none => cases e
  | some a =>
    dsimp only at e
    by_cases hK : (zK h a).1 = 3 ∧ ¬ (i < 0 ∨ (zK h a).2 ≤ i.toNatClampNeg)
    · rw [if_pos hK] at e
      cases e
      refine ⟨rfl, fun X ok H locs cs n Q ls rel hl w => ?_⟩
      obtain ⟨-, hP⟩ := zRel_refs rel hK.1
      exact va_aldq ok.2.2.1 ok.2.2.2.1 ok.K hP 0 2 rfl rfl hK.2 hd w
    · rw [if_neg hK] at e; cases e
/-- a store of an object's reference -/
def z_sR (r : Option Nat) (i : Int32) (v : Option Nat) : ZM Unit := fun h => match r, v with
  | some a, some b => if (zK h a).1 = 3 ∧ ¬ (i < 0 ∨ (zK h a).2 ≤ i.toNatClampNeg) ∧ (zK h b = (12, 0) ∨ zK h b = (13, 0) ∨ zK h b = (14, 0)) then some ((), zsR h a i.toNatClampNeg (some b)) else none
  | _, _ => none
theorem s_aast {r : Option Nat} {i : Int32} {x : Option Nat} {kk : Unit → ZM α} (hd : decode M.cc pc = .ok (.aastore, 1)) (hs : Sim M Qf (pc + 1) lv st (kk ())) : Sim M Qf pc lv (.inr (.inr x) :: .inl i :: .inr (.inr r) :: st) (z_b (z_sR r i x) kk) := by
  refine Sim.write (st' := fun _ => st) (fun _ => hs) (fun h v h1 e => ?_)
  unfold z_sR at e
  cases r with
  | none => cases e
  | some a =>
    cases x with
    | none => cases e
    | some b =>
      dsimp only at e
      by_cases hK : (zK h a).1 = 3 ∧ ¬ (i < 0 ∨ (zK h a).2 ≤ i.toNatClampNeg) ∧ (zK h b = (12, 0) ∨ zK h b = (13, 0) ∨ zK h b = (14, 0))
      · rw [if_pos hK] at e
        cases e
        refine ⟨rfl, rfl, fun X ok H locs cs n Q ls rel hl w => ?_⟩
        obtain ⟨hB, hP⟩ := zRel_refs rel hK.1
        have hlt : i.toNatClampNeg < (zK h a).2 := Nat.not_le.mp fun q => hK.2.1 (Or.inr q)
        have h0 : ¬ i < 0 := fun q => hK.2.1 (Or.inl q)
        obtain ⟨cellV, g1, g3, ⟨kv, hkv⟩, hasg⟩ := zob_cell ok rel hK.2.2
        obtain ⟨kA, comp, k1, k2, k3, -⟩ := (ok.K.2 2 _ rfl).2
        obtain ⟨kE, hkE, -⟩ := Vm.findClass_spec k3
        refine W.aast ok.2.2.1 ok.2.2.2.1 (hP 0 _ rfl) (fun q h => by cases h) (fun h => by cases h) k1 k2 rfl hkE ⟨h0, by show _ < (arrV _ _ _).slots.size; rw [arrV_size]; exact hlt⟩ g1 (fun q h => by rw [g3] at h; cases h) hkv (hasg _ k3) rfl rfl hd fun H' e1 e2 e3 => ?_
        refine w H' _ (zRel_put rel hB rfl e2 e3 rfl (fun b hb => ?_) (fun b hb => ?_) (fun b hb => ?_) rfl ?_) hB
        all_goals first | (funext j; simp [zsR, zI, zL, zR, zu, hb]; done) | skip
        unfold zC
        rw [show zK (zsR h a i.toNatClampNeg (some b)) a = (3, (zK h a).2) by rw [← hK.1]; rfl]
        refine ⟨hB, ?_⟩
        rw [e1, vp_cell_q, vp_cell_q, arrV_store]
        congr 2
        funext q
        by_cases hq : q = i.toNatClampNeg
        · subst hq
          simp [updV, zsR, zR, zu, va_rf]
        · simp [updV, zsR, zR, zu, hq]
      · rw [if_neg hK] at e; cases e
/-- the static empty array of lists -/
theorem s_gets {index : Nat} {kk : Option Nat → ZM α} (hd : decode M.cc pc = .ok (.getstatic index, 3)) (hw : Cond.fieldLink M.own index "java/util/ArrayList" "DEFAULTCAPACITY_EMPTY_ELEMENTDATA" "[Ljava/lang/Object;" ∈ lw_tbl) (hs : ∀ x, Sim M Qf (pc + 3) lv (.inr (.inr x) :: st) (kk x)) : Sim M Qf pc lv st (z_b z_df kk) := by
  refine Sim.read hs (fun h v h' e => ?_)
  unfold z_df at e
  cases e
  refine ⟨rfl, fun X ok H locs cs n Q ls rel hl w => ?_⟩
  have eD := rel.2.2.2.2
  rw [eD] at w
  obtain ⟨cf, kf, fi, f, a, cell, h1, h2, h3, h4, h5, h6, h7, h8⟩ := va_Z.moved ok.2.1.alike ok.1.2.2.1
  have ha : a < X.G.B := (Array.getElem?_eq_some_iff.mp h5).1
  exact W.gets ok.2.2.1 ok.2.2.2.1 ok.2.2.2.2.2.2.1 (ok.ws hw rfl) h1 h2 h3 h4 (by rw [rel.2.2.1 a ha]; exact h5) (fun e => by rw [e] at h6; cases h6) h7 rfl hd w
theorem s_anew {index : Nat} {i : Int32} {kk : Option Nat → ZM α} (hd : decode M.cc pc = .ok (.anewarray index, 3)) (hw : Cond.classLink M.own index "java/lang/Object" ∈ lw_tbl) (h2 : Cond.arrayOver (.object "java/lang/Object") ∈ lw_tbl) (hs : ∀ x, Sim M Qf (pc + 3) lv (.inr (.inr x) :: st) (kk x)) : Sim M Qf pc lv (.inl i :: st) (z_b (z_nA 3 i) kk) := by
  refine Sim.make hs (fun h v h1 e => ?_)
  unfold z_nA at e
  by_cases hK : ¬ i < 0 ∧ i.toNatClampNeg * 8 ≤ 536870912
  · rw [if_pos hK] at e
    cases e
    refine ⟨i.toNatClampNeg, rfl, rfl, fun X ok H locs cs n Q ls rel hl hcs hns w => ?_⟩
    have eH : H.size = zT h := rel.1
    have hAO : va_AO "java/lang/Object" X.s := va_AO.moved ok.2.1.alike (va_AO.of (ok.1.1 _ h2))
    refine W.anew ok.2.2.1 ok.2.2.2.1 ok.2.2.2.2.2.2.1 (ok.ws hw rfl) (va_AO.use hAO) rfl hd rfl hK.1 (by omega) hcs hns fun cA kA comp f1 f2 f3 f4 => ?_
    have hcA : cA = X.G.cO := by
      obtain ⟨kA', comp', -, -, -, r4⟩ := (ok.K.2 2 _ rfl).2
      exact Option.some.inj (f1.symm.trans r4)
    subst hcA
    rw [eH]
    refine w _ (zRel_new rel _ _ (by simp) (fun q hq => by rw [Array.getElem?_push, if_neg (Nat.ne_of_lt hq)]) ?_)
    unfold zC
    rw [show zK (znew h (3, i.toNatClampNeg) i.toNatClampNeg) (zT h) = (3, i.toNatClampNeg) by show zw _ _ _ _ = _; simp [zw]]
    refine ⟨rel.2.1, ?_⟩
    rw [← eH, Array.getElem?_push_size, arrV_new, vp_cell_q]
    congr 2
    funext j
    rw [eH]
    simp [zR, znew, zw, va_rf]
  · rw [if_neg hK] at e; cases e
theorem s_acmp_eq {rx ry : Option Nat} {off : Int} {tgt : Nat} {k1 k2 : ZM α} (hd : decode M.cc pc = .ok (.if_acmp .eq off, 3)) (ht : (pc : Int) + off = (tgt : Int)) (h1 : Sim M Qf tgt lv st k1) (h2 : Sim M Qf (pc + 3) lv st k2) : Sim M Qf pc lv (.inr (.inr ry) :: .inr (.inr rx) :: st) (if rx = ry then k1 else k2) := by
  by_cases hc : rx = ry
  · rw [if_pos hc]
    exact h1.go (fun X ok H locs c n Q ls hl kk => lv_acmp_eq ok.2.2.1 ok.2.2.2.1 hd ht (fun _ => kk ls hl) (fun q => absurd hc q))
  · rw [if_neg hc]
    exact h2.go (fun X ok H locs c n Q ls hl kk => lv_acmp_eq ok.2.2.1 ok.2.2.2.1 hd ht (fun q => absurd q hc) (fun _ => kk ls hl))
theorem s_acmp_ne {rx ry : Option Nat} {off : Int} {tgt : Nat} {k1 k2 : ZM α} (hd : decode M.cc pc = .ok (.if_acmp .ne off, 3)) (ht : (pc : Int) + off = (tgt : Int)) (h1 : Sim M Qf tgt lv st k1) (h2 : Sim M Qf (pc + 3) lv st k2) : Sim M Qf pc lv (.inr (.inr ry) :: .inr (.inr rx) :: st) (if ¬ rx = ry then k1 else k2) := by
  by_cases hc : rx = ry
  · rw [if_neg (fun q => q hc)]
    exact h2.go (fun X ok H locs c n Q ls hl kk => lv_acmp_ne ok.2.2.1 ok.2.2.2.1 hd ht (fun q => absurd hc q) (fun _ => kk ls hl))
  · rw [if_pos hc]
    exact h1.go (fun X ok H locs c n Q ls hl kk => lv_acmp_ne ok.2.2.1 ok.2.2.2.1 hd ht (fun _ => kk ls hl) (fun q => absurd q hc))
/-- the mirror of Object[] -/
theorem s_ldcM {index : Nat} {kk : Option Nat → ZM α} (hd : decode M.cc pc = .ok (.ldc index, 2)) (hw : Cond.classLink M.own index "[Ljava/lang/Object;" ∈ lw_tbl) (hs : ∀ x, Sim M Qf (pc + 2) lv (.inr (.inr x) :: st) (kk x)) : Sim M Qf pc lv st (z_b z_mi kk) := by
  refine Sim.read hs (fun h v h' e => ?_)
  unfold z_mi at e
  cases e
  refine ⟨rfl, fun X ok H locs cs n Q ls rel hl w => ?_⟩
  have eD := rel.2.2.2.2
  rw [eD] at w
  exact va_ldcM ok.2.2.1 ok.2.2.2.1 ok.2.2.2.2.2.2.1 (ok.ws hw rfl) (va_Mi.moved ok.2.1.alike ok.1.2.2.2.2.2.2.1) hd w
theorem s_getC {index : Nat} {r : Option Nat} {kk : Option Nat → ZM α} (hd : decode M.cc pc = .ok (.invokevirtual index, 3)) (hw : Cond.methodLink M.own index ⟨"java/lang/Object", "getClass", "()Ljava/lang/Class;"⟩ ∈ lw_tbl) (h1 : Cond.declares ⟨"java/lang/Object", "getClass", "()Ljava/lang/Class;"⟩ ∈ lw_tbl) (h2 : Cond.selects "[Ljava/lang/Object;" ⟨"java/lang/Object", "getClass", "()Ljava/lang/Class;"⟩ ⟨"java/lang/Object", "getClass", "()Ljava/lang/Class;"⟩ ∈ lw_tbl) (h3 : Cond.instanceMethod ⟨"java/lang/Object", "getClass", "()Ljava/lang/Class;"⟩ ∈ lw_tbl) (h4 : Cond.native ⟨"java/lang/Object", "getClass", "()Ljava/lang/Class;"⟩ ∈ lw_tbl) (hR : 1 ≤ M.F) (hL : (st.map zcat).sum + 14 ≤ M.Lc) (hs : ∀ x, Sim M Qf (pc + 3) lv (.inr (.inr x) :: st) (kk x)) : Sim M Qf pc lv (.inr (.inr r) :: st) (z_b (z_gc r) kk) := by
  refine Sim.read hs (fun h v h' e => ?_)
  unfold z_gc at e
  cases r with
  | none => cases e
  | some a =>
    dsimp only at e
    split at e
    · rename_i hK
      cases e
      refine ⟨rfl, fun X ok H locs cs n Q ls rel hl w => ?_⟩
      have eD := rel.2.2.2.2
      rw [eD] at w
      obtain ⟨-, hP⟩ := zRel_refs rel hK
      obtain ⟨kA', comp', -, -, -, r4⟩ := (ok.K.2 2 _ rfl).2
      exact va_getC ok.2.2.1 ok.2.2.2.1 (by rw [ok.2.2.2.2.1, ← ok.2.2.2.2.2.1]; exact hl.1.symm) ok.2.2.2.2.2.2.1 (ok.ws hw rfl) (zw_of2 ok.1 h1 rfl ok.2.1 X.a) (ok.ws h2 rfl) (ok.ws h3 rfl) (ok.ws h4 rfl) (va_Mi.moved ok.2.1.alike ok.1.2.2.2.2.2.2.1) ⟨_, hP 0 _ rfl, rfl, r4⟩ (by rw [ok.2.2.2.2.2.2.2.2.2.1]; exact hR) (zrestL hL ok) hd w
    · cases e
/-- a copy of references into another array -/
def z_cq (r : Option Nat) (sp : Int32) (q : Option Nat) (dp n : Int32) : ZM Unit := fun h => match r, q with
  | some a, some b => if ((zK h a).1 = 3 ∧ (zK h b).1 = 3) ∧ (¬ sp < 0 ∧ ¬ dp < 0 ∧ ¬ n < 0) ∧ (sp.toNatClampNeg + n.toNatClampNeg ≤ (zK h a).2 ∧ dp.toNatClampNeg + n.toNatClampNeg ≤ (zK h b).2) ∧ (List.range n.toNatClampNeg).all (fun i => match zR h a (sp.toNatClampNeg + i) with | none => true | some y => decide (zK h y = (12, 0) ∨ zK h y = (13, 0) ∨ zK h y = (14, 0))) = true then some ((), zwR h b (va_cpy (zR h a) (zR h b) sp.toNatClampNeg dp.toNatClampNeg n.toNatClampNeg)) else none
  | _, _ => none
theorem W.copyq {p : Program} {l : Launch} {e : Env} {R : Room} {s : State} {m : MethodId} {args : Array Value} {below : List Frame} {meth : Method} {c : Code} {H : Heap} {locs : List Loc} {cells slots : Nat} {Q : State → Prop} {ls : Array Slot} {rest : List Value} {D : va_G} {cl : List vw_C} {a : Nat} {tys : List (ClassId × FieldType)} {pc : Nat}
    {cc : ByteArray} (hexec : p.tables.exec = Jvm.exec) (hb : c.code = cc) (hml : c.maxLocals = ls.size) {own : String} {index : Nat} (hown : s.vm.findClass own = some m.cls) (hlink : (Cond.methodLink own index arraycopyName).before args s = true) (hnat : (Cond.native arraycopyName).before args s = true) (hstat : (Cond.static arraycopyName).before args s = true) (hini : (Cond.initialized "java/lang/System").before args s = true)
    (hK : va_K D cl tys s) (t1 : Nat) {a0 : Nat} {c1 : ClassId} {n0 n1 : Nat} {f g : Nat → Option Nat} {E1 : String} (hc0 : H[a0]? = some (vp_cell c1 (n0, .inr (.inr (.inr (.inr f)))))) (hc1 : H[a]? = some (vp_cell c1 (n1, .inr (.inr (.inr (.inr g)))))) (ht1 : tys[t1]? = some (c1, .object E1))
    {sp dp n : Int32} (h1 : ¬ sp < 0) (h2 : ¬ dp < 0) (h3 : ¬ n < 0) (h4 : sp.toNatClampNeg + n.toNatClampNeg ≤ n0) (h5 : dp.toNatClampNeg + n.toNatClampNeg ≤ n1) (hel : ∀ i : Nat, i < n.toNatClampNeg → ∀ y : Nat, f (sp.toNatClampNeg + i) = some y → ∃ cellV : Cell, H[y]? = some cellV ∧ cellV.vm = .none ∧ (∃ kv, s.vm.classes[cellV.cls]? = some kv) ∧ ∀ comp, s.vm.findClass E1 = some comp → s.vm.assignable cellV.cls comp = true)
    (hframes : 1 ≤ R.frames) (hlocals : (rest.map fun v => v.category).sum + (nativeFrameWords "java/lang/System" "arraycopy" 5 + 11) ≤ R.locals) (hdg : decode cc pc = .ok (.invokestatic index, 3))
    (kk : ∀ (H1 : Heap) (L : List Loc), H1[a]? = some (vp_cell c1 (n1, .inr (.inr (.inr (.inr (va_cpy f g sp.toNatClampNeg dp.toNatClampNeg n.toNatClampNeg)))))) → H1.size = H.size → (∀ q, q ≠ a → H1[q]? = H[q]?) → (∀ q ∈ L, q.base = a) → W p l e R s m args below meth c H1 (locs ++ L) cells slots Q (F0 m (pc + 3) ls rest)) : W p l e R s m args below meth c H locs cells slots Q (F0 m pc ls (.int n :: .int dp :: .ref a :: .int sp :: .ref a0 :: rest)) := by
  have nn : ∀ z : Int32, ¬ z < 0 → z.toInt = (z.toNatClampNeg : Int) := by
    intro z hz
    have hz0 : (0 : Int) ≤ z.toInt := by
      have := Int32.not_lt.mp hz
      simpa using Int32.le_iff_toInt_le.mp this
    show z.toInt = ((z.toInt.toNat : Nat) : Int)
    omega
  intro T hT X
  obtain ⟨-, k0, hk0, cm0, hkk0⟩ := (hK.2 t1 _ ht1).1 n0 (fun j => va_rf (f j))
  obtain ⟨-, k1, hk1, cm1, hkk1⟩ := (hK.2 t1 _ ht1).1 n1 (fun j => va_rf (g j))
  obtain ⟨vm', X', step⟩ := X.arraycopy hexec hown hlink hnat hstat hini (src := a0) (dst := a) (cs := vp_cell c1 (n0, .inr (.inr (.inr (.inr f))))) (cd := vp_cell c1 (n1, .inr (.inr (.inr (.inr g))))) (srcPos := sp) (destPos := dp) (n := n) (by rw [hT]; exact hc0) (by rw [hT]; exact hc1)
    (fun _ h => by cases h) (fun _ h => by cases h) (fun h => by cases h) (fun h => by cases h) hk0 hk1 hkk0 hkk1 rfl h1 h2 h3
    (by rw [nn sp h1, nn n h3]; show ¬ _ > ((arrV c1 n0 (fun j => va_rf (f j))).slots.size : Int); rw [arrV_size]; omega)
    (by rw [nn dp h2, nn n h3]; show ¬ _ > ((arrV c1 n1 (fun j => va_rf (g j))).slots.size : Int); rw [arrV_size]; omega)
    (fun vm₁ hal i hi => by
      have e : (vp_cell c1 (n0, .inr (.inr (.inr (.inr f))))).slots.getD (sp.toNatClampNeg + i) .null = va_rf (f (sp.toNatClampNeg + i)) := by
        show (arrV c1 n0 (fun j => va_rf (f j))).slots.getD _ _ = _
        rw [Array.getD_eq_getD_getElem?, arrV_read _ _ (by omega)]
        rfl
      rw [e]
      cases hy : f (sp.toNatClampNeg + i) with
      | none => exact ⟨rfl, trivial⟩
      | some y =>
        obtain ⟨cellV, g1, g2, ⟨kC, hkC⟩, g4⟩ := hel i hi y hy
        obtain ⟨kA, comp, r1, r2, r3, -⟩ := (hK.2 t1 _ ht1).2
        cases hk1.symm.trans r1
        cases hkk1.symm.trans r2
        obtain ⟨kE, hkE, -⟩ := Vm.findClass_spec r3
        obtain ⟨kC', hkC', -⟩ := hal.2.2 _ _ hkC
        obtain ⟨kE', hkE', -⟩ := hal.2.2 _ _ hkE
        refine ⟨rfl, cellV, (show T.heap[y]? = some cellV by rw [hT]; exact g1), (fun q h => by rw [g2] at h; cases h), ⟨kC', hkC'⟩, ?_, ?_⟩
        · exact ⟨kE', hkE'⟩
        · show vm₁.assignable _ _ = true
          rw [hal.assignable]
          exact g4 _ r3)
    (g := F0 m pc ls (.int n :: .int dp :: .ref a :: .int sp :: .ref a0 :: rest)) rfl (by rw [hml]) (rest := rest) rfl (by rw [hb]; exact hdg) hframes (by show 2 * 0 + _ + _ ≤ _; omega)
  have e1 : copied (vp_cell c1 (n0, .inr (.inr (.inr (.inr f))))) (vp_cell c1 (n1, .inr (.inr (.inr (.inr g))))) sp dp n = vp_cell c1 (n1, .inr (.inr (.inr (.inr (va_cpy f g sp.toNatClampNeg dp.toNatClampNeg n.toNatClampNeg))))) := by
    rw [vp_cell_q, vp_cell_q, vp_cell_q]
    exact va_copied (fun z => va_rf z) c1 c1 f g h4
  rw [e1] at X' step
  have hl : a < H.size := (Array.getElem?_eq_some_iff.mp hc1).1
  have hheap : ((T.setVm vm').setCell a (vp_cell c1 (n1, .inr (.inr (.inr (.inr (va_cpy f g sp.toNatClampNeg dp.toNatClampNeg n.toNatClampNeg))))))).heap = H.setIfInBounds a (vp_cell c1 (n1, .inr (.inr (.inr (.inr (va_cpy f g sp.toNatClampNeg dp.toNatClampNeg n.toNatClampNeg)))))) := by rw [← hT]; rfl
  obtain ⟨t, a1, b1⟩ := kk _ _ (by simp [Array.getElem?_setIfInBounds, hl]) (by simp) (fun q hq => by simp [Array.getElem?_setIfInBounds, Ne.symm hq]) (fun q hq => by
      obtain ⟨z, -, hz⟩ := List.mem_map.mp hq
      rw [← hz]) _ hheap X'
  exact ⟨t, step t a1, b1⟩
theorem s_copyq {index : Nat} {r q : Option Nat} {sp dp n : Int32} {kk : Unit → ZM α} (hd : decode M.cc pc = .ok (.invokestatic index, 3)) (hw : Cond.methodLink M.own index arraycopyName ∈ lw_tbl) (h2 : Cond.native arraycopyName ∈ lw_tbl) (h3 : Cond.static arraycopyName ∈ lw_tbl) (h4 : Cond.initialized "java/lang/System" ∈ lw_tbl) (hR : 1 ≤ M.F) (hL : (st.map zcat).sum + (nativeFrameWords "java/lang/System" "arraycopy" 5 + 11) ≤ M.Lc) (hs : Sim M Qf (pc + 3) lv st (kk ())) : Sim M Qf pc lv (.inl n :: .inl dp :: .inr (.inr q) :: .inl sp :: .inr (.inr r) :: st) (z_b (z_cq r sp q dp n) kk) := by
  intro h v h' e
  obtain ⟨x, h1, e1, e2⟩ := z_b_inv e
  cases r with
  | none => cases e1
  | some a =>
    cases q with
    | none => cases e1
    | some b =>
      unfold z_cq at e1
      dsimp only at e1
      split at e1
      · rename_i hK
        cases e1
        obtain ⟨⟨k1, k2⟩, ⟨n1, n2, n3⟩, ⟨b1, b2⟩, hall⟩ := hK
        obtain ⟨mo, w⟩ := hs _ v h' e2
        refine ⟨mo, fun X ok a1 a2 a3 a4 H locs ls rel hf hl => ?_⟩
        obtain ⟨hB0, hP0⟩ := zRel_refs rel k1
        obtain ⟨hB, hP⟩ := zRel_refs rel k2
        refine W.copyq ok.2.2.1 ok.2.2.2.1 (by rw [ok.2.2.2.2.1, ← ok.2.2.2.2.2.1]; exact hl.1.symm) ok.2.2.2.2.2.2.1 (ok.ws hw rfl) (ok.ws h2 rfl) (ok.ws h3 rfl) (ok.ws h4 rfl) ok.K 2 (hP0 0 _ rfl) (hP 0 _ rfl) rfl n1 n2 n3 b1 b2 (fun i hi y hy => ?_) (by rw [ok.2.2.2.2.2.2.2.2.2.1]; exact hR) (zrestL hL ok) hd (fun H1 L c1 c2 c3 c4 => ?_)
        · have h5 := List.all_eq_true.mp hall i (List.mem_range.mpr hi)
          rw [hy] at h5
          have h6 := of_decide_eq_true h5
          exact zob_cell ok rel h6
        · refine w X ok a1 a2 a3 a4 H1 (locs ++ L) ls (zRel_put rel hB rfl c2 c3 rfl (fun b hb => rfl) (fun b hb => rfl) (fun b hb => ?_) rfl ?_) (fun q hq => (List.mem_append.mp hq).elim (hf q) (fun z => by rw [c4 q z]; exact hB)) hl
          · show zw _ _ _ _ = _
            simp [zw, hb]
          · unfold zC
            rw [show zK (zwR h b (va_cpy (zR h a) (zR h b) sp.toNatClampNeg dp.toNatClampNeg n.toNatClampNeg)) b = (3, (zK h b).2) by rw [← k2]; rfl]
            refine ⟨hB, ?_⟩
            rw [c1, show zR (zwR h b (va_cpy (zR h a) (zR h b) sp.toNatClampNeg dp.toNatClampNeg n.toNatClampNeg)) b = va_cpy (zR h a) (zR h b) sp.toNatClampNeg dp.toNatClampNeg n.toNatClampNeg by show zw _ _ _ _ = _; simp [zw]]
      · cases e1
end ZLists
