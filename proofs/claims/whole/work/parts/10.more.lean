/-! ===== constants, Math, a copy within a row ===== -/
section ZMore
variable {α : Type} {M : ZMe} {Qf : ZX → α → ZH → State → Prop} {pc : Nat} {lv : List (Nat × ZV)} {st : List ZV} {k : ZM α}
theorem s_ldc {index : Nat} {v : Int32} (hd : decode M.cc pc = .ok (.ldc index, 2)) (hw : Cond.constant M.own index v ∈ lw_tbl) (hs : Sim M Qf (pc + 2) lv (.inl v :: st) k) : Sim M Qf pc lv st k :=
  hs.go (fun X ok H locs c n Q ls hl kk => lv_ldc ok.2.2.1 ok.2.2.2.1 ok.2.2.2.2.2.2.1 (ok.ws hw rfl) hd (kk ls hl))
theorem s_ldc2 {index : Nat} {v : Int64} (hd : decode M.cc pc = .ok (.ldc2_w index, 3)) (hw : Cond.constantLong M.own index v ∈ lw_tbl) (hs : Sim M Qf (pc + 3) lv (.inr (.inl v) :: st) k) : Sim M Qf pc lv st k :=
  hs.go (fun X ok H locs c n Q ls hl kk => lv_ldc2 ok.2.2.1 ok.2.2.2.1 ok.2.2.2.2.2.2.1 (ok.ws hw rfl) hd (kk ls hl))
/-- as Sim.go, with the bounds on cells and slots -/
theorem Sim.go2 {pc' : Nat} {st' : List ZV} (hs : Sim M Qf pc' lv st' k)
    (step : ∀ (X : ZX) (_ : zOk X M) (H : Heap) (locs : List Loc) (c n : Nat) (Q : State → Prop) (ls : Array Slot), lv_has ls X.nL (zlv lv) → c ≤ X.R.cells → n ≤ X.R.slots → zW X H locs c n Q (F0 X.m pc' ls (st'.map zval)) → zW X H locs c n Q (F0 X.m pc ls (st.map zval))) :
    Sim M Qf pc lv st k := by
  intro h v h' e
  obtain ⟨m, w⟩ := hs h v h' e
  exact ⟨m, fun X ok a1 a2 a3 a4 H locs ls r hf hl => step X ok H locs _ _ _ ls hl (by omega) (by omega) (w X ok a1 a2 a3 a4 H locs ls r hf hl)⟩
theorem zrestL {st : List ZV} {n : Nat} (h : (st.map zcat).sum + n ≤ M.Lc) {X : ZX} (ok : zOk X M) : ((st.map zval).map fun v => v.category).sum + n ≤ X.R.locals := by
  rw [List.map_map, show ((fun v : Value => v.category) ∘ zval) = zcat from funext zval_cat, ok.2.2.2.2.2.2.2.2.2.2.1]
  exact h
theorem s_mmax {index : Nat} {x y : Int32} (hd : decode M.cc pc = .ok (.invokestatic index, 3)) (hw : Cond.methodLink M.own index Lib.Math.max.name ∈ lw_tbl) (h2 : Cond.static Lib.Math.max.name ∈ lw_tbl) (h3 : Cond.initialized "java/lang/Math" ∈ lw_tbl) (h4 : Cond.code Lib.Math.max.name Lib.Math.max.code 2 (some .int) ∈ lw_tbl) (hR : 1 ≤ M.F) (hL : (st.map zcat).sum + 13 ≤ M.Lc) (hs : Sim M Qf (pc + 3) lv (.inl (if x < y then y else x) :: st) k) : Sim M Qf pc lv (.inl y :: .inl x :: st) k :=
  hs.go2 (fun X ok H locs c n Q ls hl b1 b2 kk => va_mmax ok.2.2.1 ok.2.2.2.1 (by rw [ok.2.2.2.2.1, ← ok.2.2.2.2.2.1]; exact hl.1.symm) ok.2.2.2.2.2.2.1 (ok.ws hw rfl) (ok.ws h2 rfl) (ok.ws h3 rfl) (ok.ws h4 rfl) (by rw [ok.2.2.2.2.2.2.2.2.2.1]; exact hR) (zrestL hL ok) b1 b2 hd kk)
theorem s_mmin {index : Nat} {x y : Int32} (hd : decode M.cc pc = .ok (.invokestatic index, 3)) (hw : Cond.methodLink M.own index Lib.Math.min.name ∈ lw_tbl) (h2 : Cond.static Lib.Math.min.name ∈ lw_tbl) (h3 : Cond.initialized "java/lang/Math" ∈ lw_tbl) (h4 : Cond.code Lib.Math.min.name Lib.Math.min.code 2 (some .int) ∈ lw_tbl) (hR : 1 ≤ M.F) (hL : (st.map zcat).sum + 13 ≤ M.Lc) (hs : Sim M Qf (pc + 3) lv (.inl (if y < x then y else x) :: st) k) : Sim M Qf pc lv (.inl y :: .inl x :: st) k :=
  hs.go2 (fun X ok H locs c n Q ls hl b1 b2 kk => va_mmin ok.2.2.1 ok.2.2.2.1 (by rw [ok.2.2.2.2.1, ← ok.2.2.2.2.2.1]; exact hl.1.symm) ok.2.2.2.2.2.2.1 (ok.ws hw rfl) (ok.ws h2 rfl) (ok.ws h3 rfl) (ok.ws h4 rfl) (by rw [ok.2.2.2.2.2.2.2.2.2.1]; exact hR) (zrestL hL ok) b1 b2 hd kk)
theorem s_mabs {index : Nat} {x : Int32} (hd : decode M.cc pc = .ok (.invokestatic index, 3)) (hw : Cond.methodLink M.own index Lib.Math.abs.name ∈ lw_tbl) (h2 : Cond.static Lib.Math.abs.name ∈ lw_tbl) (h3 : Cond.initialized "java/lang/Math" ∈ lw_tbl) (h4 : Cond.code Lib.Math.abs.name Lib.Math.abs.code 1 (some .int) ∈ lw_tbl) (hR : 1 ≤ M.F) (hL : (st.map zcat).sum + 13 ≤ M.Lc) (hs : Sim M Qf (pc + 3) lv (.inl (if 0 ≤ x then x else 0 - x) :: st) k) : Sim M Qf pc lv (.inl x :: st) k :=
  hs.go2 (fun X ok H locs c n Q ls hl b1 b2 kk => va_mabs ok.2.2.1 ok.2.2.2.1 (by rw [ok.2.2.2.2.1, ← ok.2.2.2.2.2.1]; exact hl.1.symm) ok.2.2.2.2.2.2.1 (ok.ws hw rfl) (ok.ws h2 rfl) (ok.ws h3 rfl) (ok.ws h4 rfl) (by rw [ok.2.2.2.2.2.2.2.2.2.1]; exact hR) (zrestL hL ok) b1 b2 hd kk)
/-- System.arraycopy within one row of ints -/
def z_cp (r : Option Nat) (sp dp n : Int32) : ZM Unit := fun h => match r with
  | none => none
  | some a => if (zK h a).1 = 1 ∧ ¬ sp < 0 ∧ ¬ dp < 0 ∧ ¬ n < 0 ∧ sp.toNatClampNeg + n.toNatClampNeg ≤ (zK h a).2 ∧ dp.toNatClampNeg + n.toNatClampNeg ≤ (zK h a).2 then some ((), zwI h a (va_cpy (zI h a) (zI h a) sp.toNatClampNeg dp.toNatClampNeg n.toNatClampNeg)) else none
theorem W.copy {p : Program} {l : Launch} {e : Env} {R : Room} {s : State} {m : MethodId} {args : Array Value} {below : List Frame} {meth : Method} {c : Code} {H : Heap} {locs : List Loc} {cells slots : Nat} {Q : State → Prop} {ls : Array Slot} {rest : List Value} {D : va_G} {cl : List vw_C} {a : Nat} {tys : List (ClassId × FieldType)} {pc : Nat}
    {cc : ByteArray} (hexec : p.tables.exec = Jvm.exec) (hb : c.code = cc) (hml : c.maxLocals = ls.size) {own : String} {index : Nat} (hown : s.vm.findClass own = some m.cls) (hlink : (Cond.methodLink own index arraycopyName).before args s = true) (hnat : (Cond.native arraycopyName).before args s = true) (hstat : (Cond.static arraycopyName).before args s = true) (hini : (Cond.initialized "java/lang/System").before args s = true)
    (hK : va_K D cl tys s) (t1 : Nat) {c1 : ClassId} {n1 : Nat} {g : Nat → Int32} {ty : FieldType} (hc1 : H[a]? = some (vp_cell c1 (n1, .inl g))) (ht1 : tys[t1]? = some (c1, ty)) (hprim : refKind ty = false)
    {sp dp n : Int32} (h1 : ¬ sp < 0) (h2 : ¬ dp < 0) (h3 : ¬ n < 0) (h4 : sp.toNatClampNeg + n.toNatClampNeg ≤ n1) (h5 : dp.toNatClampNeg + n.toNatClampNeg ≤ n1) (hfit : ∀ i, i < n.toNatClampNeg → fits ty (.int (g (sp.toNatClampNeg + i))) = true)
    (hframes : 1 ≤ R.frames) (hlocals : (rest.map fun v => v.category).sum + (nativeFrameWords "java/lang/System" "arraycopy" 5 + 11) ≤ R.locals) (hdg : decode cc pc = .ok (.invokestatic index, 3))
    (kk : ∀ (H1 : Heap) (L : List Loc), H1[a]? = some (vp_cell c1 (n1, .inl (va_cpy g g sp.toNatClampNeg dp.toNatClampNeg n.toNatClampNeg))) → H1.size = H.size → (∀ q, q ≠ a → H1[q]? = H[q]?) → (∀ q ∈ L, q.base = a) → W p l e R s m args below meth c H1 (locs ++ L) cells slots Q (F0 m (pc + 3) ls rest)) : W p l e R s m args below meth c H locs cells slots Q (F0 m pc ls (.int n :: .int dp :: .ref a :: .int sp :: .ref a :: rest)) := by
  have nn : ∀ z : Int32, ¬ z < 0 → z.toInt = (z.toNatClampNeg : Int) := by
    intro z hz
    have hz0 : (0 : Int) ≤ z.toInt := by
      have := Int32.not_lt.mp hz
      simpa using Int32.le_iff_toInt_le.mp this
    show z.toInt = ((z.toInt.toNat : Nat) : Int)
    omega
  intro T hT X
  obtain ⟨-, k1, hk1, cm1, hkk1⟩ := (hK.2 t1 _ ht1).1 n1 (fun j => .int (g j))
  obtain ⟨vm', X', step⟩ := X.arraycopy hexec hown hlink hnat hstat hini (src := a) (dst := a) (cs := vp_cell c1 (n1, .inl g)) (cd := vp_cell c1 (n1, .inl g)) (srcPos := sp) (destPos := dp) (n := n) (by rw [hT]; exact hc1) (by rw [hT]; exact hc1)
    (fun _ h => by cases h) (fun _ h => by cases h) (fun h => by cases h) (fun h => by cases h) hk1 hk1 hkk1 hkk1 (by simp [hprim]) h1 h2 h3
    (by rw [nn sp h1, nn n h3]; show ¬ _ > ((arrV c1 n1 (fun j => .int (g j))).slots.size : Int); rw [arrV_size]; omega)
    (by rw [nn dp h2, nn n h3]; show ¬ _ > ((arrV c1 n1 (fun j => .int (g j))).slots.size : Int); rw [arrV_size]; omega)
    (fun vm₁ _ i hi => by
      have e : (vp_cell c1 (n1, .inl g)).slots.getD (sp.toNatClampNeg + i) .null = .int (g (sp.toNatClampNeg + i)) := by
        show (arrV c1 n1 (fun j => .int (g j))).slots.getD _ _ = _
        rw [Array.getD_eq_getD_getElem?, arrV_read _ _ (by omega)]
        rfl
      refine ⟨?_, ?_⟩
      · rw [e]
        exact hfit i hi
      · rw [e]
        exact trivial)
    (g := F0 m pc ls (.int n :: .int dp :: .ref a :: .int sp :: .ref a :: rest)) rfl (by rw [hml]) (rest := rest) rfl (by rw [hb]; exact hdg) hframes (by show 2 * 0 + _ + _ ≤ _; omega)
  have e1 : copied (vp_cell c1 (n1, .inl g)) (vp_cell c1 (n1, .inl g)) sp dp n = vp_cell c1 (n1, .inl (va_cpy g g sp.toNatClampNeg dp.toNatClampNeg n.toNatClampNeg)) := va_copied (fun z => .int z) c1 c1 g g h4
  rw [e1] at X' step
  have hl : a < H.size := (Array.getElem?_eq_some_iff.mp hc1).1
  have hheap : ((T.setVm vm').setCell a (vp_cell c1 (n1, .inl (va_cpy g g sp.toNatClampNeg dp.toNatClampNeg n.toNatClampNeg)))).heap = H.setIfInBounds a (vp_cell c1 (n1, .inl (va_cpy g g sp.toNatClampNeg dp.toNatClampNeg n.toNatClampNeg))) := by rw [← hT]; rfl
  obtain ⟨t, a1, b1⟩ := kk _ _ (by simp [Array.getElem?_setIfInBounds, hl]) (by simp) (fun q hq => by simp [Array.getElem?_setIfInBounds, Ne.symm hq]) (fun q hq => by
      obtain ⟨z, -, hz⟩ := List.mem_map.mp hq
      rw [← hz]) _ hheap X'
  exact ⟨t, step t a1, b1⟩
theorem s_copy {index : Nat} {r : Option Nat} {sp dp n : Int32} {kk : Unit → ZM α} (hd : decode M.cc pc = .ok (.invokestatic index, 3)) (hw : Cond.methodLink M.own index arraycopyName ∈ lw_tbl) (h2 : Cond.native arraycopyName ∈ lw_tbl) (h3 : Cond.static arraycopyName ∈ lw_tbl) (h4 : Cond.initialized "java/lang/System" ∈ lw_tbl) (hR : 1 ≤ M.F) (hL : (st.map zcat).sum + (nativeFrameWords "java/lang/System" "arraycopy" 5 + 11) ≤ M.Lc) (hs : Sim M Qf (pc + 3) lv st (kk ())) : Sim M Qf pc lv (.inl n :: .inl dp :: .inr (.inr r) :: .inl sp :: .inr (.inr r) :: st) (z_b (z_cp r sp dp n) kk) := by
  intro h v h' e
  obtain ⟨x, h1, e1, e2⟩ := z_b_inv e
  cases r with
  | none => cases e1
  | some a =>
    unfold z_cp at e1
    dsimp only at e1
    split at e1
    · rename_i hK
      cases e1
      obtain ⟨mo, w⟩ := hs _ v h' e2
      refine ⟨mo, fun X ok a1 a2 a3 a4 H locs ls rel hf hl => ?_⟩
      obtain ⟨hB, hP⟩ := zRel_int rel hK.1
      refine W.copy ok.2.2.1 ok.2.2.2.1 (by rw [ok.2.2.2.2.1, ← ok.2.2.2.2.2.1]; exact hl.1.symm) ok.2.2.2.2.2.2.1 (ok.ws hw rfl) (ok.ws h2 rfl) (ok.ws h3 rfl) (ok.ws h4 rfl) ok.K 0 (hP 0 _ rfl) rfl rfl hK.2.1 hK.2.2.1 hK.2.2.2.1 hK.2.2.2.2.1 hK.2.2.2.2.2 (fun i hi => rfl) (by rw [ok.2.2.2.2.2.2.2.2.2.1]; exact hR) (zrestL hL ok) hd (fun H1 L c1 c2 c3 c4 => ?_)
      refine w X ok a1 a2 a3 a4 H1 (locs ++ L) ls (zRel_put rel hB rfl c2 c3 rfl (fun b hb => ?_) (fun b hb => rfl) (fun b hb => rfl) rfl ?_) (fun q hq => (List.mem_append.mp hq).elim (hf q) (fun z => by rw [c4 q z]; exact hB)) hl
      · show zw _ _ _ _ = _
        simp [zw, hb]
      · unfold zC
        rw [show zK (zwI h a (va_cpy (zI h a) (zI h a) sp.toNatClampNeg dp.toNatClampNeg n.toNatClampNeg)) a = (1, (zK h a).2) by rw [← hK.1]; rfl]
        refine ⟨hB, ?_⟩
        rw [c1]
        congr 4
        show _ = zw _ _ _ _
        simp [zw]
    · cases e1
end ZMore
