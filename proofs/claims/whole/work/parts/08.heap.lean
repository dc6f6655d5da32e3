theorem znar_ref {t : FieldType} (h : t.isReference = true) (x : Option Nat) : narrow t (va_rf x) = va_rf x := by
  cases t <;> cases x <;> first | rfl | cases h
theorem zfit_ref {t : FieldType} (h : t.isReference = true) (x : Option Nat) : fits t (va_rf x) = true := by
  cases t <;> cases x <;> first | rfl | cases h
theorem zdef_ref {t : FieldType} (h : t.isReference = true) : defaultValue t = va_rf none := by
  cases t <;> first | rfl | cases h
/-! ===== the heap's rows ===== -/
theorem zOk.ws {X : ZX} {M : ZMe} (ok : zOk X M) {w : Cond} (hw : w ∈ lw_tbl) (hg : goodWord w = true) : w.before X.a X.s = true := zw_of ok.1 hw hg ok.2.1 X.a
theorem zOk.K {X : ZX} {M : ZMe} (ok : zOk X M) : va_K X.G.D vwCl X.G.tys X.s := zK_of ok.1 ok.2.1
section ZHeap
variable {α : Type} {M : ZMe} {Qf : ZX → α → ZH → State → Prop} {pc : Nat} {lv : List (Nat × ZV)} {st : List ZV}
/-- a read: one cell's word decides -/
theorem Sim.read {β : Type} {pc' : Nat} {st' : β → List ZV} {m : ZM β} {kk : β → ZM α} (hs : ∀ x, Sim M Qf pc' lv (st' x) (kk x))
    (hm : ∀ (h : ZH) (v : β) (h' : ZH), m h = some (v, h') → h' = h ∧ ∀ (X : ZX) (_ : zOk X M) (H : Heap) (locs : List Loc) (c n : Nat) (Q : State → Prop) (ls : Array Slot), zRel X.G h H → lv_has ls X.nL (zlv lv) →
      zW X H locs c n Q (F0 X.m pc' ls ((st' v).map zval)) → zW X H locs c n Q (F0 X.m pc ls (st.map zval))) : Sim M Qf pc lv st (z_b m kk) := by
  intro h v h' e
  obtain ⟨x, h1, e1, e2⟩ := z_b_inv e
  obtain ⟨eh, hw⟩ := hm h x h1 e1
  subst eh
  obtain ⟨mo, w⟩ := hs x h1 v h' e2
  exact ⟨mo, fun X ok a1 a2 a3 a4 H locs ls r hf hl => hw X ok H locs _ _ _ ls r hl (w X ok a1 a2 a3 a4 H locs ls r hf hl)⟩
/-- a write: a cell at or behind the base changes -/
theorem Sim.write {β : Type} {pc' : Nat} {st' : β → List ZV} {m : ZM β} {kk : β → ZM α} (hs : ∀ x, Sim M Qf pc' lv (st' x) (kk x))
    (hm : ∀ (h : ZH) (v : β) (h1 : ZH), m h = some (v, h1) → zT h1 = zT h ∧ zN h1 = zN h ∧ ∀ (X : ZX) (_ : zOk X M) (H : Heap) (locs : List Loc) (c n : Nat) (Q : State → Prop) (ls : Array Slot), zRel X.G h H → lv_has ls X.nL (zlv lv) →
      (∀ (H1 : Heap) (lo : Loc), zRel X.G h1 H1 → X.G.B ≤ lo.base → zW X H1 (locs ++ [lo]) c n Q (F0 X.m pc' ls ((st' v).map zval))) → zW X H locs c n Q (F0 X.m pc ls (st.map zval))) : Sim M Qf pc lv st (z_b m kk) := by
  intro h v h' e
  obtain ⟨x, h1, e1, e2⟩ := z_b_inv e
  obtain ⟨eT, eN, hw⟩ := hm h x h1 e1
  obtain ⟨mo, w⟩ := hs x h1 v h' e2
  rw [eT, eN] at mo w
  refine ⟨mo, fun X ok a1 a2 a3 a4 H locs ls r hf hl => hw X ok H locs _ _ _ ls r hl (fun H1 lo r1 hb => w X ok a1 a2 a3 a4 H1 (locs ++ [lo]) ls r1 (fun q hq => ?_) hl)⟩
  rcases List.mem_append.mp hq with q1 | q1
  · exact hf q q1
  · rw [List.mem_singleton.mp q1]; exact hb
/-- a new cell of n slots -/
theorem Sim.make {pc' : Nat} {st' : Option Nat → List ZV} {m : ZM (Option Nat)} {kk : Option Nat → ZM α} (hs : ∀ x, Sim M Qf pc' lv (st' x) (kk x))
    (hm : ∀ (h : ZH) (v : Option Nat) (h1 : ZH), m h = some (v, h1) → ∃ ns, zT h1 = zT h + 1 ∧ zN h1 = zN h + ns ∧ ∀ (X : ZX) (_ : zOk X M) (H : Heap) (locs : List Loc) (c n : Nat) (Q : State → Prop) (ls : Array Slot), zRel X.G h H → lv_has ls X.nL (zlv lv) → c + 1 ≤ X.R.cells → n + ns ≤ X.R.slots →
      (∀ (H1 : Heap), zRel X.G h1 H1 → zW X H1 locs (c + 1) (n + ns) Q (F0 X.m pc' ls ((st' v).map zval))) → zW X H locs c n Q (F0 X.m pc ls (st.map zval))) : Sim M Qf pc lv st (z_b m kk) := by
  intro h v h' e
  obtain ⟨x, h1, e1, e2⟩ := z_b_inv e
  obtain ⟨ns, eT, eN, hw⟩ := hm h x h1 e1
  obtain ⟨mo, w⟩ := hs x h1 v h' e2
  rw [eT, eN] at mo w
  refine ⟨⟨by omega, by omega⟩, fun X ok a1 a2 a3 a4 H locs ls r hf hl => hw X ok H locs _ _ _ ls r hl (by omega) (by omega) (fun H1 r1 => ?_)⟩
  have w1 := w X ok (by omega) (by omega) a3 a4 H1 locs ls r1 hf hl
  rw [show zT h + 1 - X.t0 = zT h - X.t0 + 1 by omega, show zN h + ns - X.n0 = zN h - X.n0 + ns by omega] at w1
  exact w1
theorem s_getI {c k N : Nat} {C ref : String} {T : u_T} {ty : Nat → FieldType} {index : Nat} {r : Option Nat} {kk : Int32 → ZM α} (hc : zCls c C T N ty) (hk : k < N) (hf : zFT c k = 0) (hd : decode M.cc pc = .ok (.getfield index, 3)) (hw : Cond.fieldLink M.own index ref (T k).2.1 (T k).2.2.1 ∈ lw_tbl) (hr : (T k).1 = ref) (hs : ∀ x, Sim M Qf (pc + 3) lv (.inl x :: st) (kk x)) : Sim M Qf pc lv (.inr (.inr r) :: st) (z_b (z_gI c k r) kk) := by
  refine Sim.read hs (fun h v h' e => ?_)
  unfold z_gI at e
  cases r with
  | none => cases e
  | some a =>
    dsimp only at e
    by_cases hK : zK h a = (c + 6, 0)
    · rw [if_pos hK] at e
      cases e
      refine ⟨rfl, fun X ok H locs cs n Q ls rel hl w => ?_⟩
      obtain ⟨-, hP⟩ := zRel_obj rel hK
      exact va_get ok.2.2.1 ok.2.2.2.1 (zcls_ws hc ok.1 ok.2.1 X.a) (fun w h => h) ok.2.2.2.2.2.2.1 ok.K hP 0 rfl hc.1 k hk (ok.ws hw rfl) (by rw [hr]; exact fun _ q => q) (v := .int (zI h a k)) (by rw [zfs_get (by rw [zNF_of hc]; exact hk)]; simp [zV, hf]) hd w
    · rw [if_neg hK] at e; cases e
theorem s_getIN {c k N : Nat} {C ref : String} {host : String} {T : u_T} {ty : Nat → FieldType} {index : Nat} {r : Option Nat} {kk : Int32 → ZM α} (hc : zCls c C T N ty) (hk : k < N) (hf : zFT c k = 0) (hd : decode M.cc pc = .ok (.getfield index, 3)) (hw : Cond.fieldLinkNest M.own index ref (T k).2.1 (T k).2.2.1 host ∈ lw_tbl) (hr : (T k).1 = ref) (hs : ∀ x, Sim M Qf (pc + 3) lv (.inl x :: st) (kk x)) : Sim M Qf pc lv (.inr (.inr r) :: st) (z_b (z_gI c k r) kk) := by
  refine Sim.read hs (fun h v h' e => ?_)
  unfold z_gI at e
  cases r with
  | none => cases e
  | some a =>
    dsimp only at e
    by_cases hK : zK h a = (c + 6, 0)
    · rw [if_pos hK] at e
      cases e
      refine ⟨rfl, fun X ok H locs cs n Q ls rel hl w => ?_⟩
      obtain ⟨-, hP⟩ := zRel_obj rel hK
      exact va_getN ok.2.2.1 ok.2.2.2.1 (zcls_ws hc ok.1 ok.2.1 X.a) (fun w h => h) ok.2.2.2.2.2.2.1 ok.K hP 0 rfl hc.1 k hk (va_Nw.use rfl (va_Nw.warmF ok.2.1 (va_Nw.of rfl (ok.1.1 _ hw)))) (by rw [hr]; exact fun _ q => q) (v := .int (zI h a k)) (by rw [zfs_get (by rw [zNF_of hc]; exact hk)]; simp [zV, hf]) hd w
    · rw [if_neg hK] at e; cases e
theorem s_getL {c k N : Nat} {C ref : String} {T : u_T} {ty : Nat → FieldType} {index : Nat} {r : Option Nat} {kk : Int64 → ZM α} (hc : zCls c C T N ty) (hk : k < N) (hf : zFT c k = 1) (hd : decode M.cc pc = .ok (.getfield index, 3)) (hw : Cond.fieldLink M.own index ref (T k).2.1 (T k).2.2.1 ∈ lw_tbl) (hr : (T k).1 = ref) (hs : ∀ x, Sim M Qf (pc + 3) lv (.inr (.inl x) :: st) (kk x)) : Sim M Qf pc lv (.inr (.inr r) :: st) (z_b (z_gL c k r) kk) := by
  refine Sim.read hs (fun h v h' e => ?_)
  unfold z_gL at e
  cases r with
  | none => cases e
  | some a =>
    dsimp only at e
    by_cases hK : zK h a = (c + 6, 0)
    · rw [if_pos hK] at e
      cases e
      refine ⟨rfl, fun X ok H locs cs n Q ls rel hl w => ?_⟩
      obtain ⟨-, hP⟩ := zRel_obj rel hK
      exact va_get ok.2.2.1 ok.2.2.2.1 (zcls_ws hc ok.1 ok.2.1 X.a) (fun w h => h) ok.2.2.2.2.2.2.1 ok.K hP 0 rfl hc.1 k hk (ok.ws hw rfl) (by rw [hr]; exact fun _ q => q) (v := .long (zL h a k)) (by rw [zfs_get (by rw [zNF_of hc]; exact hk)]; simp [zV, hf]) hd w
    · rw [if_neg hK] at e; cases e
theorem s_getLN {c k N : Nat} {C ref : String} {host : String} {T : u_T} {ty : Nat → FieldType} {index : Nat} {r : Option Nat} {kk : Int64 → ZM α} (hc : zCls c C T N ty) (hk : k < N) (hf : zFT c k = 1) (hd : decode M.cc pc = .ok (.getfield index, 3)) (hw : Cond.fieldLinkNest M.own index ref (T k).2.1 (T k).2.2.1 host ∈ lw_tbl) (hr : (T k).1 = ref) (hs : ∀ x, Sim M Qf (pc + 3) lv (.inr (.inl x) :: st) (kk x)) : Sim M Qf pc lv (.inr (.inr r) :: st) (z_b (z_gL c k r) kk) := by
  refine Sim.read hs (fun h v h' e => ?_)
  unfold z_gL at e
  cases r with
  | none => cases e
  | some a =>
    dsimp only at e
    by_cases hK : zK h a = (c + 6, 0)
    · rw [if_pos hK] at e
      cases e
      refine ⟨rfl, fun X ok H locs cs n Q ls rel hl w => ?_⟩
      obtain ⟨-, hP⟩ := zRel_obj rel hK
      exact va_getN ok.2.2.1 ok.2.2.2.1 (zcls_ws hc ok.1 ok.2.1 X.a) (fun w h => h) ok.2.2.2.2.2.2.1 ok.K hP 0 rfl hc.1 k hk (va_Nw.use rfl (va_Nw.warmF ok.2.1 (va_Nw.of rfl (ok.1.1 _ hw)))) (by rw [hr]; exact fun _ q => q) (v := .long (zL h a k)) (by rw [zfs_get (by rw [zNF_of hc]; exact hk)]; simp [zV, hf]) hd w
    · rw [if_neg hK] at e; cases e
theorem s_getR {c k N : Nat} {C ref : String} {T : u_T} {ty : Nat → FieldType} {index : Nat} {r : Option Nat} {kk : Option Nat → ZM α} (hc : zCls c C T N ty) (hk : k < N) (hf : zFT c k = 2) (hd : decode M.cc pc = .ok (.getfield index, 3)) (hw : Cond.fieldLink M.own index ref (T k).2.1 (T k).2.2.1 ∈ lw_tbl) (hr : (T k).1 = ref) (hs : ∀ x, Sim M Qf (pc + 3) lv (.inr (.inr x) :: st) (kk x)) : Sim M Qf pc lv (.inr (.inr r) :: st) (z_b (z_gR c k r) kk) := by
  refine Sim.read hs (fun h v h' e => ?_)
  unfold z_gR at e
  cases r with
  | none => cases e
  | some a =>
    dsimp only at e
    by_cases hK : zK h a = (c + 6, 0)
    · rw [if_pos hK] at e
      cases e
      refine ⟨rfl, fun X ok H locs cs n Q ls rel hl w => ?_⟩
      obtain ⟨-, hP⟩ := zRel_obj rel hK
      exact va_get ok.2.2.1 ok.2.2.2.1 (zcls_ws hc ok.1 ok.2.1 X.a) (fun w h => h) ok.2.2.2.2.2.2.1 ok.K hP 0 rfl hc.1 k hk (ok.ws hw rfl) (by rw [hr]; exact fun _ q => q) (v := va_rf (zR h a k)) (by rw [zfs_get (by rw [zNF_of hc]; exact hk)]; simp [zV, hf]) hd w
    · rw [if_neg hK] at e; cases e
theorem s_getRN {c k N : Nat} {C ref : String} {host : String} {T : u_T} {ty : Nat → FieldType} {index : Nat} {r : Option Nat} {kk : Option Nat → ZM α} (hc : zCls c C T N ty) (hk : k < N) (hf : zFT c k = 2) (hd : decode M.cc pc = .ok (.getfield index, 3)) (hw : Cond.fieldLinkNest M.own index ref (T k).2.1 (T k).2.2.1 host ∈ lw_tbl) (hr : (T k).1 = ref) (hs : ∀ x, Sim M Qf (pc + 3) lv (.inr (.inr x) :: st) (kk x)) : Sim M Qf pc lv (.inr (.inr r) :: st) (z_b (z_gR c k r) kk) := by
  refine Sim.read hs (fun h v h' e => ?_)
  unfold z_gR at e
  cases r with
  | none => cases e
  | some a =>
    dsimp only at e
    by_cases hK : zK h a = (c + 6, 0)
    · rw [if_pos hK] at e
      cases e
      refine ⟨rfl, fun X ok H locs cs n Q ls rel hl w => ?_⟩
      obtain ⟨-, hP⟩ := zRel_obj rel hK
      exact va_getN ok.2.2.1 ok.2.2.2.1 (zcls_ws hc ok.1 ok.2.1 X.a) (fun w h => h) ok.2.2.2.2.2.2.1 ok.K hP 0 rfl hc.1 k hk (va_Nw.use rfl (va_Nw.warmF ok.2.1 (va_Nw.of rfl (ok.1.1 _ hw)))) (by rw [hr]; exact fun _ q => q) (v := va_rf (zR h a k)) (by rw [zfs_get (by rw [zNF_of hc]; exact hk)]; simp [zV, hf]) hd w
    · rw [if_neg hK] at e; cases e
theorem s_putI {c k N : Nat} {C ref : String} {T : u_T} {ty : Nat → FieldType} {index : Nat} {r : Option Nat} {x : Int32} {kk : Unit → ZM α} (hc : zCls c C T N ty) (hk : k < N) (hf : zFT c k = 0) (hty : ty k = .int) (hfin : (T k).2.2.2 = false) (hd : decode M.cc pc = .ok (.putfield index, 3)) (hw : Cond.fieldLink M.own index ref (T k).2.1 (T k).2.2.1 ∈ lw_tbl) (hr : (T k).1 = ref) (hs : Sim M Qf (pc + 3) lv st (kk ())) : Sim M Qf pc lv (.inl x :: .inr (.inr r) :: st) (z_b (z_pI c k r x) kk) := by
  refine Sim.write (st' := fun _ => st) (fun _ => hs) (fun h v h1 e => ?_)
  unfold z_pI at e
  cases r with
  | none => cases e
  | some a =>
    dsimp only at e
    by_cases hK : zK h a = (c + 6, 0)
    · rw [if_pos hK] at e
      cases e
      refine ⟨rfl, rfl, fun X ok H locs cs n Q ls rel hl w => ?_⟩
      obtain ⟨hB, hP⟩ := zRel_obj rel hK
      have hap := va_apart (own := M.own) (zcls_ws hc ok.1 ok.2.1 X.a) (fun w h => h) ty hc.2.2.1 hc.2.2.2 ok.K hc.1
      obtain ⟨rr, h1', cell, q1, q2, q3, q4⟩ := hP 0 _ rfl
      have hrr : rr = (C, T, N) := Option.some.inj (h1'.symm.trans hc.1)
      subst hrr
      obtain ⟨hS, hfc, kC, hkC, hkind⟩ := ok.K.1 c _ hc.1
      obtain ⟨cf, kf, fi, f, hi, hsl⟩ := hS k hk
      have hlay := zcls_ws hc ok.1 ok.2.1 X.a _ (u_in_lay hk)
      unfold u_lay at hlay
      rw [if_neg (by rw [hfin]; decide)] at hlay
      have hst := (u_facts hfc hkC (u_lays (zcls_ws hc ok.1 ok.2.1 X.a) (fun w h => h) hk) hi).1
      have h6 := u_store hfc hkC hkind hlay hi (hc.2.2.1 k hk) (v := .int x) (by rw [hty]; rfl) (by rw [hty]; rfl)
      refine W.putK ok.2.2.1 ok.2.2.2.1 (f := f) ⟨ok.2.2.2.2.2.2.1, (ok.ws hw rfl), ⟨_, _, _, by rw [hr] at hi; exact hi⟩, hst⟩ (by rw [q2]; exact h6) q1 q3 (by rw [hsl]; exact k2_hasslot (q4 k hk)) rfl rfl hd fun H' e1 e2 e3 => ?_
      rw [hsl] at e1
      refine w H' _ (zRel_put rel hB rfl e2 e3 rfl (fun b hb => ?_) (fun b hb => ?_) (fun b hb => ?_) rfl ?_) hB
      all_goals first | (funext j; simp [zsI, zI, zL, zR, zu, hb]; done) | skip
      unfold zC
      rw [show zK (zsI h a k x) a = (c + 6, 0) from hK]
      refine ⟨hB, _, hc.1, t_OB.to ⟨_, e1, q2, q3, t_set q4 hap hk _⟩ (fun j hj => ?_)⟩
      have hN := zNF_of hc
      have z1 : ∀ hh : ZH, vp_V (zfs hh c a) j = zV hh c a j := fun hh => by unfold vp_V; rw [List.getD_eq_getElem?_getD, zfs_get (by rw [hN]; exact hj)]; rfl
      rw [z1]
      unfold updV
      by_cases hjk : j = k
      · subst hjk
        rw [if_pos rfl]
        simp [zV, hf, zsI, zI, zL, zR, zu, zval]
      · rw [if_neg hjk, z1]
        unfold zV
        split <;> simp [zsI, zI, zL, zR, zu, hjk]
    · rw [if_neg hK] at e; cases e
theorem s_putIF {c k N : Nat} {C ref : String} {T : u_T} {ty : Nat → FieldType} {index : Nat} {r : Option Nat} {x : Int32} {kk : Unit → ZM α} (hc : zCls c C T N ty) (hk : k < N) (hf : zFT c k = 0) (hty : ty k = .int) (hfin : (T k).2.2.2 = true) (hin : M.nme = "<init>") (hdecl : (T k).1 = M.own) (hd : decode M.cc pc = .ok (.putfield index, 3)) (hw : Cond.fieldLink M.own index ref (T k).2.1 (T k).2.2.1 ∈ lw_tbl) (hr : (T k).1 = ref) (hs : Sim M Qf (pc + 3) lv st (kk ())) : Sim M Qf pc lv (.inl x :: .inr (.inr r) :: st) (z_b (z_pI c k r x) kk) := by
  refine Sim.write (st' := fun _ => st) (fun _ => hs) (fun h v h1 e => ?_)
  unfold z_pI at e
  cases r with
  | none => cases e
  | some a =>
    dsimp only at e
    by_cases hK : zK h a = (c + 6, 0)
    · rw [if_pos hK] at e
      cases e
      refine ⟨rfl, rfl, fun X ok H locs cs n Q ls rel hl w => ?_⟩
      obtain ⟨hB, hP⟩ := zRel_obj rel hK
      have hap := va_apart (own := M.own) (zcls_ws hc ok.1 ok.2.1 X.a) (fun w h => h) ty hc.2.2.1 hc.2.2.2 ok.K hc.1
      obtain ⟨rr, h1', cell, q1, q2, q3, q4⟩ := hP 0 _ rfl
      have hrr : rr = (C, T, N) := Option.some.inj (h1'.symm.trans hc.1)
      subst hrr
      obtain ⟨hS, hfc, kC, hkC, hkind⟩ := ok.K.1 c _ hc.1
      obtain ⟨cf, kf, fi, f, hi, hsl⟩ := hS k hk
      have hlay := zcls_ws hc ok.1 ok.2.1 X.a _ (u_in_lay hk)
      unfold u_lay at hlay
      rw [if_pos hfin] at hlay
      have hst := (u_facts hfc hkC (u_lays (zcls_ws hc ok.1 ok.2.1 X.a) (fun w h => h) hk) hi).1
      have hcf : X.m.cls = cf := by
        obtain ⟨_, _, c', _, _, _, -, -, hf', -, -, -, hown2, -⟩ := Cond.laysFinal_spec hlay
        have e1 : c' = cf := by have := hi.symm.trans hf'; simp at this; exact this.1.symm
        rw [hdecl] at hown2
        rw [← e1]; exact Option.some.inj (ok.2.2.2.2.2.2.1.symm.trans hown2)
      have h6 := u_fits hfc hkC hkind (Or.inr hlay) hi (hc.2.2.1 k hk) (v := .int x) (by rw [hty]; rfl) (by rw [hty]; rfl)
      refine W.putFinK ok.2.2.1 ok.2.2.2.1 ok.2.2.2.2.2.2.1 (ok.ws hw rfl) (by rw [hr] at hi; exact hi) hst hcf (ok.2.2.2.2.2.2.2.2.2.2.2.2.1.trans hin) (by rw [q2]; exact h6) q1 q3 (by rw [hsl]; exact k2_hasslot (q4 k hk)) rfl rfl hd fun H' e1 e2 e3 => ?_
      rw [hsl] at e1
      refine w H' _ (zRel_put rel hB rfl e2 e3 rfl (fun b hb => ?_) (fun b hb => ?_) (fun b hb => ?_) rfl ?_) hB
      all_goals first | (funext j; simp [zsI, zI, zL, zR, zu, hb]; done) | skip
      unfold zC
      rw [show zK (zsI h a k x) a = (c + 6, 0) from hK]
      refine ⟨hB, _, hc.1, t_OB.to ⟨_, e1, q2, q3, t_set q4 hap hk _⟩ (fun j hj => ?_)⟩
      have hN := zNF_of hc
      have z1 : ∀ hh : ZH, vp_V (zfs hh c a) j = zV hh c a j := fun hh => by unfold vp_V; rw [List.getD_eq_getElem?_getD, zfs_get (by rw [hN]; exact hj)]; rfl
      rw [z1]
      unfold updV
      by_cases hjk : j = k
      · subst hjk
        rw [if_pos rfl]
        simp [zV, hf, zsI, zI, zL, zR, zu, zval]
      · rw [if_neg hjk, z1]
        unfold zV
        split <;> simp [zsI, zI, zL, zR, zu, hjk]
    · rw [if_neg hK] at e; cases e
theorem s_putIN {c k N : Nat} {C ref : String} {host : String} {T : u_T} {ty : Nat → FieldType} {index : Nat} {r : Option Nat} {x : Int32} {kk : Unit → ZM α} (hc : zCls c C T N ty) (hk : k < N) (hf : zFT c k = 0) (hty : ty k = .int) (hfin : (T k).2.2.2 = false) (hd : decode M.cc pc = .ok (.putfield index, 3)) (hw : Cond.fieldLinkNest M.own index ref (T k).2.1 (T k).2.2.1 host ∈ lw_tbl) (hr : (T k).1 = ref) (hs : Sim M Qf (pc + 3) lv st (kk ())) : Sim M Qf pc lv (.inl x :: .inr (.inr r) :: st) (z_b (z_pI c k r x) kk) := by
  refine Sim.write (st' := fun _ => st) (fun _ => hs) (fun h v h1 e => ?_)
  unfold z_pI at e
  cases r with
  | none => cases e
  | some a =>
    dsimp only at e
    by_cases hK : zK h a = (c + 6, 0)
    · rw [if_pos hK] at e
      cases e
      refine ⟨rfl, rfl, fun X ok H locs cs n Q ls rel hl w => ?_⟩
      obtain ⟨hB, hP⟩ := zRel_obj rel hK
      have hap := va_apart (own := M.own) (zcls_ws hc ok.1 ok.2.1 X.a) (fun w h => h) ty hc.2.2.1 hc.2.2.2 ok.K hc.1
      obtain ⟨rr, h1', cell, q1, q2, q3, q4⟩ := hP 0 _ rfl
      have hrr : rr = (C, T, N) := Option.some.inj (h1'.symm.trans hc.1)
      subst hrr
      obtain ⟨hS, hfc, kC, hkC, hkind⟩ := ok.K.1 c _ hc.1
      obtain ⟨cf, kf, fi, f, hi, hsl⟩ := hS k hk
      have hlay := zcls_ws hc ok.1 ok.2.1 X.a _ (u_in_lay hk)
      unfold u_lay at hlay
      rw [if_neg (by rw [hfin]; decide)] at hlay
      have hst := (u_facts hfc hkC (u_lays (zcls_ws hc ok.1 ok.2.1 X.a) (fun w h => h) hk) hi).1
      have h6 := u_store hfc hkC hkind hlay hi (hc.2.2.1 k hk) (v := .int x) (by rw [hty]; rfl) (by rw [hty]; rfl)
      refine va_WputK ok.2.2.1 ok.2.2.2.1 (f := f) ok.2.2.2.2.2.2.1 (va_Nw.use rfl (va_Nw.warmF ok.2.1 (va_Nw.of rfl (ok.1.1 _ hw)))) (by rw [hr] at hi; exact hi) hst (by rw [q2]; exact h6) q1 q3 (by rw [hsl]; exact k2_hasslot (q4 k hk)) rfl rfl hd fun H' e1 e2 e3 => ?_
      rw [hsl] at e1
      refine w H' _ (zRel_put rel hB rfl e2 e3 rfl (fun b hb => ?_) (fun b hb => ?_) (fun b hb => ?_) rfl ?_) hB
      all_goals first | (funext j; simp [zsI, zI, zL, zR, zu, hb]; done) | skip
      unfold zC
      rw [show zK (zsI h a k x) a = (c + 6, 0) from hK]
      refine ⟨hB, _, hc.1, t_OB.to ⟨_, e1, q2, q3, t_set q4 hap hk _⟩ (fun j hj => ?_)⟩
      have hN := zNF_of hc
      have z1 : ∀ hh : ZH, vp_V (zfs hh c a) j = zV hh c a j := fun hh => by unfold vp_V; rw [List.getD_eq_getElem?_getD, zfs_get (by rw [hN]; exact hj)]; rfl
      rw [z1]
      unfold updV
      by_cases hjk : j = k
      · subst hjk
        rw [if_pos rfl]
        simp [zV, hf, zsI, zI, zL, zR, zu, zval]
      · rw [if_neg hjk, z1]
        unfold zV
        split <;> simp [zsI, zI, zL, zR, zu, hjk]
    · rw [if_neg hK] at e; cases e
theorem s_putZ {c k N : Nat} {C ref : String} {T : u_T} {ty : Nat → FieldType} {index : Nat} {r : Option Nat} {x : Int32} {kk : Unit → ZM α} (hc : zCls c C T N ty) (hk : k < N) (hf : zFT c k = 0) (hty : ty k = .boolean) (hfin : (T k).2.2.2 = false) (hd : decode M.cc pc = .ok (.putfield index, 3)) (hw : Cond.fieldLink M.own index ref (T k).2.1 (T k).2.2.1 ∈ lw_tbl) (hr : (T k).1 = ref) (hs : Sim M Qf (pc + 3) lv st (kk ())) : Sim M Qf pc lv (.inl x :: .inr (.inr r) :: st) (z_b (z_pZ c k r x) kk) := by
  refine Sim.write (st' := fun _ => st) (fun _ => hs) (fun h v h1 e => ?_)
  unfold z_pZ at e
  cases r with
  | none => cases e
  | some a =>
    dsimp only at e
    by_cases hK : zK h a = (c + 6, 0) ∧ (x = 0 ∨ x = 1)
    · rw [if_pos hK] at e
      cases e
      refine ⟨rfl, rfl, fun X ok H locs cs n Q ls rel hl w => ?_⟩
      obtain ⟨hB, hP⟩ := zRel_obj rel hK.1
      have hap := va_apart (own := M.own) (zcls_ws hc ok.1 ok.2.1 X.a) (fun w h => h) ty hc.2.2.1 hc.2.2.2 ok.K hc.1
      obtain ⟨rr, h1', cell, q1, q2, q3, q4⟩ := hP 0 _ rfl
      have hrr : rr = (C, T, N) := Option.some.inj (h1'.symm.trans hc.1)
      subst hrr
      obtain ⟨hS, hfc, kC, hkC, hkind⟩ := ok.K.1 c _ hc.1
      obtain ⟨cf, kf, fi, f, hi, hsl⟩ := hS k hk
      have hlay := zcls_ws hc ok.1 ok.2.1 X.a _ (u_in_lay hk)
      unfold u_lay at hlay
      rw [if_neg (by rw [hfin]; decide)] at hlay
      have hst := (u_facts hfc hkC (u_lays (zcls_ws hc ok.1 ok.2.1 X.a) (fun w h => h) hk) hi).1
      have h6 := u_store hfc hkC hkind hlay hi (hc.2.2.1 k hk) (v := .int x) (by rw [hty]; rcases hK.2 with q | q <;> rw [q] <;> rfl) (by rw [hty]; rcases hK.2 with q | q <;> rw [q] <;> rfl)
      refine W.putK ok.2.2.1 ok.2.2.2.1 (f := f) ⟨ok.2.2.2.2.2.2.1, (ok.ws hw rfl), ⟨_, _, _, by rw [hr] at hi; exact hi⟩, hst⟩ (by rw [q2]; exact h6) q1 q3 (by rw [hsl]; exact k2_hasslot (q4 k hk)) rfl rfl hd fun H' e1 e2 e3 => ?_
      rw [hsl] at e1
      refine w H' _ (zRel_put rel hB rfl e2 e3 rfl (fun b hb => ?_) (fun b hb => ?_) (fun b hb => ?_) rfl ?_) hB
      all_goals first | (funext j; simp [zsI, zI, zL, zR, zu, hb]; done) | skip
      unfold zC
      rw [show zK (zsI h a k x) a = (c + 6, 0) from hK.1]
      refine ⟨hB, _, hc.1, t_OB.to ⟨_, e1, q2, q3, t_set q4 hap hk _⟩ (fun j hj => ?_)⟩
      have hN := zNF_of hc
      have z1 : ∀ hh : ZH, vp_V (zfs hh c a) j = zV hh c a j := fun hh => by unfold vp_V; rw [List.getD_eq_getElem?_getD, zfs_get (by rw [hN]; exact hj)]; rfl
      rw [z1]
      unfold updV
      by_cases hjk : j = k
      · subst hjk
        rw [if_pos rfl]
        simp [zV, hf, zsI, zI, zL, zR, zu, zval]
      · rw [if_neg hjk, z1]
        unfold zV
        split <;> simp [zsI, zI, zL, zR, zu, hjk]
    · rw [if_neg hK] at e; cases e
theorem s_putZF {c k N : Nat} {C ref : String} {T : u_T} {ty : Nat → FieldType} {index : Nat} {r : Option Nat} {x : Int32} {kk : Unit → ZM α} (hc : zCls c C T N ty) (hk : k < N) (hf : zFT c k = 0) (hty : ty k = .boolean) (hfin : (T k).2.2.2 = true) (hin : M.nme = "<init>") (hdecl : (T k).1 = M.own) (hd : decode M.cc pc = .ok (.putfield index, 3)) (hw : Cond.fieldLink M.own index ref (T k).2.1 (T k).2.2.1 ∈ lw_tbl) (hr : (T k).1 = ref) (hs : Sim M Qf (pc + 3) lv st (kk ())) : Sim M Qf pc lv (.inl x :: .inr (.inr r) :: st) (z_b (z_pZ c k r x) kk) := by
  refine Sim.write (st' := fun _ => st) (fun _ => hs) (fun h v h1 e => ?_)
  unfold z_pZ at e
  cases r with
  | none => cases e
  | some a =>
    dsimp only at e
    by_cases hK : zK h a = (c + 6, 0) ∧ (x = 0 ∨ x = 1)
    · rw [if_pos hK] at e
      cases e
      refine ⟨rfl, rfl, fun X ok H locs cs n Q ls rel hl w => ?_⟩
      obtain ⟨hB, hP⟩ := zRel_obj rel hK.1
      have hap := va_apart (own := M.own) (zcls_ws hc ok.1 ok.2.1 X.a) (fun w h => h) ty hc.2.2.1 hc.2.2.2 ok.K hc.1
      obtain ⟨rr, h1', cell, q1, q2, q3, q4⟩ := hP 0 _ rfl
      have hrr : rr = (C, T, N) := Option.some.inj (h1'.symm.trans hc.1)
      subst hrr
      obtain ⟨hS, hfc, kC, hkC, hkind⟩ := ok.K.1 c _ hc.1
      obtain ⟨cf, kf, fi, f, hi, hsl⟩ := hS k hk
      have hlay := zcls_ws hc ok.1 ok.2.1 X.a _ (u_in_lay hk)
      unfold u_lay at hlay
      rw [if_pos hfin] at hlay
      have hst := (u_facts hfc hkC (u_lays (zcls_ws hc ok.1 ok.2.1 X.a) (fun w h => h) hk) hi).1
      have hcf : X.m.cls = cf := by
        obtain ⟨_, _, c', _, _, _, -, -, hf', -, -, -, hown2, -⟩ := Cond.laysFinal_spec hlay
        have e1 : c' = cf := by have := hi.symm.trans hf'; simp at this; exact this.1.symm
        rw [hdecl] at hown2
        rw [← e1]; exact Option.some.inj (ok.2.2.2.2.2.2.1.symm.trans hown2)
      have h6 := u_fits hfc hkC hkind (Or.inr hlay) hi (hc.2.2.1 k hk) (v := .int x) (by rw [hty]; rcases hK.2 with q | q <;> rw [q] <;> rfl) (by rw [hty]; rcases hK.2 with q | q <;> rw [q] <;> rfl)
      refine W.putFinK ok.2.2.1 ok.2.2.2.1 ok.2.2.2.2.2.2.1 (ok.ws hw rfl) (by rw [hr] at hi; exact hi) hst hcf (ok.2.2.2.2.2.2.2.2.2.2.2.2.1.trans hin) (by rw [q2]; exact h6) q1 q3 (by rw [hsl]; exact k2_hasslot (q4 k hk)) rfl rfl hd fun H' e1 e2 e3 => ?_
      rw [hsl] at e1
      refine w H' _ (zRel_put rel hB rfl e2 e3 rfl (fun b hb => ?_) (fun b hb => ?_) (fun b hb => ?_) rfl ?_) hB
      all_goals first | (funext j; simp [zsI, zI, zL, zR, zu, hb]; done) | skip
      unfold zC
      rw [show zK (zsI h a k x) a = (c + 6, 0) from hK.1]
      refine ⟨hB, _, hc.1, t_OB.to ⟨_, e1, q2, q3, t_set q4 hap hk _⟩ (fun j hj => ?_)⟩
      have hN := zNF_of hc
      have z1 : ∀ hh : ZH, vp_V (zfs hh c a) j = zV hh c a j := fun hh => by unfold vp_V; rw [List.getD_eq_getElem?_getD, zfs_get (by rw [hN]; exact hj)]; rfl
      rw [z1]
      unfold updV
      by_cases hjk : j = k
      · subst hjk
        rw [if_pos rfl]
        simp [zV, hf, zsI, zI, zL, zR, zu, zval]
      · rw [if_neg hjk, z1]
        unfold zV
        split <;> simp [zsI, zI, zL, zR, zu, hjk]
    · rw [if_neg hK] at e; cases e
theorem s_putZN {c k N : Nat} {C ref : String} {host : String} {T : u_T} {ty : Nat → FieldType} {index : Nat} {r : Option Nat} {x : Int32} {kk : Unit → ZM α} (hc : zCls c C T N ty) (hk : k < N) (hf : zFT c k = 0) (hty : ty k = .boolean) (hfin : (T k).2.2.2 = false) (hd : decode M.cc pc = .ok (.putfield index, 3)) (hw : Cond.fieldLinkNest M.own index ref (T k).2.1 (T k).2.2.1 host ∈ lw_tbl) (hr : (T k).1 = ref) (hs : Sim M Qf (pc + 3) lv st (kk ())) : Sim M Qf pc lv (.inl x :: .inr (.inr r) :: st) (z_b (z_pZ c k r x) kk) := by
  refine Sim.write (st' := fun _ => st) (fun _ => hs) (fun h v h1 e => ?_)
  unfold z_pZ at e
  cases r with
  | none => cases e
  | some a =>
    dsimp only at e
    by_cases hK : zK h a = (c + 6, 0) ∧ (x = 0 ∨ x = 1)
    · rw [if_pos hK] at e
      cases e
      refine ⟨rfl, rfl, fun X ok H locs cs n Q ls rel hl w => ?_⟩
      obtain ⟨hB, hP⟩ := zRel_obj rel hK.1
      have hap := va_apart (own := M.own) (zcls_ws hc ok.1 ok.2.1 X.a) (fun w h => h) ty hc.2.2.1 hc.2.2.2 ok.K hc.1
      obtain ⟨rr, h1', cell, q1, q2, q3, q4⟩ := hP 0 _ rfl
      have hrr : rr = (C, T, N) := Option.some.inj (h1'.symm.trans hc.1)
      subst hrr
      obtain ⟨hS, hfc, kC, hkC, hkind⟩ := ok.K.1 c _ hc.1
      obtain ⟨cf, kf, fi, f, hi, hsl⟩ := hS k hk
      have hlay := zcls_ws hc ok.1 ok.2.1 X.a _ (u_in_lay hk)
      unfold u_lay at hlay
      rw [if_neg (by rw [hfin]; decide)] at hlay
      have hst := (u_facts hfc hkC (u_lays (zcls_ws hc ok.1 ok.2.1 X.a) (fun w h => h) hk) hi).1
      have h6 := u_store hfc hkC hkind hlay hi (hc.2.2.1 k hk) (v := .int x) (by rw [hty]; rcases hK.2 with q | q <;> rw [q] <;> rfl) (by rw [hty]; rcases hK.2 with q | q <;> rw [q] <;> rfl)
      refine va_WputK ok.2.2.1 ok.2.2.2.1 (f := f) ok.2.2.2.2.2.2.1 (va_Nw.use rfl (va_Nw.warmF ok.2.1 (va_Nw.of rfl (ok.1.1 _ hw)))) (by rw [hr] at hi; exact hi) hst (by rw [q2]; exact h6) q1 q3 (by rw [hsl]; exact k2_hasslot (q4 k hk)) rfl rfl hd fun H' e1 e2 e3 => ?_
      rw [hsl] at e1
      refine w H' _ (zRel_put rel hB rfl e2 e3 rfl (fun b hb => ?_) (fun b hb => ?_) (fun b hb => ?_) rfl ?_) hB
      all_goals first | (funext j; simp [zsI, zI, zL, zR, zu, hb]; done) | skip
      unfold zC
      rw [show zK (zsI h a k x) a = (c + 6, 0) from hK.1]
      refine ⟨hB, _, hc.1, t_OB.to ⟨_, e1, q2, q3, t_set q4 hap hk _⟩ (fun j hj => ?_)⟩
      have hN := zNF_of hc
      have z1 : ∀ hh : ZH, vp_V (zfs hh c a) j = zV hh c a j := fun hh => by unfold vp_V; rw [List.getD_eq_getElem?_getD, zfs_get (by rw [hN]; exact hj)]; rfl
      rw [z1]
      unfold updV
      by_cases hjk : j = k
      · subst hjk
        rw [if_pos rfl]
        simp [zV, hf, zsI, zI, zL, zR, zu, zval]
      · rw [if_neg hjk, z1]
        unfold zV
        split <;> simp [zsI, zI, zL, zR, zu, hjk]
    · rw [if_neg hK] at e; cases e
theorem s_putL {c k N : Nat} {C ref : String} {T : u_T} {ty : Nat → FieldType} {index : Nat} {r : Option Nat} {x : Int64} {kk : Unit → ZM α} (hc : zCls c C T N ty) (hk : k < N) (hf : zFT c k = 1) (hty : ty k = .long) (hfin : (T k).2.2.2 = false) (hd : decode M.cc pc = .ok (.putfield index, 3)) (hw : Cond.fieldLink M.own index ref (T k).2.1 (T k).2.2.1 ∈ lw_tbl) (hr : (T k).1 = ref) (hs : Sim M Qf (pc + 3) lv st (kk ())) : Sim M Qf pc lv (.inr (.inl x) :: .inr (.inr r) :: st) (z_b (z_pL c k r x) kk) := by
  refine Sim.write (st' := fun _ => st) (fun _ => hs) (fun h v h1 e => ?_)
  unfold z_pL at e
  cases r with
  | none => cases e
  | some a =>
    dsimp only at e
    by_cases hK : zK h a = (c + 6, 0)
    · rw [if_pos hK] at e
      cases e
      refine ⟨rfl, rfl, fun X ok H locs cs n Q ls rel hl w => ?_⟩
      obtain ⟨hB, hP⟩ := zRel_obj rel hK
      have hap := va_apart (own := M.own) (zcls_ws hc ok.1 ok.2.1 X.a) (fun w h => h) ty hc.2.2.1 hc.2.2.2 ok.K hc.1
      obtain ⟨rr, h1', cell, q1, q2, q3, q4⟩ := hP 0 _ rfl
      have hrr : rr = (C, T, N) := Option.some.inj (h1'.symm.trans hc.1)
      subst hrr
      obtain ⟨hS, hfc, kC, hkC, hkind⟩ := ok.K.1 c _ hc.1
      obtain ⟨cf, kf, fi, f, hi, hsl⟩ := hS k hk
      have hlay := zcls_ws hc ok.1 ok.2.1 X.a _ (u_in_lay hk)
      unfold u_lay at hlay
      rw [if_neg (by rw [hfin]; decide)] at hlay
      have hst := (u_facts hfc hkC (u_lays (zcls_ws hc ok.1 ok.2.1 X.a) (fun w h => h) hk) hi).1
      have h6 := u_store hfc hkC hkind hlay hi (hc.2.2.1 k hk) (v := .long x) (by rw [hty]; rfl) (by rw [hty]; rfl)
      refine W.putK ok.2.2.1 ok.2.2.2.1 (f := f) ⟨ok.2.2.2.2.2.2.1, (ok.ws hw rfl), ⟨_, _, _, by rw [hr] at hi; exact hi⟩, hst⟩ (by rw [q2]; exact h6) q1 q3 (by rw [hsl]; exact k2_hasslot (q4 k hk)) rfl rfl hd fun H' e1 e2 e3 => ?_
      rw [hsl] at e1
      refine w H' _ (zRel_put rel hB rfl e2 e3 rfl (fun b hb => ?_) (fun b hb => ?_) (fun b hb => ?_) rfl ?_) hB
      all_goals first | (funext j; simp [zsL, zI, zL, zR, zu, hb]; done) | skip
      unfold zC
      rw [show zK (zsL h a k x) a = (c + 6, 0) from hK]
      refine ⟨hB, _, hc.1, t_OB.to ⟨_, e1, q2, q3, t_set q4 hap hk _⟩ (fun j hj => ?_)⟩
      have hN := zNF_of hc
      have z1 : ∀ hh : ZH, vp_V (zfs hh c a) j = zV hh c a j := fun hh => by unfold vp_V; rw [List.getD_eq_getElem?_getD, zfs_get (by rw [hN]; exact hj)]; rfl
      rw [z1]
      unfold updV
      by_cases hjk : j = k
      · subst hjk
        rw [if_pos rfl]
        simp [zV, hf, zsL, zI, zL, zR, zu, zval]
      · rw [if_neg hjk, z1]
        unfold zV
        split <;> simp [zsL, zI, zL, zR, zu, hjk]
    · rw [if_neg hK] at e; cases e
theorem s_putLF {c k N : Nat} {C ref : String} {T : u_T} {ty : Nat → FieldType} {index : Nat} {r : Option Nat} {x : Int64} {kk : Unit → ZM α} (hc : zCls c C T N ty) (hk : k < N) (hf : zFT c k = 1) (hty : ty k = .long) (hfin : (T k).2.2.2 = true) (hin : M.nme = "<init>") (hdecl : (T k).1 = M.own) (hd : decode M.cc pc = .ok (.putfield index, 3)) (hw : Cond.fieldLink M.own index ref (T k).2.1 (T k).2.2.1 ∈ lw_tbl) (hr : (T k).1 = ref) (hs : Sim M Qf (pc + 3) lv st (kk ())) : Sim M Qf pc lv (.inr (.inl x) :: .inr (.inr r) :: st) (z_b (z_pL c k r x) kk) := by
  refine Sim.write (st' := fun _ => st) (fun _ => hs) (fun h v h1 e => ?_)
  unfold z_pL at e
  cases r with
  | none => cases e
  | some a =>
    dsimp only at e
    by_cases hK : zK h a = (c + 6, 0)
    · rw [if_pos hK] at e
      cases e
      refine ⟨rfl, rfl, fun X ok H locs cs n Q ls rel hl w => ?_⟩
      obtain ⟨hB, hP⟩ := zRel_obj rel hK
      have hap := va_apart (own := M.own) (zcls_ws hc ok.1 ok.2.1 X.a) (fun w h => h) ty hc.2.2.1 hc.2.2.2 ok.K hc.1
      obtain ⟨rr, h1', cell, q1, q2, q3, q4⟩ := hP 0 _ rfl
      have hrr : rr = (C, T, N) := Option.some.inj (h1'.symm.trans hc.1)
      subst hrr
      obtain ⟨hS, hfc, kC, hkC, hkind⟩ := ok.K.1 c _ hc.1
      obtain ⟨cf, kf, fi, f, hi, hsl⟩ := hS k hk
      have hlay := zcls_ws hc ok.1 ok.2.1 X.a _ (u_in_lay hk)
      unfold u_lay at hlay
      rw [if_pos hfin] at hlay
      have hst := (u_facts hfc hkC (u_lays (zcls_ws hc ok.1 ok.2.1 X.a) (fun w h => h) hk) hi).1
      have hcf : X.m.cls = cf := by
        obtain ⟨_, _, c', _, _, _, -, -, hf', -, -, -, hown2, -⟩ := Cond.laysFinal_spec hlay
        have e1 : c' = cf := by have := hi.symm.trans hf'; simp at this; exact this.1.symm
        rw [hdecl] at hown2
        rw [← e1]; exact Option.some.inj (ok.2.2.2.2.2.2.1.symm.trans hown2)
      have h6 := u_fits hfc hkC hkind (Or.inr hlay) hi (hc.2.2.1 k hk) (v := .long x) (by rw [hty]; rfl) (by rw [hty]; rfl)
      refine W.putFinK ok.2.2.1 ok.2.2.2.1 ok.2.2.2.2.2.2.1 (ok.ws hw rfl) (by rw [hr] at hi; exact hi) hst hcf (ok.2.2.2.2.2.2.2.2.2.2.2.2.1.trans hin) (by rw [q2]; exact h6) q1 q3 (by rw [hsl]; exact k2_hasslot (q4 k hk)) rfl rfl hd fun H' e1 e2 e3 => ?_
      rw [hsl] at e1
      refine w H' _ (zRel_put rel hB rfl e2 e3 rfl (fun b hb => ?_) (fun b hb => ?_) (fun b hb => ?_) rfl ?_) hB
      all_goals first | (funext j; simp [zsL, zI, zL, zR, zu, hb]; done) | skip
      unfold zC
      rw [show zK (zsL h a k x) a = (c + 6, 0) from hK]
      refine ⟨hB, _, hc.1, t_OB.to ⟨_, e1, q2, q3, t_set q4 hap hk _⟩ (fun j hj => ?_)⟩
      have hN := zNF_of hc
      have z1 : ∀ hh : ZH, vp_V (zfs hh c a) j = zV hh c a j := fun hh => by unfold vp_V; rw [List.getD_eq_getElem?_getD, zfs_get (by rw [hN]; exact hj)]; rfl
      rw [z1]
      unfold updV
      by_cases hjk : j = k
      · subst hjk
        rw [if_pos rfl]
        simp [zV, hf, zsL, zI, zL, zR, zu, zval]
      · rw [if_neg hjk, z1]
        unfold zV
        split <;> simp [zsL, zI, zL, zR, zu, hjk]
    · rw [if_neg hK] at e; cases e
theorem s_putLN {c k N : Nat} {C ref : String} {host : String} {T : u_T} {ty : Nat → FieldType} {index : Nat} {r : Option Nat} {x : Int64} {kk : Unit → ZM α} (hc : zCls c C T N ty) (hk : k < N) (hf : zFT c k = 1) (hty : ty k = .long) (hfin : (T k).2.2.2 = false) (hd : decode M.cc pc = .ok (.putfield index, 3)) (hw : Cond.fieldLinkNest M.own index ref (T k).2.1 (T k).2.2.1 host ∈ lw_tbl) (hr : (T k).1 = ref) (hs : Sim M Qf (pc + 3) lv st (kk ())) : Sim M Qf pc lv (.inr (.inl x) :: .inr (.inr r) :: st) (z_b (z_pL c k r x) kk) := by
  refine Sim.write (st' := fun _ => st) (fun _ => hs) (fun h v h1 e => ?_)
  unfold z_pL at e
  cases r with
  | none => cases e
  | some a =>
    dsimp only at e
    by_cases hK : zK h a = (c + 6, 0)
    · rw [if_pos hK] at e
      cases e
      refine ⟨rfl, rfl, fun X ok H locs cs n Q ls rel hl w => ?_⟩
      obtain ⟨hB, hP⟩ := zRel_obj rel hK
      have hap := va_apart (own := M.own) (zcls_ws hc ok.1 ok.2.1 X.a) (fun w h => h) ty hc.2.2.1 hc.2.2.2 ok.K hc.1
      obtain ⟨rr, h1', cell, q1, q2, q3, q4⟩ := hP 0 _ rfl
      have hrr : rr = (C, T, N) := Option.some.inj (h1'.symm.trans hc.1)
      subst hrr
      obtain ⟨hS, hfc, kC, hkC, hkind⟩ := ok.K.1 c _ hc.1
      obtain ⟨cf, kf, fi, f, hi, hsl⟩ := hS k hk
      have hlay := zcls_ws hc ok.1 ok.2.1 X.a _ (u_in_lay hk)
      unfold u_lay at hlay
      rw [if_neg (by rw [hfin]; decide)] at hlay
      have hst := (u_facts hfc hkC (u_lays (zcls_ws hc ok.1 ok.2.1 X.a) (fun w h => h) hk) hi).1
      have h6 := u_store hfc hkC hkind hlay hi (hc.2.2.1 k hk) (v := .long x) (by rw [hty]; rfl) (by rw [hty]; rfl)
      refine va_WputK ok.2.2.1 ok.2.2.2.1 (f := f) ok.2.2.2.2.2.2.1 (va_Nw.use rfl (va_Nw.warmF ok.2.1 (va_Nw.of rfl (ok.1.1 _ hw)))) (by rw [hr] at hi; exact hi) hst (by rw [q2]; exact h6) q1 q3 (by rw [hsl]; exact k2_hasslot (q4 k hk)) rfl rfl hd fun H' e1 e2 e3 => ?_
      rw [hsl] at e1
      refine w H' _ (zRel_put rel hB rfl e2 e3 rfl (fun b hb => ?_) (fun b hb => ?_) (fun b hb => ?_) rfl ?_) hB
      all_goals first | (funext j; simp [zsL, zI, zL, zR, zu, hb]; done) | skip
      unfold zC
      rw [show zK (zsL h a k x) a = (c + 6, 0) from hK]
      refine ⟨hB, _, hc.1, t_OB.to ⟨_, e1, q2, q3, t_set q4 hap hk _⟩ (fun j hj => ?_)⟩
      have hN := zNF_of hc
      have z1 : ∀ hh : ZH, vp_V (zfs hh c a) j = zV hh c a j := fun hh => by unfold vp_V; rw [List.getD_eq_getElem?_getD, zfs_get (by rw [hN]; exact hj)]; rfl
      rw [z1]
      unfold updV
      by_cases hjk : j = k
      · subst hjk
        rw [if_pos rfl]
        simp [zV, hf, zsL, zI, zL, zR, zu, zval]
      · rw [if_neg hjk, z1]
        unfold zV
        split <;> simp [zsL, zI, zL, zR, zu, hjk]
    · rw [if_neg hK] at e; cases e
theorem s_putR {c k N : Nat} {C ref : String} {T : u_T} {ty : Nat → FieldType} {index : Nat} {r : Option Nat} {x : Option Nat} {kk : Unit → ZM α} (hc : zCls c C T N ty) (hk : k < N) (hf : zFT c k = 2) (hty : (ty k).isReference = true) (hfin : (T k).2.2.2 = false) (hd : decode M.cc pc = .ok (.putfield index, 3)) (hw : Cond.fieldLink M.own index ref (T k).2.1 (T k).2.2.1 ∈ lw_tbl) (hr : (T k).1 = ref) (hs : Sim M Qf (pc + 3) lv st (kk ())) : Sim M Qf pc lv (.inr (.inr x) :: .inr (.inr r) :: st) (z_b (z_pR c k r x) kk) := by
  refine Sim.write (st' := fun _ => st) (fun _ => hs) (fun h v h1 e => ?_)
  unfold z_pR at e
  cases r with
  | none => cases e
  | some a =>
    dsimp only at e
    by_cases hK : zK h a = (c + 6, 0)
    · rw [if_pos hK] at e
      cases e
      refine ⟨rfl, rfl, fun X ok H locs cs n Q ls rel hl w => ?_⟩
      obtain ⟨hB, hP⟩ := zRel_obj rel hK
      have hap := va_apart (own := M.own) (zcls_ws hc ok.1 ok.2.1 X.a) (fun w h => h) ty hc.2.2.1 hc.2.2.2 ok.K hc.1
      obtain ⟨rr, h1', cell, q1, q2, q3, q4⟩ := hP 0 _ rfl
      have hrr : rr = (C, T, N) := Option.some.inj (h1'.symm.trans hc.1)
      subst hrr
      obtain ⟨hS, hfc, kC, hkC, hkind⟩ := ok.K.1 c _ hc.1
      obtain ⟨cf, kf, fi, f, hi, hsl⟩ := hS k hk
      have hlay := zcls_ws hc ok.1 ok.2.1 X.a _ (u_in_lay hk)
      unfold u_lay at hlay
      rw [if_neg (by rw [hfin]; decide)] at hlay
      have hst := (u_facts hfc hkC (u_lays (zcls_ws hc ok.1 ok.2.1 X.a) (fun w h => h) hk) hi).1
      have h6 := u_store hfc hkC hkind hlay hi (hc.2.2.1 k hk) (v := va_rf x) (znar_ref hty x) (zfit_ref hty x)
      refine W.putK ok.2.2.1 ok.2.2.2.1 (f := f) ⟨ok.2.2.2.2.2.2.1, (ok.ws hw rfl), ⟨_, _, _, by rw [hr] at hi; exact hi⟩, hst⟩ (by rw [q2]; exact h6) q1 q3 (by rw [hsl]; exact k2_hasslot (q4 k hk)) rfl rfl hd fun H' e1 e2 e3 => ?_
      rw [hsl] at e1
      refine w H' _ (zRel_put rel hB rfl e2 e3 rfl (fun b hb => ?_) (fun b hb => ?_) (fun b hb => ?_) rfl ?_) hB
      all_goals first | (funext j; simp [zsR, zI, zL, zR, zu, hb]; done) | skip
      unfold zC
      rw [show zK (zsR h a k x) a = (c + 6, 0) from hK]
      refine ⟨hB, _, hc.1, t_OB.to ⟨_, e1, q2, q3, t_set q4 hap hk _⟩ (fun j hj => ?_)⟩
      have hN := zNF_of hc
      have z1 : ∀ hh : ZH, vp_V (zfs hh c a) j = zV hh c a j := fun hh => by unfold vp_V; rw [List.getD_eq_getElem?_getD, zfs_get (by rw [hN]; exact hj)]; rfl
      rw [z1]
      unfold updV
      by_cases hjk : j = k
      · subst hjk
        rw [if_pos rfl]
        simp [zV, hf, zsR, zI, zL, zR, zu, zval]
      · rw [if_neg hjk, z1]
        unfold zV
        split <;> simp [zsR, zI, zL, zR, zu, hjk]
    · rw [if_neg hK] at e; cases e
theorem s_putRF {c k N : Nat} {C ref : String} {T : u_T} {ty : Nat → FieldType} {index : Nat} {r : Option Nat} {x : Option Nat} {kk : Unit → ZM α} (hc : zCls c C T N ty) (hk : k < N) (hf : zFT c k = 2) (hty : (ty k).isReference = true) (hfin : (T k).2.2.2 = true) (hin : M.nme = "<init>") (hdecl : (T k).1 = M.own) (hd : decode M.cc pc = .ok (.putfield index, 3)) (hw : Cond.fieldLink M.own index ref (T k).2.1 (T k).2.2.1 ∈ lw_tbl) (hr : (T k).1 = ref) (hs : Sim M Qf (pc + 3) lv st (kk ())) : Sim M Qf pc lv (.inr (.inr x) :: .inr (.inr r) :: st) (z_b (z_pR c k r x) kk) := by
  refine Sim.write (st' := fun _ => st) (fun _ => hs) (fun h v h1 e => ?_)
  unfold z_pR at e
  cases r with
  | none => cases e
  | some a =>
    dsimp only at e
    by_cases hK : zK h a = (c + 6, 0)
    · rw [if_pos hK] at e
      cases e
      refine ⟨rfl, rfl, fun X ok H locs cs n Q ls rel hl w => ?_⟩
      obtain ⟨hB, hP⟩ := zRel_obj rel hK
      have hap := va_apart (own := M.own) (zcls_ws hc ok.1 ok.2.1 X.a) (fun w h => h) ty hc.2.2.1 hc.2.2.2 ok.K hc.1
      obtain ⟨rr, h1', cell, q1, q2, q3, q4⟩ := hP 0 _ rfl
      have hrr : rr = (C, T, N) := Option.some.inj (h1'.symm.trans hc.1)
      subst hrr
      obtain ⟨hS, hfc, kC, hkC, hkind⟩ := ok.K.1 c _ hc.1
      obtain ⟨cf, kf, fi, f, hi, hsl⟩ := hS k hk
      have hlay := zcls_ws hc ok.1 ok.2.1 X.a _ (u_in_lay hk)
      unfold u_lay at hlay
      rw [if_pos hfin] at hlay
      have hst := (u_facts hfc hkC (u_lays (zcls_ws hc ok.1 ok.2.1 X.a) (fun w h => h) hk) hi).1
      have hcf : X.m.cls = cf := by
        obtain ⟨_, _, c', _, _, _, -, -, hf', -, -, -, hown2, -⟩ := Cond.laysFinal_spec hlay
        have e1 : c' = cf := by have := hi.symm.trans hf'; simp at this; exact this.1.symm
        rw [hdecl] at hown2
        rw [← e1]; exact Option.some.inj (ok.2.2.2.2.2.2.1.symm.trans hown2)
      have h6 := u_fits hfc hkC hkind (Or.inr hlay) hi (hc.2.2.1 k hk) (v := va_rf x) (znar_ref hty x) (zfit_ref hty x)
      refine W.putFinK ok.2.2.1 ok.2.2.2.1 ok.2.2.2.2.2.2.1 (ok.ws hw rfl) (by rw [hr] at hi; exact hi) hst hcf (ok.2.2.2.2.2.2.2.2.2.2.2.2.1.trans hin) (by rw [q2]; exact h6) q1 q3 (by rw [hsl]; exact k2_hasslot (q4 k hk)) rfl rfl hd fun H' e1 e2 e3 => ?_
      rw [hsl] at e1
      refine w H' _ (zRel_put rel hB rfl e2 e3 rfl (fun b hb => ?_) (fun b hb => ?_) (fun b hb => ?_) rfl ?_) hB
      all_goals first | (funext j; simp [zsR, zI, zL, zR, zu, hb]; done) | skip
      unfold zC
      rw [show zK (zsR h a k x) a = (c + 6, 0) from hK]
      refine ⟨hB, _, hc.1, t_OB.to ⟨_, e1, q2, q3, t_set q4 hap hk _⟩ (fun j hj => ?_)⟩
      have hN := zNF_of hc
      have z1 : ∀ hh : ZH, vp_V (zfs hh c a) j = zV hh c a j := fun hh => by unfold vp_V; rw [List.getD_eq_getElem?_getD, zfs_get (by rw [hN]; exact hj)]; rfl
      rw [z1]
      unfold updV
      by_cases hjk : j = k
      · subst hjk
        rw [if_pos rfl]
        simp [zV, hf, zsR, zI, zL, zR, zu, zval]
      · rw [if_neg hjk, z1]
        unfold zV
        split <;> simp [zsR, zI, zL, zR, zu, hjk]
    · rw [if_neg hK] at e; cases e
theorem s_putRN {c k N : Nat} {C ref : String} {host : String} {T : u_T} {ty : Nat → FieldType} {index : Nat} {r : Option Nat} {x : Option Nat} {kk : Unit → ZM α} (hc : zCls c C T N ty) (hk : k < N) (hf : zFT c k = 2) (hty : (ty k).isReference = true) (hfin : (T k).2.2.2 = false) (hd : decode M.cc pc = .ok (.putfield index, 3)) (hw : Cond.fieldLinkNest M.own index ref (T k).2.1 (T k).2.2.1 host ∈ lw_tbl) (hr : (T k).1 = ref) (hs : Sim M Qf (pc + 3) lv st (kk ())) : Sim M Qf pc lv (.inr (.inr x) :: .inr (.inr r) :: st) (z_b (z_pR c k r x) kk) := by
  refine Sim.write (st' := fun _ => st) (fun _ => hs) (fun h v h1 e => ?_)
  unfold z_pR at e
  cases r with
  | none => cases e
  | some a =>
    dsimp only at e
    by_cases hK : zK h a = (c + 6, 0)
    · rw [if_pos hK] at e
      cases e
      refine ⟨rfl, rfl, fun X ok H locs cs n Q ls rel hl w => ?_⟩
      obtain ⟨hB, hP⟩ := zRel_obj rel hK
      have hap := va_apart (own := M.own) (zcls_ws hc ok.1 ok.2.1 X.a) (fun w h => h) ty hc.2.2.1 hc.2.2.2 ok.K hc.1
      obtain ⟨rr, h1', cell, q1, q2, q3, q4⟩ := hP 0 _ rfl
      have hrr : rr = (C, T, N) := Option.some.inj (h1'.symm.trans hc.1)
      subst hrr
      obtain ⟨hS, hfc, kC, hkC, hkind⟩ := ok.K.1 c _ hc.1
      obtain ⟨cf, kf, fi, f, hi, hsl⟩ := hS k hk
      have hlay := zcls_ws hc ok.1 ok.2.1 X.a _ (u_in_lay hk)
      unfold u_lay at hlay
      rw [if_neg (by rw [hfin]; decide)] at hlay
      have hst := (u_facts hfc hkC (u_lays (zcls_ws hc ok.1 ok.2.1 X.a) (fun w h => h) hk) hi).1
      have h6 := u_store hfc hkC hkind hlay hi (hc.2.2.1 k hk) (v := va_rf x) (znar_ref hty x) (zfit_ref hty x)
      refine va_WputK ok.2.2.1 ok.2.2.2.1 (f := f) ok.2.2.2.2.2.2.1 (va_Nw.use rfl (va_Nw.warmF ok.2.1 (va_Nw.of rfl (ok.1.1 _ hw)))) (by rw [hr] at hi; exact hi) hst (by rw [q2]; exact h6) q1 q3 (by rw [hsl]; exact k2_hasslot (q4 k hk)) rfl rfl hd fun H' e1 e2 e3 => ?_
      rw [hsl] at e1
      refine w H' _ (zRel_put rel hB rfl e2 e3 rfl (fun b hb => ?_) (fun b hb => ?_) (fun b hb => ?_) rfl ?_) hB
      all_goals first | (funext j; simp [zsR, zI, zL, zR, zu, hb]; done) | skip
      unfold zC
      rw [show zK (zsR h a k x) a = (c + 6, 0) from hK]
      refine ⟨hB, _, hc.1, t_OB.to ⟨_, e1, q2, q3, t_set q4 hap hk _⟩ (fun j hj => ?_)⟩
      have hN := zNF_of hc
      have z1 : ∀ hh : ZH, vp_V (zfs hh c a) j = zV hh c a j := fun hh => by unfold vp_V; rw [List.getD_eq_getElem?_getD, zfs_get (by rw [hN]; exact hj)]; rfl
      rw [z1]
      unfold updV
      by_cases hjk : j = k
      · subst hjk
        rw [if_pos rfl]
        simp [zV, hf, zsR, zI, zL, zR, zu, zval]
      · rw [if_neg hjk, z1]
        unfold zV
        split <;> simp [zsR, zI, zL, zR, zu, hjk]
    · rw [if_neg hK] at e; cases e
theorem s_iald {r : Option Nat} {i : Int32} {kk : Int32 → ZM α} (hd : decode M.cc pc = .ok (.iaload, 1)) (hs : ∀ x, Sim M Qf (pc + 1) lv (.inl x :: st) (kk x)) : Sim M Qf pc lv (.inl i :: .inr (.inr r) :: st) (z_b (z_aI r i) kk) := by
  refine Sim.read hs (fun h v h' e => ?_)
  unfold z_aI at e
  cases r with
  | none => cases e
  | some a =>
    dsimp only at e
    by_cases hK : (zK h a).1 = 1 ∧ ¬ (i < 0 ∨ (zK h a).2 ≤ i.toNatClampNeg)
    · rw [if_pos hK] at e
      cases e
      refine ⟨rfl, fun X ok H locs cs n Q ls rel hl w => ?_⟩
      obtain ⟨-, hP⟩ := zRel_int rel hK.1
      exact va_iald ok.2.2.1 ok.2.2.2.1 ok.K hP 0 0 rfl rfl hK.2 hd w
    · rw [if_neg hK] at e; cases e
theorem s_lald {r : Option Nat} {i : Int32} {kk : Int64 → ZM α} (hd : decode M.cc pc = .ok (.laload, 1)) (hs : ∀ x, Sim M Qf (pc + 1) lv (.inr (.inl x) :: st) (kk x)) : Sim M Qf pc lv (.inl i :: .inr (.inr r) :: st) (z_b (z_aL r i) kk) := by
  refine Sim.read hs (fun h v h' e => ?_)
  unfold z_aL at e
  cases r with
  | none => cases e
  | some a =>
    dsimp only at e
    by_cases hK : (zK h a).1 = 2 ∧ ¬ (i < 0 ∨ (zK h a).2 ≤ i.toNatClampNeg)
    · rw [if_pos hK] at e
      cases e
      refine ⟨rfl, fun X ok H locs cs n Q ls rel hl w => ?_⟩
      obtain ⟨-, hP⟩ := zRel_long rel hK.1
      exact va_lald ok.2.2.1 ok.2.2.2.1 ok.K hP 0 1 rfl rfl hK.2 hd w
    · rw [if_neg hK] at e; cases e
theorem s_iast {r : Option Nat} {i : Int32} {x : Int32} {kk : Unit → ZM α} (hd : decode M.cc pc = .ok (.iastore, 1)) (hs : Sim M Qf (pc + 1) lv st (kk ())) : Sim M Qf pc lv (.inl x :: .inl i :: .inr (.inr r) :: st) (z_b (z_sI r i x) kk) := by
  refine Sim.write (st' := fun _ => st) (fun _ => hs) (fun h v h1 e => ?_)
  unfold z_sI at e
  cases r with
  | none => cases e
  | some a =>
    dsimp only at e
    by_cases hK : (zK h a).1 = 1 ∧ ¬ (i < 0 ∨ (zK h a).2 ≤ i.toNatClampNeg)
    · rw [if_pos hK] at e
      cases e
      refine ⟨rfl, rfl, fun X ok H locs cs n Q ls rel hl w => ?_⟩
      obtain ⟨hB, hP⟩ := zRel_int rel hK.1
      refine W.iast ok.2.2.1 ok.2.2.2.1 (hP 0 _ rfl) ((ok.K.2 0 _ rfl).1 (zK h a).2 (fun j => .int (zI h a j))) (fun q => by cases q) (by show ¬ (i < 0 ∨ (arrV _ _ _).slots.size ≤ _); rw [arrV_size]; exact hK.2) rfl rfl hd fun H' e1 e2 e3 => ?_
      refine w H' _ (zRel_put rel hB rfl e2 e3 rfl (fun b hb => ?_) (fun b hb => ?_) (fun b hb => ?_) rfl ?_) hB
      all_goals first | (funext j; simp [zsI, zI, zL, zR, zu, hb]; done) | skip
      unfold zC
      rw [show zK (zsI h a i.toNatClampNeg x) a = (1, (zK h a).2) by rw [← hK.1]; rfl]
      refine ⟨hB, ?_⟩
      rw [e1, vp_cell_i, vp_cell_i, arrV_store]
      congr 2
      funext q
      by_cases hq : q = i.toNatClampNeg
      · subst hq
        simp [updV, zsI, zI, zL, zu]
      · simp [updV, zsI, zI, zL, zu, hq]
    · rw [if_neg hK] at e; cases e
theorem s_last {r : Option Nat} {i : Int32} {x : Int64} {kk : Unit → ZM α} (hd : decode M.cc pc = .ok (.lastore, 1)) (hs : Sim M Qf (pc + 1) lv st (kk ())) : Sim M Qf pc lv (.inr (.inl x) :: .inl i :: .inr (.inr r) :: st) (z_b (z_sL r i x) kk) := by
  refine Sim.write (st' := fun _ => st) (fun _ => hs) (fun h v h1 e => ?_)
  unfold z_sL at e
  cases r with
  | none => cases e
  | some a =>
    dsimp only at e
    by_cases hK : (zK h a).1 = 2 ∧ ¬ (i < 0 ∨ (zK h a).2 ≤ i.toNatClampNeg)
    · rw [if_pos hK] at e
      cases e
      refine ⟨rfl, rfl, fun X ok H locs cs n Q ls rel hl w => ?_⟩
      obtain ⟨hB, hP⟩ := zRel_long rel hK.1
      refine W.last ok.2.2.1 ok.2.2.2.1 (hP 0 _ rfl) ((ok.K.2 1 _ rfl).1 (zK h a).2 (fun j => .long (zL h a j))) (fun q => by cases q) (by show ¬ (i < 0 ∨ (arrV _ _ _).slots.size ≤ _); rw [arrV_size]; exact hK.2) rfl rfl hd fun H' e1 e2 e3 => ?_
      refine w H' _ (zRel_put rel hB rfl e2 e3 rfl (fun b hb => ?_) (fun b hb => ?_) (fun b hb => ?_) rfl ?_) hB
      all_goals first | (funext j; simp [zsL, zI, zL, zR, zu, hb]; done) | skip
      unfold zC
      rw [show zK (zsL h a i.toNatClampNeg x) a = (2, (zK h a).2) by rw [← hK.1]; rfl]
      refine ⟨hB, ?_⟩
      rw [e1, vp_cell_l, vp_cell_l, arrV_store]
      congr 2
      funext q
      by_cases hq : q = i.toNatClampNeg
      · subst hq
        simp [updV, zsL, zI, zL, zu]
      · simp [updV, zsL, zI, zL, zu, hq]
    · rw [if_neg hK] at e; cases e
theorem s_alen {r : Option Nat} {kk : Int32 → ZM α} (hd : decode M.cc pc = .ok (.arraylength, 1)) (hs : ∀ x, Sim M Qf (pc + 1) lv (.inl x :: st) (kk x)) : Sim M Qf pc lv (.inr (.inr r) :: st) (z_b (z_aN r) kk) := by
  refine Sim.read hs (fun h v h' e => ?_)
  unfold z_aN at e
  cases r with
  | none => cases e
  | some a =>
    dsimp only at e
    by_cases hK : (zK h a).1 = 1 ∨ (zK h a).1 = 2 ∨ (zK h a).1 = 3 ∨ (zK h a).1 = 5
    · rw [if_pos hK] at e
      cases e
      refine ⟨rfl, fun X ok H locs cs n Q ls rel hl w => ?_⟩
      rcases hK with hK | hK | hK | hK
      · obtain ⟨-, hP⟩ := zRel_int rel hK
        exact va_alen ok.2.2.1 ok.2.2.2.1 ok.K hP 0 0 rfl rfl rfl hd w
      · obtain ⟨-, hP⟩ := zRel_long rel hK
        exact va_alen ok.2.2.1 ok.2.2.2.1 ok.K hP 0 1 rfl rfl rfl hd w
      · obtain ⟨-, hP⟩ := zRel_refs rel hK
        exact va_alen ok.2.2.1 ok.2.2.2.1 ok.K hP 0 2 rfl rfl rfl hd w
      · have h1 := rel.2.2.2.1 a
        unfold zC at h1
        have e5 : zK h a = (5, (zK h a).2) := by rw [← hK]
        rw [e5] at h1
        obtain ⟨ha, hn⟩ := h1
        have hn' : (zK h a).2 = 0 := hn
        obtain ⟨hb, scr, q1, q2, q4⟩ := ok.1.2.2.2.1
        rw [hn'] at w
        exact W.alen (n := Int32.ofNat 0) ok.2.2.1 ok.2.2.2.1 (by rw [ha, rel.2.2.1 _ hb]; exact q1) (State.isArrayOf_alike ok.2.1.alike q2) q4 rfl rfl hd w
    · rw [if_neg hK] at e; cases e
theorem s_new {c N : Nat} {C : String} {T : u_T} {ty : Nat → FieldType} {index : Nat} {kk : Option Nat → ZM α} (hc : zCls c C T N ty) (hz : ∀ k, k < N → match zFT c k with | 1 => ty k = .long | 2 => (ty k).isReference = true | _ => ty k = .int ∨ ty k = .boolean) (hd : decode M.cc pc = .ok (.new index, 3)) (hw : Cond.classLink M.own index C ∈ lw_tbl) (hi : Cond.instantiable C N ∈ lw_tbl) (hini : Cond.initialized C ∈ lw_tbl) (hs : ∀ x, Sim M Qf (pc + 3) lv (.inr (.inr x) :: st) (kk x)) : Sim M Qf pc lv st (z_b (z_nO c N) kk) := by
  refine Sim.make hs (fun h v h1 e => ?_)
  unfold z_nO at e
  cases e
  refine ⟨N, rfl, rfl, fun X ok H locs cs n Q ls rel hl hcs hns w => ?_⟩
  have hKn := ok.K.1 c _ hc.1
  have eH : H.size = zT h := rel.1
  refine W.newcK ok.2.2.1 ok.2.2.2.1 ok.2.2.2.2.2.2.1 (ok.ws hw rfl) (ok.ws hi rfl) (ok.ws hini rfl) rfl hd hcs hns hKn.2.1 eH fun H1 kC hkC e1 z1 o1 => ?_
  refine w H1 (zRel_new rel _ N (by omega) (fun q hq => o1 q (by omega)) ?_)
  unfold zC
  rw [show zK (znew h (c + 6, 0) N) (zT h) = (c + 6, 0) by show zw _ _ _ _ = _; simp [zw]]
  refine ⟨rel.2.1, _, hc.1, t_OB.to (u_born ty (zcls_ws hc ok.1 ok.2.1 X.a) (fun w h => h) hKn hkC e1 hc.2.2.1) (fun k hk => ?_)⟩
  unfold vp_V
  rw [List.getD_eq_getElem?_getD, zfs_get (by rw [zNF_of hc]; exact hk)]
  have hzk := hz k hk
  unfold zV
  split at hzk
  · rename_i q; rw [q, hzk]; simp [zL, znew, zw]; rfl
  · rename_i q; rw [q]; simp [zR, znew, zw]; exact zdef_ref hzk
  · rename_i q1 q2
    split
    · rename_i q; exact absurd q q1
    · rename_i q; exact absurd q q2
    · simp [zI, znew, zw]
      rcases hzk with q | q <;> rw [q] <;> rfl
theorem s_newaI {i : Int32} {kk : Option Nat → ZM α} (hd : decode M.cc pc = .ok (.newarray .int, 2)) (hw : Cond.arrayClass .int ∈ lw_tbl) (hs : ∀ x, Sim M Qf (pc + 2) lv (.inr (.inr x) :: st) (kk x)) : Sim M Qf pc lv (.inl i :: st) (z_b (z_nA 1 i) kk) := by
  refine Sim.make hs (fun h v h1 e => ?_)
  unfold z_nA at e
  by_cases hK : ¬ i < 0 ∧ i.toNatClampNeg * 8 ≤ 536870912
  · rw [if_pos hK] at e
    cases e
    refine ⟨i.toNatClampNeg, rfl, rfl, fun X ok H locs cs n Q ls rel hl hcs hns w => ?_⟩
    have eH : H.size = zT h := rel.1
    refine va_newaK (atype := .int) ok.2.2.1 ok.2.2.2.1 (ok.ws hw rfl) rfl hd rfl hK.1 rfl (by show i.toNatClampNeg * 4 ≤ _; omega) hcs hns eH fun H1 cA e1 z1 o1 hAr hNm => ?_
    have hcA : cA = X.G.cI := by
      have h9 : X.s.vm.findClass ("[" ++ (FieldType.int).toString) = some X.G.cI := (ok.K.2 0 _ rfl).2
      exact Option.some.inj (hNm.symm.trans h9)
    subst hcA
    refine w H1 (zRel_new rel _ _ (by omega) (fun q hq => o1 q (by omega)) ?_)
    unfold zC
    rw [show zK (znew h (1, i.toNatClampNeg) i.toNatClampNeg) (zT h) = (1, i.toNatClampNeg) by show zw _ _ _ _ = _; simp [zw]]
    refine ⟨rel.2.1, ?_⟩
    rw [e1, vp_cell_i]
    congr 2
    funext j
    simp [zI, znew, zw]
    rfl
  · rw [if_neg hK] at e; cases e
theorem s_newaL {i : Int32} {kk : Option Nat → ZM α} (hd : decode M.cc pc = .ok (.newarray .long, 2)) (hw : Cond.arrayClass .long ∈ lw_tbl) (hs : ∀ x, Sim M Qf (pc + 2) lv (.inr (.inr x) :: st) (kk x)) : Sim M Qf pc lv (.inl i :: st) (z_b (z_nA 2 i) kk) := by
  refine Sim.make hs (fun h v h1 e => ?_)
  unfold z_nA at e
  by_cases hK : ¬ i < 0 ∧ i.toNatClampNeg * 8 ≤ 536870912
  · rw [if_pos hK] at e
    cases e
    refine ⟨i.toNatClampNeg, rfl, rfl, fun X ok H locs cs n Q ls rel hl hcs hns w => ?_⟩
    have eH : H.size = zT h := rel.1
    refine va_newaK (atype := .long) ok.2.2.1 ok.2.2.2.1 (ok.ws hw rfl) rfl hd rfl hK.1 rfl (by show i.toNatClampNeg * 8 ≤ _; omega) hcs hns eH fun H1 cA e1 z1 o1 hAr hNm => ?_
    have hcA : cA = X.G.cJ := by
      have h9 : X.s.vm.findClass ("[" ++ (FieldType.long).toString) = some X.G.cJ := (ok.K.2 1 _ rfl).2
      exact Option.some.inj (hNm.symm.trans h9)
    subst hcA
    refine w H1 (zRel_new rel _ _ (by omega) (fun q hq => o1 q (by omega)) ?_)
    unfold zC
    rw [show zK (znew h (2, i.toNatClampNeg) i.toNatClampNeg) (zT h) = (2, i.toNatClampNeg) by show zw _ _ _ _ = _; simp [zw]]
    refine ⟨rel.2.1, ?_⟩
    rw [e1, vp_cell_l]
    congr 2
    funext j
    simp [zL, znew, zw]
    rfl
  · rw [if_neg hK] at e; cases e
theorem s_getIU {c k N : Nat} {C ref : String} {T : u_T} {ty : Nat → FieldType} {index : Nat} {r : Option Nat} {kk : Int32 → ZM α} (hc : zCls c C T N ty) (hk : k < N) (hf : zFT c k = 0) (hd : decode M.cc pc = .ok (.getfield index, 3)) (hw : Cond.fieldLink M.own index ref (T k).2.1 (T k).2.2.1 ∈ lw_tbl) (hu : Cond.sameField ref (T k).1 (T k).2.1 (T k).2.2.1 ∈ lw_tbl) (hs : ∀ x, Sim M Qf (pc + 3) lv (.inl x :: st) (kk x)) : Sim M Qf pc lv (.inr (.inr r) :: st) (z_b (z_gI c k r) kk) := by
  refine Sim.read hs (fun h v h' e => ?_)
  unfold z_gI at e
  cases r with
  | none => cases e
  | some a =>
    dsimp only at e
    by_cases hK : zK h a = (c + 6, 0)
    · rw [if_pos hK] at e
      cases e
      refine ⟨rfl, fun X ok H locs cs n Q ls rel hl w => ?_⟩
      obtain ⟨-, hP⟩ := zRel_obj rel hK
      exact va_get ok.2.2.1 ok.2.2.2.1 (zcls_ws hc ok.1 ok.2.1 X.a) (fun w h => h) ok.2.2.2.2.2.2.1 ok.K hP 0 rfl hc.1 k hk (ok.ws hw rfl) (fun x q => u_same (ok.ws hu rfl) x q) (v := .int (zI h a k)) (by rw [zfs_get (by rw [zNF_of hc]; exact hk)]; simp [zV, hf]) hd w
    · rw [if_neg hK] at e; cases e
theorem s_putIU {c k N : Nat} {C ref : String} {T : u_T} {ty : Nat → FieldType} {index : Nat} {r : Option Nat} {x : Int32} {kk : Unit → ZM α} (hc : zCls c C T N ty) (hk : k < N) (hf : zFT c k = 0) (hty : ty k = .int) (hfin : (T k).2.2.2 = false) (hd : decode M.cc pc = .ok (.putfield index, 3)) (hw : Cond.fieldLink M.own index ref (T k).2.1 (T k).2.2.1 ∈ lw_tbl) (hu : Cond.sameField ref (T k).1 (T k).2.1 (T k).2.2.1 ∈ lw_tbl) (hs : Sim M Qf (pc + 3) lv st (kk ())) : Sim M Qf pc lv (.inl x :: .inr (.inr r) :: st) (z_b (z_pI c k r x) kk) := by
  refine Sim.write (st' := fun _ => st) (fun _ => hs) (fun h v h1 e => ?_)
  unfold z_pI at e
  cases r with
  | none => cases e
  | some a =>
    dsimp only at e
    by_cases hK : zK h a = (c + 6, 0)
    · rw [if_pos hK] at e
      cases e
      refine ⟨rfl, rfl, fun X ok H locs cs n Q ls rel hl w => ?_⟩
      obtain ⟨hB, hP⟩ := zRel_obj rel hK
      have hap := va_apart (own := M.own) (zcls_ws hc ok.1 ok.2.1 X.a) (fun w h => h) ty hc.2.2.1 hc.2.2.2 ok.K hc.1
      obtain ⟨rr, h1', cell, q1, q2, q3, q4⟩ := hP 0 _ rfl
      have hrr : rr = (C, T, N) := Option.some.inj (h1'.symm.trans hc.1)
      subst hrr
      obtain ⟨hS, hfc, kC, hkC, hkind⟩ := ok.K.1 c _ hc.1
      obtain ⟨cf, kf, fi, f, hi, hsl⟩ := hS k hk
      have hlay := zcls_ws hc ok.1 ok.2.1 X.a _ (u_in_lay hk)
      unfold u_lay at hlay
      rw [if_neg (by rw [hfin]; decide)] at hlay
      have hst := (u_facts hfc hkC (u_lays (zcls_ws hc ok.1 ok.2.1 X.a) (fun w h => h) hk) hi).1
      have h6 := u_store hfc hkC hkind hlay hi (hc.2.2.1 k hk) (v := .int x) (by rw [hty]; rfl) (by rw [hty]; rfl)
      refine W.putK ok.2.2.1 ok.2.2.2.1 (f := f) ⟨ok.2.2.2.2.2.2.1, (ok.ws hw rfl), ⟨_, _, _, u_same (ok.ws hu rfl) _ hi⟩, hst⟩ (by rw [q2]; exact h6) q1 q3 (by rw [hsl]; exact k2_hasslot (q4 k hk)) rfl rfl hd fun H' e1 e2 e3 => ?_
      rw [hsl] at e1
      refine w H' _ (zRel_put rel hB rfl e2 e3 rfl (fun b hb => ?_) (fun b hb => ?_) (fun b hb => ?_) rfl ?_) hB
      all_goals first | (funext j; simp [zsI, zI, zL, zR, zu, hb]; done) | skip
      unfold zC
      rw [show zK (zsI h a k x) a = (c + 6, 0) from hK]
      refine ⟨hB, _, hc.1, t_OB.to ⟨_, e1, q2, q3, t_set q4 hap hk _⟩ (fun j hj => ?_)⟩
      have hN := zNF_of hc
      have z1 : ∀ hh : ZH, vp_V (zfs hh c a) j = zV hh c a j := fun hh => by unfold vp_V; rw [List.getD_eq_getElem?_getD, zfs_get (by rw [hN]; exact hj)]; rfl
      rw [z1]
      unfold updV
      by_cases hjk : j = k
      · subst hjk
        rw [if_pos rfl]
        simp [zV, hf, zsI, zI, zL, zR, zu, zval]
      · rw [if_neg hjk, z1]
        unfold zV
        split <;> simp [zsI, zI, zL, zR, zu, hjk]
    · rw [if_neg hK] at e; cases e
end ZHeap
