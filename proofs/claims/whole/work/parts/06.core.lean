/-! ===== the heap as functions: top, slots made, kinds, whole numbers, long numbers, references ===== -/
abbrev ZH : Type := Nat × Nat × (Nat → Nat × Nat) × (Nat → Nat → Int32) × (Nat → Nat → Int64) × (Nat → Nat → Option Nat) × (Nat × Nat × Nat × Nat × (Nat → Int32))
def zT (h : ZH) : Nat := h.1
def zN (h : ZH) : Nat := h.2.1
def zK (h : ZH) : Nat → Nat × Nat := h.2.2.1
def zI (h : ZH) : Nat → Nat → Int32 := h.2.2.2.1
def zL (h : ZH) : Nat → Nat → Int64 := h.2.2.2.2.1
def zR (h : ZH) : Nat → Nat → Option Nat := h.2.2.2.2.2.1
/-- the launch's empty array of lists, the mirror of Object[]; the script's cell, its length, its ints -/
def zD (h : ZH) : Nat × Nat × Nat × Nat × (Nat → Int32) := h.2.2.2.2.2.2
def zu {α : Type} (f : Nat → Nat → α) (a k : Nat) (v : α) : Nat → Nat → α := fun b j => if b = a ∧ j = k then v else f b j
def zw {α : Type} (f : Nat → α) (a : Nat) (v : α) : Nat → α := fun b => if b = a then v else f b
def zsI (h : ZH) (a k : Nat) (v : Int32) : ZH := (zT h, zN h, zK h, zu (zI h) a k v, zL h, zR h, zD h)
def zsL (h : ZH) (a k : Nat) (v : Int64) : ZH := (zT h, zN h, zK h, zI h, zu (zL h) a k v, zR h, zD h)
def zsR (h : ZH) (a k : Nat) (v : Option Nat) : ZH := (zT h, zN h, zK h, zI h, zL h, zu (zR h) a k v, zD h)
/-- all of a cell's whole numbers at once -/
def zwI (h : ZH) (a : Nat) (f : Nat → Int32) : ZH := (zT h, zN h, zK h, zw (zI h) a f, zL h, zR h, zD h)
/-- a new cell of a kind, of n slots -/
def znew (h : ZH) (kd : Nat × Nat) (n : Nat) : ZH := (zT h + 1, zN h + n, zw (zK h) (zT h) kd, zw (zI h) (zT h) (fun _ => 0), zw (zL h) (zT h) (fun _ => 0), zw (zR h) (zT h) (fun _ => none), zD h)
abbrev ZM (α : Type) : Type := ZH → Option (α × ZH)
def z_rt {α : Type} (v : α) : ZM α := fun h => some (v, h)
def z_fl {α : Type} : ZM α := fun _ => none
def z_b {α β : Type} (m : ZM α) (k : α → ZM β) : ZM β := fun h => match m h with
  | none => none
  | some q => k q.1 q.2
def z_n {α β : Type} (v : α) (k : α → β) : β := k v
/-! what fields there are: a class's number, a field's number: 0 a whole number, 1 a long one, 2 a reference, 3 a truth value -/
def z_gI (c k : Nat) (r : Option Nat) : ZM Int32 := fun h => match r with
  | none => none
  | some a => if zK h a = (c + 6, 0) then some (zI h a k, h) else none
def z_gL (c k : Nat) (r : Option Nat) : ZM Int64 := fun h => match r with
  | none => none
  | some a => if zK h a = (c + 6, 0) then some (zL h a k, h) else none
def z_gR (c k : Nat) (r : Option Nat) : ZM (Option Nat) := fun h => match r with
  | none => none
  | some a => if zK h a = (c + 6, 0) then some (zR h a k, h) else none
def z_pI (c k : Nat) (r : Option Nat) (v : Int32) : ZM Unit := fun h => match r with
  | none => none
  | some a => if zK h a = (c + 6, 0) then some ((), zsI h a k v) else none
def z_pZ (c k : Nat) (r : Option Nat) (v : Int32) : ZM Unit := fun h => match r with
  | none => none
  | some a => if zK h a = (c + 6, 0) ∧ (v = 0 ∨ v = 1) then some ((), zsI h a k v) else none
def z_pL (c k : Nat) (r : Option Nat) (v : Int64) : ZM Unit := fun h => match r with
  | none => none
  | some a => if zK h a = (c + 6, 0) then some ((), zsL h a k v) else none
def z_pR (c k : Nat) (r : Option Nat) (v : Option Nat) : ZM Unit := fun h => match r with
  | none => none
  | some a => if zK h a = (c + 6, 0) then some ((), zsR h a k v) else none
/-- arrays: kind 1 of ints, 2 of longs, 3 of references -/
def z_aI (r : Option Nat) (i : Int32) : ZM Int32 := fun h => match r with
  | none => none
  | some a => if (zK h a).1 = 1 ∧ ¬ (i < 0 ∨ (zK h a).2 ≤ i.toNatClampNeg) then some (zI h a i.toNatClampNeg, h) else none
def z_aL (r : Option Nat) (i : Int32) : ZM Int64 := fun h => match r with
  | none => none
  | some a => if (zK h a).1 = 2 ∧ ¬ (i < 0 ∨ (zK h a).2 ≤ i.toNatClampNeg) then some (zL h a i.toNatClampNeg, h) else none
def z_sI (r : Option Nat) (i v : Int32) : ZM Unit := fun h => match r with
  | none => none
  | some a => if (zK h a).1 = 1 ∧ ¬ (i < 0 ∨ (zK h a).2 ≤ i.toNatClampNeg) then some ((), zsI h a i.toNatClampNeg v) else none
def z_sL (r : Option Nat) (i : Int32) (v : Int64) : ZM Unit := fun h => match r with
  | none => none
  | some a => if (zK h a).1 = 2 ∧ ¬ (i < 0 ∨ (zK h a).2 ≤ i.toNatClampNeg) then some ((), zsL h a i.toNatClampNeg v) else none
def z_aN (r : Option Nat) : ZM Int32 := fun h => match r with
  | none => none
  | some a => if (zK h a).1 = 1 ∨ (zK h a).1 = 2 ∨ (zK h a).1 = 3 ∨ (zK h a).1 = 5 then some (Int32.ofNat (zK h a).2, h) else none
/-- a new object of a class, a new array -/
def z_nO (c n : Nat) : ZM (Option Nat) := fun h => some (some (zT h), znew h (c + 6, 0) n)
def z_nA (kd : Nat) (n : Int32) : ZM (Option Nat) := fun h => if ¬ n < 0 ∧ n.toNatClampNeg * 8 ≤ 536870912 then some (some (zT h), znew h (kd, n.toNatClampNeg) n.toNatClampNeg) else none
/-- a call of an object of this class -/
def z_vr {α : Type} (c : Nat) (r : Option Nat) (f : ZM α) : ZM α := fun h => match r with
  | none => none
  | some a => if zK h a = (c + 6, 0) then f h else none
theorem z_b_some {α β : Type} {m : ZM α} {k : α → ZM β} {h : ZH} {v : α} {h' : ZH} (e : m h = some (v, h')) : z_b m k h = k v h' := by
  unfold z_b; rw [e]
theorem z_b_inv {α β : Type} {m : ZM α} {k : α → ZM β} {h : ZH} {q : β × ZH} (e : z_b m k h = some q) : ∃ (v : α) (h' : ZH), m h = some (v, h') ∧ k v h' = some q := by
  unfold z_b at e
  cases hm : m h with
  | none => rw [hm] at e; cases e
  | some x => rw [hm] at e; exact ⟨x.1, x.2, rfl, e⟩
def z_df : ZM (Option Nat) := fun h => some (some (zD h).1, h)
def z_mi : ZM (Option Nat) := fun h => some (some (zD h).2.1, h)
/-- the class of an array of references -/
def z_gc (r : Option Nat) : ZM (Option Nat) := fun h => match r with
  | none => none
  | some a => if (zK h a).1 = 3 then some (some (zD h).2.1, h) else none
def z_aR (r : Option Nat) (i : Int32) : ZM (Option Nat) := fun h => match r with
  | none => none
  | some a => if (zK h a).1 = 3 ∧ ¬ (i < 0 ∨ (zK h a).2 ≤ i.toNatClampNeg) then some (zR h a i.toNatClampNeg, h) else none
def zwR (h : ZH) (a : Nat) (f : Nat → Option Nat) : ZH := (zT h, zN h, zK h, zI h, zL h, zw (zR h) a f, zD h)
/-- the script's length, its ints -/
def z_sN (r : Option Nat) : ZM Int32 := fun h => if r = some (zD h).2.2.1 then some (Int32.ofNat (zD h).2.2.2.1, h) else none
def z_sA (r : Option Nat) (i : Int32) : ZM Int32 := fun h => if r = some (zD h).2.2.1 ∧ ¬ (i < 0 ∨ (zD h).2.2.2.1 ≤ i.toNatClampNeg) then some ((zD h).2.2.2.2 i.toNatClampNeg, h) else none
/-- the class's texts: their entries -/
def zstrs : List (Nat × String) := [(90, "a letter is one of a to h"), (101, "10 letters are drafted"), (120, "flags, kind, form or is is out of range"), (125, "nothing is drafted, or there are 12 stems"), (142, "flag, strip, with, kind or form is out of range"), (147, "the draft is no addition, or there are 8 rules"), (164, "there is no such rule"), (167, "flags is out of range"), (173, "the rule is not for endings"), (178, "these are not two letters of a to h"), (183, "kind or form is out of range"), (188, "nothing is drafted, or there are 10 other own words"), (203, "nothing is drafted, or 10 other words are barred"), (214, "there is no such word"), (228, "the word is right, has more than 10 letters, or is barred"), (239, "first, second or what is out of range"), (245, "kind is out of range"), (250, "the style has 3 items, or nothing is drafted"), (260, "the style has no items, nothing is drafted, or there are 8 styles"), (262, "there is no such item"), (272, "there is no such place"), (278, "this is no sign of a text"), (280, "the text has 100 signs"), (334, "there are not so many mistakes"), (359, "there is no such word or suggestion"), (364, "there is no such word, suggestion or place")]
/-! ===== the launch, seen once: its state at the law's start, the law's arguments; where the classes' fields lie; the array classes; the empty array of lists ===== -/
abbrev ZG : Type := State × Array Value × va_G × (ClassId × ClassId × ClassId) × Nat × Nat × (Nat × Nat × (Nat → Int32))
abbrev ZG.s0 (G : ZG) : State := G.1
abbrev ZG.a0 (G : ZG) : Array Value := G.2.1
abbrev ZG.D (G : ZG) : va_G := G.2.2.1
abbrev ZG.cI (G : ZG) : ClassId := G.2.2.2.1.1
abbrev ZG.cJ (G : ZG) : ClassId := G.2.2.2.1.2.1
abbrev ZG.cO (G : ZG) : ClassId := G.2.2.2.1.2.2
abbrev ZG.df (G : ZG) : Nat := G.2.2.2.2.1
abbrev ZG.mi (G : ZG) : Nat := G.2.2.2.2.2.1
abbrev ZG.sb (G : ZG) : Nat := G.2.2.2.2.2.2.1
abbrev ZG.sL (G : ZG) : Nat := G.2.2.2.2.2.2.2.1
abbrev ZG.sx (G : ZG) : Nat → Int32 := G.2.2.2.2.2.2.2.2
abbrev ZG.B (G : ZG) : Nat := G.1.heap.size
abbrev ZG.tys (G : ZG) : List (ClassId × FieldType) := [(G.cI, .int), (G.cJ, .long), (G.cO, .object "java/lang/Object")]
/-- the exceptions that the class throws, by number -/
def zEx : Nat → String
  | 0 => "java/lang/IllegalArgumentException"
  | 1 => "java/lang/IllegalStateException"
  | _ => "java/lang/IndexOutOfBoundsException"
/-- what is given of the launch -/
def ZGok (G : ZG) : Prop := (∀ w ∈ lw_tbl, w.before G.a0 G.s0 = true) ∧ va_K G.D vwCl G.tys G.s0 ∧
  va_Z "java/util/ArrayList" "DEFAULTCAPACITY_EMPTY_ELEMENTDATA" "[Ljava/lang/Object;" (.ref G.df) (fun q => G.B ≤ q) G.s0 G.s0.heap ∧
  (G.df < G.B ∧ ∃ cell : Cell, G.s0.heap[G.df]? = some cell ∧ G.s0.isArrayOf cell (.object "java/lang/Object") ∧ cell.slots.size.toInt32 = Int32.ofNat 0) ∧
  vx_Zq Bundle.tN "UNASSIGNED_STACK" Bundle.steD (fun q => G.B ≤ q) G.s0 G.s0.heap ∧ vx_Zq Bundle.tN "SUPPRESSED_SENTINEL" Bundle.listD (fun q => G.B ≤ q) G.s0 G.s0.heap ∧
  va_Mi "[Ljava/lang/Object;" G.mi G.s0 ∧ (∀ q ∈ zstrs, ∃ a, vk_R "SpellScribe" q.1 q.2 a G.s0) ∧ (∀ i j, i < 3 → j < 3 → i ≠ j → va_Nc (zEx i) (zEx j) G.s0) ∧ va_X G.sb G.sL G.sx G.s0 G.s0.heap ∧ G.sb < G.B
/-! fields: their number in a class, their kinds -/
def zNF (c : Nat) : Nat := ((vwCl[c]?).map (fun q => q.2.2)).getD 0
def zFT (c k : Nat) : Nat := ((zfts[c]?).bind (fun l => l[k]?)).getD 0
def zV (h : ZH) (c a k : Nat) : Value := match zFT c k with
  | 1 => .long (zL h a k)
  | 2 => va_rf (zR h a k)
  | _ => .int (zI h a k)
def zfs (h : ZH) (c a : Nat) : List Value := (List.range (zNF c)).map (zV h c a)
def zC (G : ZG) (h : ZH) (a : Nat) (H : Heap) : Prop := match zK h a with
  | (0, _) => True
  | (1, n) => G.B ≤ a ∧ H[a]? = some (vp_cell G.cI (n, .inl (zI h a)))
  | (2, n) => G.B ≤ a ∧ H[a]? = some (vp_cell G.cJ (n, .inr (.inl (zL h a))))
  | (3, n) => G.B ≤ a ∧ H[a]? = some (vp_cell G.cO (n, .inr (.inr (.inr (.inr (zR h a))))))
  | (4, _) => True
  | (5, n) => a = G.df ∧ n = 0
  | (c + 6, _) => G.B ≤ a ∧ va_at G.D vwCl (a, .inr (c, zfs h c a)) H
/-- the heap of the machine is the heap of functions -/
def zRel (G : ZG) (h : ZH) (H : Heap) : Prop := H.size = zT h ∧ G.B ≤ zT h ∧ (∀ q, q < G.B → H[q]? = G.s0.heap[q]?) ∧ (∀ a, zC G h a H) ∧ zD h = (G.df, G.mi, G.sb, G.sL, G.sx)
/-! a method's frame: where its invocation stands -/
abbrev ZX : Type := ZG × Nat × Nat × Nat × Program × Launch × Env × Room × State × MethodId × Array Value × List Frame × Method × Code
abbrev ZX.G (X : ZX) : ZG := X.1
abbrev ZX.t0 (X : ZX) : Nat := X.2.1
abbrev ZX.n0 (X : ZX) : Nat := X.2.2.1
abbrev ZX.nL (X : ZX) : Nat := X.2.2.2.1
abbrev ZX.p (X : ZX) : Program := X.2.2.2.2.1
abbrev ZX.l (X : ZX) : Launch := X.2.2.2.2.2.1
abbrev ZX.e (X : ZX) : Env := X.2.2.2.2.2.2.1
abbrev ZX.R (X : ZX) : Room := X.2.2.2.2.2.2.2.1
abbrev ZX.s (X : ZX) : State := X.2.2.2.2.2.2.2.2.1
abbrev ZX.m (X : ZX) : MethodId := X.2.2.2.2.2.2.2.2.2.1
abbrev ZX.a (X : ZX) : Array Value := X.2.2.2.2.2.2.2.2.2.2.1
abbrev ZX.below (X : ZX) : List Frame := X.2.2.2.2.2.2.2.2.2.2.2.1
abbrev ZX.meth (X : ZX) : Method := X.2.2.2.2.2.2.2.2.2.2.2.2.1
abbrev ZX.c (X : ZX) : Code := X.2.2.2.2.2.2.2.2.2.2.2.2.2
/-- a method: the launch, its class, its code, its locals, its room in frames and in words, its answer's type, its name -/
abbrev ZMe : Type := Launch × String × ByteArray × Nat × Nat × Nat × Option FieldType × String × List ExceptionTableEntry
abbrev ZMe.l (M : ZMe) : Launch := M.1
abbrev ZMe.own (M : ZMe) : String := M.2.1
abbrev ZMe.cc (M : ZMe) : ByteArray := M.2.2.1
abbrev ZMe.nL (M : ZMe) : Nat := M.2.2.2.1
abbrev ZMe.F (M : ZMe) : Nat := M.2.2.2.2.1
abbrev ZMe.Lc (M : ZMe) : Nat := M.2.2.2.2.2.1
abbrev ZMe.rt (M : ZMe) : Option FieldType := M.2.2.2.2.2.2.1
abbrev ZMe.nme (M : ZMe) : String := M.2.2.2.2.2.2.2.1
abbrev ZMe.tb (M : ZMe) : List ExceptionTableEntry := M.2.2.2.2.2.2.2.2
/-- what holds in a frame -/
def zOk (X : ZX) (M : ZMe) : Prop :=
  ZGok X.G ∧ X.G.s0.WarmedH X.s.vm ∧ X.p.tables.exec = Jvm.exec ∧ X.c.code = M.cc ∧ X.c.maxLocals = M.nL ∧ X.nL = M.nL ∧ X.s.vm.findClass M.own = some X.m.cls ∧ X.meth.locks = false ∧ X.meth.sig.returnType = M.rt ∧ X.R.frames = M.F ∧ X.R.locals = M.Lc ∧ X.l = M.l ∧ X.meth.name = M.nme ∧ X.c.exceptionTable.toList = M.tb ∧
  X.s.heap.size = X.t0 ∧ X.G.B ≤ X.t0 ∧ ∀ q, q < X.G.B → X.s.heap[q]? = X.G.s0.heap[q]?
abbrev zW (X : ZX) (H : Heap) (locs : List Loc) (c n : Nat) (Q : State → Prop) (g : JFrame) : Prop := W X.p X.l X.e X.R X.s X.m X.a X.below X.meth X.c H locs c n Q g
/-! typed values: a whole number, a long one, a reference -/
abbrev ZV : Type := Int32 ⊕ Int64 ⊕ Option Nat
def zval : ZV → Value
  | .inl x => .int x
  | .inr (.inl x) => .long x
  | .inr (.inr r) => va_rf r
def zcat : ZV → Nat
  | .inl _ => 1
  | .inr (.inl _) => 2
  | .inr (.inr _) => 1
def zlv (lv : List (Nat × ZV)) : List (Nat × Value) := lv.map (fun q => (q.1, zval q.2))
/-- from this point on the method does what k says -/
def Sim {α : Type} (M : ZMe) (Qf : ZX → α → ZH → State → Prop) (pc : Nat) (lv : List (Nat × ZV)) (st : List ZV) (k : ZM α) : Prop :=
  ∀ (h : ZH) (v : α) (h' : ZH), k h = some (v, h') → (zT h ≤ zT h' ∧ zN h ≤ zN h') ∧
    ∀ X : ZX, zOk X M → X.t0 ≤ zT h → X.n0 ≤ zN h → zT h' - X.t0 ≤ X.R.cells → zN h' - X.n0 ≤ X.R.slots →
      ∀ (H : Heap) (locs : List Loc) (ls : Array Slot), zRel X.G h H → (∀ q ∈ locs, X.G.B ≤ q.base) → lv_has ls X.nL (zlv lv) →
        zW X H locs (zT h - X.t0) (zN h - X.n0) (Qf X v h') (F0 X.m pc ls (st.map zval))
/-- the end of a method that returns -/
def zFin {α : Type} (cv : α → Option Value) : ZX → α → ZH → State → Prop := fun X v h' =>
  MQ X.below (fun _ _ o t => o = .returned (cv v) ∧ zRel X.G h' t.heap) X.a X.s (zT h' - X.t0) (zN h' - X.n0) (fun q => X.G.B ≤ q)
/-- a method's contract: it does what f says -/
def zMet {α : Type} (l : Launch) (y : MethodName) (cc : ByteArray) (nL : Nat) (rt : Option FieldType) (F Lc : Nat) (av : List ZV) (cv : α → Option Value) (f : ZM α) : Prop :=
  ∀ (h : ZH) (v : α) (h' : ZH), f h = some (v, h') → (zT h ≤ zT h' ∧ zN h ≤ zN h') ∧ ∀ (G : ZG), ZGok G →
    Met l y [.code y cc nL rt] { frames := F, cells := zT h' - zT h, slots := zN h' - zN h, locals := Lc }
      (va_Pc (av.map zval) (fun U => zRel G h U.heap ∧ G.s0.WarmedH U.vm)) (fun _ _ o t => o = .returned (cv v) ∧ zRel G h' t.heap) (zT h' - zT h) (zN h' - zN h) (fun q => G.B ≤ q)
/-- a class of the table -/
def zCls (c : Nat) (C : String) (T : u_T) (N : Nat) (ty : Nat → FieldType) : Prop :=
  vwCl[c]? = some (C, T, N) ∧ (∀ w ∈ u_ws C T N, w ∈ lw_tbl ∧ goodWord w = true) ∧ (∀ k, k < N → parseFieldDescriptor (T k).2.2.1 = some (ty k)) ∧ (∀ a, a < N → ∀ b, b < N → a ≠ b → (T a).2.1 ≠ (T b).2.1)
/-- a method of the table: its code is there, its class is ready, how many arguments it takes -/
def zMth (y : MethodName) (cc : ByteArray) (nL : Nat) (rt : Option FieldType) (n : Nat) : Prop :=
  Cond.code y cc nL rt ∈ lw_tbl ∧ Cond.initialized y.cls ∈ lw_tbl ∧ y.cls ≠ "java/lang/invoke/MethodHandle" ∧ y.cls ≠ "java/lang/invoke/VarHandle" ∧ (parseMethodDescriptor y.desc).map (fun d => d.parameters.length) = some n
theorem zw_of {G : ZG} (hG : ZGok G) {w : Cond} (hw : w ∈ lw_tbl) (hg : goodWord w = true) {s : State} (hs : G.s0.WarmedH s.vm) (args : Array Value) : w.before args s = true :=
  word_at hs (good_of_word hg) (hG.1 w hw)
/-- words that a warmer machine keeps: the good ones, casts and declarations -/
def zgw (w : Cond) : Bool := goodWord w || (match w with | .castable .. => true | .declares _ => true | _ => false)
theorem zw_of2 {G : ZG} (hG : ZGok G) {w : Cond} (hw : w ∈ lw_tbl) (hg : zgw w = true) {s : State} (hs : G.s0.WarmedH s.vm) (args : Array Value) : w.before args s = true := by
  unfold zgw at hg
  rcases (Bool.or_eq_true _ _).mp hg with q | q
  · exact zw_of hG hw q hs args
  · have h0 := hG.1 w hw
    have tr : ∀ {c : Cond}, c.onTables = true → c.before G.a0 (G.s0.setVm s.vm) = true → c.before args s = true := by
      intro c hc h
      have e := Cond.onTables_vm (A := G.a0) (A' := args) (U := G.s0) (U' := s) s.vm c hc
      have hU : s.setVm s.vm = s := rfl
      rw [hU] at e
      rw [← e]
      exact h
    split at q
    · exact tr rfl (by rw [Cond.castable_setVm hs.alike]; exact h0)
    · exact tr rfl (by rw [Cond.declares_setVm hs.alike]; exact h0)
    · cases q
theorem zK_of {G : ZG} (hG : ZGok G) {s : State} (hs : G.s0.WarmedH s.vm) : va_K G.D vwCl G.tys s := va_K.moved hs.alike hG.2.1
theorem zcls_ws {c : Nat} {C : String} {T : u_T} {N : Nat} {ty : Nat → FieldType} (hc : zCls c C T N ty) {G : ZG} (hG : ZGok G) {s : State} (hs : G.s0.WarmedH s.vm) (args : Array Value) : ∀ w ∈ u_ws C T N, w.before args s = true :=
  fun w hw => zw_of hG (hc.2.1 w hw).1 (hc.2.1 w hw).2 hs args
theorem zNF_of {c : Nat} {C : String} {T : u_T} {N : Nat} {ty : Nat → FieldType} (hc : zCls c C T N ty) : zNF c = N := by
  unfold zNF; rw [hc.1]; rfl
theorem zfs_len (h : ZH) (c a : Nat) : (zfs h c a).length = zNF c := by simp [zfs]
theorem zfs_get {h : ZH} {c a k : Nat} (hk : k < zNF c) : (zfs h c a)[k]? = some (zV h c a k) := by
  simp [zfs, hk]
/-- an object's picture out of the relation -/
theorem zRel_obj {G : ZG} {h : ZH} {H : Heap} (r : zRel G h H) {c a : Nat} (hk : zK h a = (c + 6, 0)) : G.B ≤ a ∧ va_P G.D vwCl [(a, .inr (c, zfs h c a))] H := by
  have h1 := r.2.2.2.1 a
  unfold zC at h1
  rw [hk] at h1
  refine ⟨h1.1, fun k q hq => ?_⟩
  cases k with
  | zero => cases hq; exact h1.2
  | succ k => simp at hq
theorem zRel_int {G : ZG} {h : ZH} {H : Heap} (r : zRel G h H) {a : Nat} (hk : (zK h a).1 = 1) : G.B ≤ a ∧ va_P G.D vwCl [(a, .inl (G.cI, (zK h a).2, .inl (zI h a)))] H := by
  have h1 := r.2.2.2.1 a
  unfold zC at h1
  have e : zK h a = (1, (zK h a).2) := by rw [← hk]
  rw [e] at h1
  refine ⟨h1.1, fun k q hq => ?_⟩
  cases k with
  | zero => cases hq; exact h1.2
  | succ k => simp at hq
theorem zRel_long {G : ZG} {h : ZH} {H : Heap} (r : zRel G h H) {a : Nat} (hk : (zK h a).1 = 2) : G.B ≤ a ∧ va_P G.D vwCl [(a, .inl (G.cJ, (zK h a).2, .inr (.inl (zL h a))))] H := by
  have h1 := r.2.2.2.1 a
  unfold zC at h1
  have e : zK h a = (2, (zK h a).2) := by rw [← hk]
  rw [e] at h1
  refine ⟨h1.1, fun k q hq => ?_⟩
  cases k with
  | zero => cases hq; exact h1.2
  | succ k => simp at hq
theorem zRel_refs {G : ZG} {h : ZH} {H : Heap} (r : zRel G h H) {a : Nat} (hk : (zK h a).1 = 3) : G.B ≤ a ∧ va_P G.D vwCl [(a, .inl (G.cO, (zK h a).2, .inr (.inr (.inr (.inr (zR h a))))))] H := by
  have h1 := r.2.2.2.1 a
  unfold zC at h1
  have e : zK h a = (3, (zK h a).2) := by rw [← hk]
  rw [e] at h1
  refine ⟨h1.1, fun k q hq => ?_⟩
  cases k with
  | zero => cases hq; exact h1.2
  | succ k => simp at hq
/-- one cell changes, the others stay: the relation goes on -/
theorem zRel_put {G : ZG} {h h1 : ZH} {H H1 : Heap} (r : zRel G h H) {a : Nat} (ha : G.B ≤ a) (hT : zT h1 = zT h) (z : H1.size = H.size) (oq : ∀ q, q ≠ a → H1[q]? = H[q]?)
    (hK : zK h1 = zK h) (hI : ∀ b, b ≠ a → zI h1 b = zI h b) (hL : ∀ b, b ≠ a → zL h1 b = zL h b) (hR : ∀ b, b ≠ a → zR h1 b = zR h b) (hDf : zD h1 = zD h) (hc : zC G h1 a H1) : zRel G h1 H1 := by
  obtain ⟨r1, r2, r3, r4, r5⟩ := r
  refine ⟨by rw [z, hT]; exact r1, by rw [hT]; exact r2, fun q hq => by rw [oq q (by omega)]; exact r3 q hq, fun b => ?_, hDf.trans r5⟩
  by_cases hb : b = a
  · subst hb; exact hc
  · have h5 := r4 b
    unfold zC at h5 ⊢
    rw [hK, hI b hb, hL b hb, hR b hb]
    have hf : ∀ c, zfs h1 c b = zfs h c b := fun c => by
      unfold zfs
      refine List.map_congr_left fun k _ => ?_
      unfold zV
      rw [hI b hb, hL b hb, hR b hb]
    split at h5
    · trivial
    · rw [oq b hb]; exact h5
    · rw [oq b hb]; exact h5
    · rw [oq b hb]; exact h5
    · trivial
    · exact h5
    · rename_i c _ _
      rw [hf c]
      exact ⟨h5.1, h5.2.kept (oq b hb)⟩
/-- a new cell -/
theorem zRel_new {G : ZG} {h : ZH} {H H1 : Heap} (r : zRel G h H) (kd : Nat × Nat) (n : Nat) (z : H1.size = H.size + 1) (oq : ∀ q, q < H.size → H1[q]? = H[q]?) (hc : zC G (znew h kd n) (zT h) H1) : zRel G (znew h kd n) H1 := by
  obtain ⟨r1, r2, r3, r4, r5⟩ := r
  refine ⟨by rw [z, r1]; rfl, Nat.le_trans r2 (Nat.le_succ _), fun q hq => by rw [oq q (by omega)]; exact r3 q hq, fun b => ?_, r5⟩
  by_cases hb : b = zT h
  · subst hb; exact hc
  · have h5 := r4 b
    have eK : zK (znew h kd n) b = zK h b := by show zw (zK h) (zT h) kd b = _; simp [zw, hb]
    have eI : zI (znew h kd n) b = zI h b := by show zw (zI h) (zT h) _ b = _; simp [zw, hb]
    have eL : zL (znew h kd n) b = zL h b := by show zw (zL h) (zT h) _ b = _; simp [zw, hb]
    have eR : zR (znew h kd n) b = zR h b := by show zw (zR h) (zT h) _ b = _; simp [zw, hb]
    have hf : ∀ c, zfs (znew h kd n) c b = zfs h c b := fun c => by
      unfold zfs
      refine List.map_congr_left fun k _ => ?_
      unfold zV
      rw [eI, eL, eR]
    unfold zC at h5 ⊢
    rw [eK, eI, eL, eR]
    have q1 : ∀ {cell : Cell}, H[b]? = some cell → H1[b]? = some cell := fun hq => by rw [oq b (Array.getElem?_eq_some_iff.mp hq).1]; exact hq
    split at h5
    · trivial
    · exact ⟨h5.1, q1 h5.2⟩
    · exact ⟨h5.1, q1 h5.2⟩
    · exact ⟨h5.1, q1 h5.2⟩
    · trivial
    · exact h5
    · rename_i c _ _
      rw [hf c]
      exact ⟨h5.1, h5.2.kept (oq b h5.2.lt)⟩
/-! typed locals -/
theorem zrf_cat (r : Option Nat) : (va_rf r).category = 1 := by cases r <;> rfl
theorem zval_cat (v : ZV) : (zval v).category = zcat v := by
  rcases v with x | x | r
  · rfl
  · rfl
  · exact zrf_cat r
theorem zlv_ix {lv : List (Nat × ZV)} {j i : Nat} {v : ZV} (h : lv[j]? = some (i, v)) : (zlv lv)[j]? = some (i, zval v) := by
  unfold zlv; rw [List.getElem?_map, h]; rfl
theorem zlv_at {ls : Array Slot} {nL : Nat} {lv : List (Nat × ZV)} (h : lv_has ls nL (zlv lv)) (j : Nat) {i : Nat} {v : ZV} (hj : lv[j]? = some (i, v)) : ls[i]? = some (.val (zval v)) := lv_at h j (zlv_ix hj)
theorem zlv_fil1 {i : Nat} {v : ZV} {lv lv' : List (Nat × ZV)} (h : (i, v) :: lv.filter (fun q => !(q.1 == i) && !(q.1 + 1 == i && zcat q.2 == 2)) = lv') :
    (i, zval v) :: (zlv lv).filter (fun q => !(q.1 == i) && !(q.1 + 1 == i && q.2.category == 2)) = zlv lv' := by
  subst h
  unfold zlv
  rw [List.filter_map, List.map_cons]
  refine congrArg (fun f => (i, zval v) :: List.map (fun q => (q.1, zval q.2)) (List.filter f lv)) (funext fun q => ?_)
  show (!(q.1 == i) && !(q.1 + 1 == i && (zval q.2).category == 2)) = _
  rw [zval_cat]
theorem zlv_fil2 {i : Nat} {v : ZV} {lv lv' : List (Nat × ZV)} (h : (i, v) :: lv.filter (fun q => !(q.1 == i) && (!(q.1 == i + 1) && !(q.1 + 1 == i && zcat q.2 == 2))) = lv') :
    (i, zval v) :: (zlv lv).filter (fun q => !(q.1 == i) && (!(q.1 == i + 1) && !(q.1 + 1 == i && q.2.category == 2))) = zlv lv' := by
  subst h
  unfold zlv
  rw [List.filter_map, List.map_cons]
  refine congrArg (fun f => (i, zval v) :: List.map (fun q => (q.1, zval q.2)) (List.filter f lv)) (funext fun q => ?_)
  show (!(q.1 == i) && (!(q.1 == i + 1) && !(q.1 + 1 == i && (zval q.2).category == 2))) = _
  rw [zval_cat]
section ZGo
variable {α : Type} {M : ZMe} {Qf : ZX → α → ZH → State → Prop} {pc pc' : Nat} {lv lv' : List (Nat × ZV)} {st st' : List ZV} {k : ZM α}
theorem Sim.go (hs : Sim M Qf pc' lv' st' k)
    (step : ∀ (X : ZX) (_ : zOk X M) (H : Heap) (locs : List Loc) (c n : Nat) (Q : State → Prop) (ls : Array Slot), lv_has ls X.nL (zlv lv) → (∀ ls' : Array Slot, lv_has ls' X.nL (zlv lv') → zW X H locs c n Q (F0 X.m pc' ls' (st'.map zval))) → zW X H locs c n Q (F0 X.m pc ls (st.map zval))) :
    Sim M Qf pc lv st k := by
  intro h v h' e
  obtain ⟨m, w⟩ := hs h v h' e
  exact ⟨m, fun X ok a1 a2 a3 a4 H locs ls r hf hl => step X ok H locs _ _ _ ls hl (fun ls' hl' => w X ok a1 a2 a3 a4 H locs ls' r hf hl')⟩
theorem Sim.sub (ks : List Nat) (hl : ks.filterMap (fun j => lv[j]?) = lv') (hs : Sim M Qf pc lv' st k) : Sim M Qf pc lv st k :=
  hs.go (fun X ok H locs c n Q ls hv kk => kk ls (lv_sub hv ks (by
    rw [← hl]
    unfold lv_pick zlv
    rw [List.map_filterMap]
    congr 1
    funext j
    rw [List.getElem?_map])))
theorem s_n {β : Type} {v : β} {w : β → ZV} {kk : β → ZM α} (hs : ∀ x, Sim M Qf pc lv (w x :: st) (kk x)) : Sim M Qf pc lv (w v :: st) (z_n v kk) := hs v
theorem s_fl : Sim M Qf pc lv st (z_fl : ZM α) := fun h v h' e => by cases e
theorem s_if {c : Prop} [Decidable c] {k1 k2 : ZM α} (h1 : c → Sim M Qf pc lv st k1) (h2 : ¬ c → Sim M Qf pc lv st k2) : Sim M Qf pc lv st (if c then k1 else k2) := by
  by_cases hc : c
  · rw [if_pos hc]; exact h1 hc
  · rw [if_neg hc]; exact h2 hc
end ZGo
