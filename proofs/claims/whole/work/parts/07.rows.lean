theorem s_iconst {α : Type} {M : ZMe} {Qf : ZX → α → ZH → State → Prop} {pc : Nat} {lv : List (Nat × ZV)} {st : List ZV} {k : ZM α} {n : Int} {v : Int32} (hd : decode M.cc pc = .ok (.iconst n, 1)) (hv : Int32.ofInt n = v) (hs : Sim M Qf (pc + 1) lv (.inl v :: st) k) : Sim M Qf pc lv (st) k :=
  hs.go (fun X ok H locs c n Q ls hl kk => lv_iconst ok.2.2.1 ok.2.2.2.1 hd hv (kk ls hl))
theorem s_bipush {α : Type} {M : ZMe} {Qf : ZX → α → ZH → State → Prop} {pc : Nat} {lv : List (Nat × ZV)} {st : List ZV} {k : ZM α} {n : Int} {v : Int32} (hd : decode M.cc pc = .ok (.bipush n, 2)) (hv : (Int8.ofInt n).toInt32 = v) (hs : Sim M Qf (pc + 2) lv (.inl v :: st) k) : Sim M Qf pc lv (st) k :=
  hs.go (fun X ok H locs c n Q ls hl kk => lv_bipush ok.2.2.1 ok.2.2.2.1 hd hv (kk ls hl))
theorem s_sipush {α : Type} {M : ZMe} {Qf : ZX → α → ZH → State → Prop} {pc : Nat} {lv : List (Nat × ZV)} {st : List ZV} {k : ZM α} {n : Int} {v : Int32} (hd : decode M.cc pc = .ok (.sipush n, 3)) (hv : (Int16.ofInt n).toInt32 = v) (hs : Sim M Qf (pc + 3) lv (.inl v :: st) k) : Sim M Qf pc lv (st) k :=
  hs.go (fun X ok H locs c n Q ls hl kk => lv_sipush ok.2.2.1 ok.2.2.2.1 hd hv (kk ls hl))
theorem s_lconst {α : Type} {M : ZMe} {Qf : ZX → α → ZH → State → Prop} {pc : Nat} {lv : List (Nat × ZV)} {st : List ZV} {k : ZM α} {n : Fin 2} {v : Int64} (hd : decode M.cc pc = .ok (.lconst n, 1)) (hv : Int64.ofNat (n : Nat) = v) (hs : Sim M Qf (pc + 1) lv (.inr (.inl v) :: st) k) : Sim M Qf pc lv (st) k :=
  hs.go (fun X ok H locs c n Q ls hl kk => lv_lconst ok.2.2.1 ok.2.2.2.1 hd hv (kk ls hl))
theorem s_iadd {α : Type} {M : ZMe} {Qf : ZX → α → ZH → State → Prop} {pc : Nat} {lv : List (Nat × ZV)} {st : List ZV} {k : ZM α} {x y : Int32} (hd : decode M.cc pc = .ok (.iadd, 1)) (hs : Sim M Qf (pc + 1) lv (.inl (x + y) :: st) k) : Sim M Qf pc lv (.inl y :: .inl x :: st) k :=
  hs.go (fun X ok H locs c n Q ls hl kk => lv_iadd ok.2.2.1 ok.2.2.2.1 hd (kk ls hl))
theorem s_isub {α : Type} {M : ZMe} {Qf : ZX → α → ZH → State → Prop} {pc : Nat} {lv : List (Nat × ZV)} {st : List ZV} {k : ZM α} {x y : Int32} (hd : decode M.cc pc = .ok (.isub, 1)) (hs : Sim M Qf (pc + 1) lv (.inl (x - y) :: st) k) : Sim M Qf pc lv (.inl y :: .inl x :: st) k :=
  hs.go (fun X ok H locs c n Q ls hl kk => lv_isub ok.2.2.1 ok.2.2.2.1 hd (kk ls hl))
theorem s_imul {α : Type} {M : ZMe} {Qf : ZX → α → ZH → State → Prop} {pc : Nat} {lv : List (Nat × ZV)} {st : List ZV} {k : ZM α} {x y : Int32} (hd : decode M.cc pc = .ok (.imul, 1)) (hs : Sim M Qf (pc + 1) lv (.inl (x * y) :: st) k) : Sim M Qf pc lv (.inl y :: .inl x :: st) k :=
  hs.go (fun X ok H locs c n Q ls hl kk => lv_imul ok.2.2.1 ok.2.2.2.1 hd (kk ls hl))
theorem s_iand {α : Type} {M : ZMe} {Qf : ZX → α → ZH → State → Prop} {pc : Nat} {lv : List (Nat × ZV)} {st : List ZV} {k : ZM α} {x y : Int32} (hd : decode M.cc pc = .ok (.iand, 1)) (hs : Sim M Qf (pc + 1) lv (.inl (x &&& y) :: st) k) : Sim M Qf pc lv (.inl y :: .inl x :: st) k :=
  hs.go (fun X ok H locs c n Q ls hl kk => lv_iand ok.2.2.1 ok.2.2.2.1 hd (kk ls hl))
theorem s_ior {α : Type} {M : ZMe} {Qf : ZX → α → ZH → State → Prop} {pc : Nat} {lv : List (Nat × ZV)} {st : List ZV} {k : ZM α} {x y : Int32} (hd : decode M.cc pc = .ok (.ior, 1)) (hs : Sim M Qf (pc + 1) lv (.inl (x ||| y) :: st) k) : Sim M Qf pc lv (.inl y :: .inl x :: st) k :=
  hs.go (fun X ok H locs c n Q ls hl kk => lv_ior ok.2.2.1 ok.2.2.2.1 hd (kk ls hl))
theorem s_ishl {α : Type} {M : ZMe} {Qf : ZX → α → ZH → State → Prop} {pc : Nat} {lv : List (Nat × ZV)} {st : List ZV} {k : ZM α} {x y : Int32} (hd : decode M.cc pc = .ok (.ishl, 1)) (hs : Sim M Qf (pc + 1) lv (.inl (x <<< (y &&& 31)) :: st) k) : Sim M Qf pc lv (.inl y :: .inl x :: st) k :=
  hs.go (fun X ok H locs c n Q ls hl kk => lv_ishl ok.2.2.1 ok.2.2.2.1 hd (kk ls hl))
theorem s_ishr {α : Type} {M : ZMe} {Qf : ZX → α → ZH → State → Prop} {pc : Nat} {lv : List (Nat × ZV)} {st : List ZV} {k : ZM α} {x y : Int32} (hd : decode M.cc pc = .ok (.ishr, 1)) (hs : Sim M Qf (pc + 1) lv (.inl (x >>> (y &&& 31)) :: st) k) : Sim M Qf pc lv (.inl y :: .inl x :: st) k :=
  hs.go (fun X ok H locs c n Q ls hl kk => lv_ishr ok.2.2.1 ok.2.2.2.1 hd (kk ls hl))
theorem s_idiv {α : Type} {M : ZMe} {Qf : ZX → α → ZH → State → Prop} {pc : Nat} {lv : List (Nat × ZV)} {st : List ZV} {k : ZM α} {x y : Int32} (hd : decode M.cc pc = .ok (.idiv, 1)) (hne : ¬ y = 0) (hs : Sim M Qf (pc + 1) lv (.inl (x / y) :: st) k) : Sim M Qf pc lv (.inl y :: .inl x :: st) k :=
  hs.go (fun X ok H locs c n Q ls hl kk => lv_idiv ok.2.2.1 ok.2.2.2.1 hd hne (kk ls hl))
theorem s_irem {α : Type} {M : ZMe} {Qf : ZX → α → ZH → State → Prop} {pc : Nat} {lv : List (Nat × ZV)} {st : List ZV} {k : ZM α} {x y : Int32} (hd : decode M.cc pc = .ok (.irem, 1)) (hne : ¬ y = 0) (hs : Sim M Qf (pc + 1) lv (.inl (x - x / y * y) :: st) k) : Sim M Qf pc lv (.inl y :: .inl x :: st) k :=
  hs.go (fun X ok H locs c n Q ls hl kk => lv_irem ok.2.2.1 ok.2.2.2.1 hd hne (kk ls hl))
theorem s_ineg {α : Type} {M : ZMe} {Qf : ZX → α → ZH → State → Prop} {pc : Nat} {lv : List (Nat × ZV)} {st : List ZV} {k : ZM α} {x : Int32} (hd : decode M.cc pc = .ok (.ineg, 1)) (hs : Sim M Qf (pc + 1) lv (.inl (-x) :: st) k) : Sim M Qf pc lv (.inl x :: st) k :=
  hs.go (fun X ok H locs c n Q ls hl kk => lv_ineg ok.2.2.1 ok.2.2.2.1 hd (kk ls hl))
theorem s_ladd {α : Type} {M : ZMe} {Qf : ZX → α → ZH → State → Prop} {pc : Nat} {lv : List (Nat × ZV)} {st : List ZV} {k : ZM α} {x y : Int64} (hd : decode M.cc pc = .ok (.ladd, 1)) (hs : Sim M Qf (pc + 1) lv (.inr (.inl (x + y)) :: st) k) : Sim M Qf pc lv (.inr (.inl y) :: .inr (.inl x) :: st) k :=
  hs.go (fun X ok H locs c n Q ls hl kk => lv_ladd ok.2.2.1 ok.2.2.2.1 hd (kk ls hl))
theorem s_lsub {α : Type} {M : ZMe} {Qf : ZX → α → ZH → State → Prop} {pc : Nat} {lv : List (Nat × ZV)} {st : List ZV} {k : ZM α} {x y : Int64} (hd : decode M.cc pc = .ok (.lsub, 1)) (hs : Sim M Qf (pc + 1) lv (.inr (.inl (x - y)) :: st) k) : Sim M Qf pc lv (.inr (.inl y) :: .inr (.inl x) :: st) k :=
  hs.go (fun X ok H locs c n Q ls hl kk => lv_lsub ok.2.2.1 ok.2.2.2.1 hd (kk ls hl))
theorem s_lmul {α : Type} {M : ZMe} {Qf : ZX → α → ZH → State → Prop} {pc : Nat} {lv : List (Nat × ZV)} {st : List ZV} {k : ZM α} {x y : Int64} (hd : decode M.cc pc = .ok (.lmul, 1)) (hs : Sim M Qf (pc + 1) lv (.inr (.inl (x * y)) :: st) k) : Sim M Qf pc lv (.inr (.inl y) :: .inr (.inl x) :: st) k :=
  hs.go (fun X ok H locs c n Q ls hl kk => lv_lmul ok.2.2.1 ok.2.2.2.1 hd (kk ls hl))
theorem s_land {α : Type} {M : ZMe} {Qf : ZX → α → ZH → State → Prop} {pc : Nat} {lv : List (Nat × ZV)} {st : List ZV} {k : ZM α} {x y : Int64} (hd : decode M.cc pc = .ok (.land, 1)) (hs : Sim M Qf (pc + 1) lv (.inr (.inl (x &&& y)) :: st) k) : Sim M Qf pc lv (.inr (.inl y) :: .inr (.inl x) :: st) k :=
  hs.go (fun X ok H locs c n Q ls hl kk => lv_land ok.2.2.1 ok.2.2.2.1 hd (kk ls hl))
theorem s_lor {α : Type} {M : ZMe} {Qf : ZX → α → ZH → State → Prop} {pc : Nat} {lv : List (Nat × ZV)} {st : List ZV} {k : ZM α} {x y : Int64} (hd : decode M.cc pc = .ok (.lor, 1)) (hs : Sim M Qf (pc + 1) lv (.inr (.inl (x ||| y)) :: st) k) : Sim M Qf pc lv (.inr (.inl y) :: .inr (.inl x) :: st) k :=
  hs.go (fun X ok H locs c n Q ls hl kk => lv_lor ok.2.2.1 ok.2.2.2.1 hd (kk ls hl))
theorem s_lshl {α : Type} {M : ZMe} {Qf : ZX → α → ZH → State → Prop} {pc : Nat} {lv : List (Nat × ZV)} {st : List ZV} {k : ZM α} {x : Int64} {y : Int32} (hd : decode M.cc pc = .ok (.lshl, 1)) (hs : Sim M Qf (pc + 1) lv (.inr (.inl (x <<< (y.toInt64 &&& 63))) :: st) k) : Sim M Qf pc lv (.inl y :: .inr (.inl x) :: st) k :=
  hs.go (fun X ok H locs c n Q ls hl kk => lv_lshl ok.2.2.1 ok.2.2.2.1 hd rfl (kk ls hl))
theorem s_lshr {α : Type} {M : ZMe} {Qf : ZX → α → ZH → State → Prop} {pc : Nat} {lv : List (Nat × ZV)} {st : List ZV} {k : ZM α} {x : Int64} {y : Int32} (hd : decode M.cc pc = .ok (.lshr, 1)) (hs : Sim M Qf (pc + 1) lv (.inr (.inl (x >>> (y.toInt64 &&& 63))) :: st) k) : Sim M Qf pc lv (.inl y :: .inr (.inl x) :: st) k :=
  hs.go (fun X ok H locs c n Q ls hl kk => lv_lshr ok.2.2.1 ok.2.2.2.1 hd rfl (kk ls hl))
theorem s_i2l {α : Type} {M : ZMe} {Qf : ZX → α → ZH → State → Prop} {pc : Nat} {lv : List (Nat × ZV)} {st : List ZV} {k : ZM α} {x : Int32} (hd : decode M.cc pc = .ok (.i2l, 1)) (hs : Sim M Qf (pc + 1) lv (.inr (.inl x.toInt64) :: st) k) : Sim M Qf pc lv (.inl x :: st) k :=
  hs.go (fun X ok H locs c n Q ls hl kk => lv_i2l ok.2.2.1 ok.2.2.2.1 hd rfl (kk ls hl))
theorem s_l2i {α : Type} {M : ZMe} {Qf : ZX → α → ZH → State → Prop} {pc : Nat} {lv : List (Nat × ZV)} {st : List ZV} {k : ZM α} {x : Int64} (hd : decode M.cc pc = .ok (.l2i, 1)) (hs : Sim M Qf (pc + 1) lv (.inl x.toInt32 :: st) k) : Sim M Qf pc lv (.inr (.inl x) :: st) k :=
  hs.go (fun X ok H locs c n Q ls hl kk => lv_l2i ok.2.2.1 ok.2.2.2.1 hd rfl (kk ls hl))
theorem s_i2c {α : Type} {M : ZMe} {Qf : ZX → α → ZH → State → Prop} {pc : Nat} {lv : List (Nat × ZV)} {st : List ZV} {k : ZM α} {x : Int32} (hd : decode M.cc pc = .ok (.i2c, 1)) (hs : Sim M Qf (pc + 1) lv (.inl ((x.toUInt32 % 65536).toInt32) :: st) k) : Sim M Qf pc lv (.inl x :: st) k :=
  hs.go (fun X ok H locs c n Q ls hl kk => lv_i2c ok.2.2.1 ok.2.2.2.1 hd rfl (kk ls hl))
theorem s_lcmp {α : Type} {M : ZMe} {Qf : ZX → α → ZH → State → Prop} {pc : Nat} {lv : List (Nat × ZV)} {st : List ZV} {k : ZM α} {x y : Int64} (hd : decode M.cc pc = .ok (.lcmp, 1)) (hs : Sim M Qf (pc + 1) lv (.inl (lg_cmp x y) :: st) k) : Sim M Qf pc lv (.inr (.inl y) :: .inr (.inl x) :: st) k :=
  hs.go (fun X ok H locs c n Q ls hl kk => W.lcmp ok.2.2.1 ok.2.2.2.1 hd (kk ls hl))
theorem s_null {α : Type} {M : ZMe} {Qf : ZX → α → ZH → State → Prop} {pc : Nat} {lv : List (Nat × ZV)} {st : List ZV} {k : ZM α} (hd : decode M.cc pc = .ok (.aconst_null, 1)) (hs : Sim M Qf (pc + 1) lv (.inr (.inr none) :: st) k) : Sim M Qf pc lv (st) k :=
  hs.go (fun X ok H locs c n Q ls hl kk => lv_null ok.2.2.1 ok.2.2.2.1 hd (kk ls hl))
theorem s_dupI {α : Type} {M : ZMe} {Qf : ZX → α → ZH → State → Prop} {pc : Nat} {lv : List (Nat × ZV)} {st : List ZV} {k : ZM α} {x : Int32} (hd : decode M.cc pc = .ok (.dup, 1)) (hs : Sim M Qf (pc + 1) lv (.inl x :: .inl x :: st) k) : Sim M Qf pc lv (.inl x :: st) k :=
  hs.go (fun X ok H locs c n Q ls hl kk => lv_dup ok.2.2.1 ok.2.2.2.1 hd rfl (kk ls hl))
theorem s_dupR {α : Type} {M : ZMe} {Qf : ZX → α → ZH → State → Prop} {pc : Nat} {lv : List (Nat × ZV)} {st : List ZV} {k : ZM α} {x : Option Nat} (hd : decode M.cc pc = .ok (.dup, 1)) (hs : Sim M Qf (pc + 1) lv (.inr (.inr x) :: .inr (.inr x) :: st) k) : Sim M Qf pc lv (.inr (.inr x) :: st) k :=
  hs.go (fun X ok H locs c n Q ls hl kk => lv_dup ok.2.2.1 ok.2.2.2.1 hd (zrf_cat x) (kk ls hl))
theorem s_popI {α : Type} {M : ZMe} {Qf : ZX → α → ZH → State → Prop} {pc : Nat} {lv : List (Nat × ZV)} {st : List ZV} {k : ZM α} {x : Int32} (hd : decode M.cc pc = .ok (.pop, 1)) (hs : Sim M Qf (pc + 1) lv (st) k) : Sim M Qf pc lv (.inl x :: st) k :=
  hs.go (fun X ok H locs c n Q ls hl kk => lv_pop ok.2.2.1 ok.2.2.2.1 hd rfl (kk ls hl))
theorem s_popR {α : Type} {M : ZMe} {Qf : ZX → α → ZH → State → Prop} {pc : Nat} {lv : List (Nat × ZV)} {st : List ZV} {k : ZM α} {x : Option Nat} (hd : decode M.cc pc = .ok (.pop, 1)) (hs : Sim M Qf (pc + 1) lv (st) k) : Sim M Qf pc lv (.inr (.inr x) :: st) k :=
  hs.go (fun X ok H locs c n Q ls hl kk => lv_pop ok.2.2.1 ok.2.2.2.1 hd (zrf_cat x) (kk ls hl))
theorem s_dupx1I {α : Type} {M : ZMe} {Qf : ZX → α → ZH → State → Prop} {pc : Nat} {lv : List (Nat × ZV)} {st : List ZV} {k : ZM α} {x : Int32} {y : Option Nat} (hd : decode M.cc pc = .ok (.dup_x1, 1)) (hs : Sim M Qf (pc + 1) lv (.inl x :: .inr (.inr y) :: .inl x :: st) k) : Sim M Qf pc lv (.inl x :: .inr (.inr y) :: st) k :=
  hs.go (fun X ok H locs c n Q ls hl kk => lv_dup_x1 ok.2.2.1 ok.2.2.2.1 hd rfl (zrf_cat y) (kk ls hl))
theorem s_dupx1R {α : Type} {M : ZMe} {Qf : ZX → α → ZH → State → Prop} {pc : Nat} {lv : List (Nat × ZV)} {st : List ZV} {k : ZM α} {x : Option Nat} {y : Option Nat} (hd : decode M.cc pc = .ok (.dup_x1, 1)) (hs : Sim M Qf (pc + 1) lv (.inr (.inr x) :: .inr (.inr y) :: .inr (.inr x) :: st) k) : Sim M Qf pc lv (.inr (.inr x) :: .inr (.inr y) :: st) k :=
  hs.go (fun X ok H locs c n Q ls hl kk => lv_dup_x1 ok.2.2.1 ok.2.2.2.1 hd (zrf_cat x) (zrf_cat y) (kk ls hl))
theorem s_dup2RI {α : Type} {M : ZMe} {Qf : ZX → α → ZH → State → Prop} {pc : Nat} {lv : List (Nat × ZV)} {st : List ZV} {k : ZM α} {x : Int32} {y : Option Nat} (hd : decode M.cc pc = .ok (.dup2, 1)) (hs : Sim M Qf (pc + 1) lv (.inl x :: .inr (.inr y) :: .inl x :: .inr (.inr y) :: st) k) : Sim M Qf pc lv (.inl x :: .inr (.inr y) :: st) k :=
  hs.go (fun X ok H locs c n Q ls hl kk => lv_dup2_11 ok.2.2.1 ok.2.2.2.1 hd rfl (zrf_cat y) (kk ls hl))
theorem s_dup2II {α : Type} {M : ZMe} {Qf : ZX → α → ZH → State → Prop} {pc : Nat} {lv : List (Nat × ZV)} {st : List ZV} {k : ZM α} {x y : Int32} (hd : decode M.cc pc = .ok (.dup2, 1)) (hs : Sim M Qf (pc + 1) lv (.inl x :: .inl y :: .inl x :: .inl y :: st) k) : Sim M Qf pc lv (.inl x :: .inl y :: st) k :=
  hs.go (fun X ok H locs c n Q ls hl kk => lv_dup2_11 ok.2.2.1 ok.2.2.2.1 hd rfl rfl (kk ls hl))
theorem s_iloadn {α : Type} {M : ZMe} {Qf : ZX → α → ZH → State → Prop} {pc : Nat} {lv : List (Nat × ZV)} {st : List ZV} {k : ZM α} {i : Fin 4} {x : Int32} {j : Nat} (hd : decode M.cc pc = .ok (.iload_n i, 1)) (hj : lv[j]? = some (i.val, .inl x)) (hs : Sim M Qf (pc + 1) lv (.inl x :: st) k) : Sim M Qf pc lv (st) k :=
  hs.go (fun X ok H locs c n Q ls hl kk => lv_iload_n ok.2.2.1 ok.2.2.2.1 hd rfl (zlv_at hl j hj) (kk ls hl))
theorem s_iload {α : Type} {M : ZMe} {Qf : ZX → α → ZH → State → Prop} {pc : Nat} {lv : List (Nat × ZV)} {st : List ZV} {k : ZM α} {i : Nat} {x : Int32} {j : Nat} (hd : decode M.cc pc = .ok (.iload i, 2)) (hj : lv[j]? = some (i, .inl x)) (hs : Sim M Qf (pc + 2) lv (.inl x :: st) k) : Sim M Qf pc lv (st) k :=
  hs.go (fun X ok H locs c n Q ls hl kk => lv_iload ok.2.2.1 ok.2.2.2.1 hd (zlv_at hl j hj) (kk ls hl))
theorem s_lloadn {α : Type} {M : ZMe} {Qf : ZX → α → ZH → State → Prop} {pc : Nat} {lv : List (Nat × ZV)} {st : List ZV} {k : ZM α} {i : Fin 4} {x : Int64} {j : Nat} (hd : decode M.cc pc = .ok (.lload_n i, 1)) (hj : lv[j]? = some (i.val, .inr (.inl x))) (hs : Sim M Qf (pc + 1) lv (.inr (.inl x) :: st) k) : Sim M Qf pc lv (st) k :=
  hs.go (fun X ok H locs c n Q ls hl kk => lv_lload_n ok.2.2.1 ok.2.2.2.1 hd rfl (zlv_at hl j hj) (kk ls hl))
theorem s_lload {α : Type} {M : ZMe} {Qf : ZX → α → ZH → State → Prop} {pc : Nat} {lv : List (Nat × ZV)} {st : List ZV} {k : ZM α} {i : Nat} {x : Int64} {j : Nat} (hd : decode M.cc pc = .ok (.lload i, 2)) (hj : lv[j]? = some (i, .inr (.inl x))) (hs : Sim M Qf (pc + 2) lv (.inr (.inl x) :: st) k) : Sim M Qf pc lv (st) k :=
  hs.go (fun X ok H locs c n Q ls hl kk => lv_lload ok.2.2.1 ok.2.2.2.1 hd (zlv_at hl j hj) (kk ls hl))
theorem s_aloadn {α : Type} {M : ZMe} {Qf : ZX → α → ZH → State → Prop} {pc : Nat} {lv : List (Nat × ZV)} {st : List ZV} {k : ZM α} {i : Fin 4} {x : Option Nat} {j : Nat} (hd : decode M.cc pc = .ok (.aload_n i, 1)) (hj : lv[j]? = some (i.val, .inr (.inr x))) (hs : Sim M Qf (pc + 1) lv (.inr (.inr x) :: st) k) : Sim M Qf pc lv st k := by
  cases x with
  | none => exact hs.go (fun X ok H locs c n Q ls hl kk => lv_aload_nN ok.2.2.1 ok.2.2.2.1 hd rfl (zlv_at hl j hj) (kk ls hl))
  | some a => exact hs.go (fun X ok H locs c n Q ls hl kk => lv_aload_n ok.2.2.1 ok.2.2.2.1 hd rfl (zlv_at hl j hj) (kk ls hl))
theorem s_aload {α : Type} {M : ZMe} {Qf : ZX → α → ZH → State → Prop} {pc : Nat} {lv : List (Nat × ZV)} {st : List ZV} {k : ZM α} {i : Nat} {x : Option Nat} {j : Nat} (hd : decode M.cc pc = .ok (.aload i, 2)) (hj : lv[j]? = some (i, .inr (.inr x))) (hs : Sim M Qf (pc + 2) lv (.inr (.inr x) :: st) k) : Sim M Qf pc lv st k := by
  cases x with
  | none => exact hs.go (fun X ok H locs c n Q ls hl kk => lv_aloadN ok.2.2.1 ok.2.2.2.1 hd (zlv_at hl j hj) (kk ls hl))
  | some a => exact hs.go (fun X ok H locs c n Q ls hl kk => lv_aload ok.2.2.1 ok.2.2.2.1 hd (zlv_at hl j hj) (kk ls hl))
theorem s_istoren {α : Type} {M : ZMe} {Qf : ZX → α → ZH → State → Prop} {pc : Nat} {lv lv' : List (Nat × ZV)} {st : List ZV} {k : ZM α} {i : Fin 4} {x : Int32} (hd : decode M.cc pc = .ok (.istore_n i, 1)) (hn : i.val < M.nL) (hl' : (i.val, .inl x) :: lv.filter (fun q => !(q.1 == i.val) && !(q.1 + 1 == i.val && zcat q.2 == 2)) = lv') (hs : Sim M Qf (pc + 1) lv' st k) : Sim M Qf pc lv (.inl x :: st) k := 
  hs.go (fun X ok H locs c n Q ls hl kk => lv_istore_n ok.2.2.1 ok.2.2.2.1 hd rfl hl (by rw [ok.2.2.2.2.2.1]; exact hn) (zlv_fil1 hl') (fun ls' h' => kk ls' h'))
theorem s_istore {α : Type} {M : ZMe} {Qf : ZX → α → ZH → State → Prop} {pc : Nat} {lv lv' : List (Nat × ZV)} {st : List ZV} {k : ZM α} {i : Nat} {x : Int32} (hd : decode M.cc pc = .ok (.istore i, 2)) (hn : i < M.nL) (hl' : (i, .inl x) :: lv.filter (fun q => !(q.1 == i) && !(q.1 + 1 == i && zcat q.2 == 2)) = lv') (hs : Sim M Qf (pc + 2) lv' st k) : Sim M Qf pc lv (.inl x :: st) k := 
  hs.go (fun X ok H locs c n Q ls hl kk => lv_istore ok.2.2.1 ok.2.2.2.1 hd hl (by rw [ok.2.2.2.2.2.1]; exact hn) (zlv_fil1 hl') (fun ls' h' => kk ls' h'))
theorem s_lstoren {α : Type} {M : ZMe} {Qf : ZX → α → ZH → State → Prop} {pc : Nat} {lv lv' : List (Nat × ZV)} {st : List ZV} {k : ZM α} {i : Fin 4} {x : Int64} (hd : decode M.cc pc = .ok (.lstore_n i, 1)) (hn : i.val + 1 < M.nL) (hl' : (i.val, .inr (.inl x)) :: lv.filter (fun q => !(q.1 == i.val) && (!(q.1 == i.val + 1) && !(q.1 + 1 == i.val && zcat q.2 == 2))) = lv') (hs : Sim M Qf (pc + 1) lv' st k) : Sim M Qf pc lv (.inr (.inl x) :: st) k := 
  hs.go (fun X ok H locs c n Q ls hl kk => lv_lstore_n ok.2.2.1 ok.2.2.2.1 hd rfl hl (by rw [ok.2.2.2.2.2.1]; exact hn) (zlv_fil2 hl') (fun ls' h' => kk ls' h'))
theorem s_lstore {α : Type} {M : ZMe} {Qf : ZX → α → ZH → State → Prop} {pc : Nat} {lv lv' : List (Nat × ZV)} {st : List ZV} {k : ZM α} {i : Nat} {x : Int64} (hd : decode M.cc pc = .ok (.lstore i, 2)) (hn : i + 1 < M.nL) (hl' : (i, .inr (.inl x)) :: lv.filter (fun q => !(q.1 == i) && (!(q.1 == i + 1) && !(q.1 + 1 == i && zcat q.2 == 2))) = lv') (hs : Sim M Qf (pc + 2) lv' st k) : Sim M Qf pc lv (.inr (.inl x) :: st) k := 
  hs.go (fun X ok H locs c n Q ls hl kk => lv_lstore ok.2.2.1 ok.2.2.2.1 hd hl (by rw [ok.2.2.2.2.2.1]; exact hn) (zlv_fil2 hl') (fun ls' h' => kk ls' h'))
theorem s_astoren {α : Type} {M : ZMe} {Qf : ZX → α → ZH → State → Prop} {pc : Nat} {lv lv' : List (Nat × ZV)} {st : List ZV} {k : ZM α} {i : Fin 4} {x : Option Nat} (hd : decode M.cc pc = .ok (.astore_n i, 1)) (hn : i.val < M.nL) (hl' : (i.val, .inr (.inr x)) :: lv.filter (fun q => !(q.1 == i.val) && !(q.1 + 1 == i.val && zcat q.2 == 2)) = lv') (hs : Sim M Qf (pc + 1) lv' st k) : Sim M Qf pc lv (.inr (.inr x) :: st) k := by
  cases x with
  | none => exact hs.go (fun X ok H locs c n Q ls hl kk => lv_astore_nN ok.2.2.1 ok.2.2.2.1 hd rfl hl (by rw [ok.2.2.2.2.2.1]; exact hn) (zlv_fil1 hl') (fun ls' h' => kk ls' h'))
  | some a => exact hs.go (fun X ok H locs c n Q ls hl kk => lv_astore_n ok.2.2.1 ok.2.2.2.1 hd rfl hl (by rw [ok.2.2.2.2.2.1]; exact hn) (zlv_fil1 hl') (fun ls' h' => kk ls' h'))
theorem s_astore {α : Type} {M : ZMe} {Qf : ZX → α → ZH → State → Prop} {pc : Nat} {lv lv' : List (Nat × ZV)} {st : List ZV} {k : ZM α} {i : Nat} {x : Option Nat} (hd : decode M.cc pc = .ok (.astore i, 2)) (hn : i < M.nL) (hl' : (i, .inr (.inr x)) :: lv.filter (fun q => !(q.1 == i) && !(q.1 + 1 == i && zcat q.2 == 2)) = lv') (hs : Sim M Qf (pc + 2) lv' st k) : Sim M Qf pc lv (.inr (.inr x) :: st) k := by
  cases x with
  | none => exact hs.go (fun X ok H locs c n Q ls hl kk => lv_astoreN ok.2.2.1 ok.2.2.2.1 hd hl (by rw [ok.2.2.2.2.2.1]; exact hn) (zlv_fil1 hl') (fun ls' h' => kk ls' h'))
  | some a => exact hs.go (fun X ok H locs c n Q ls hl kk => lv_astore ok.2.2.1 ok.2.2.2.1 hd hl (by rw [ok.2.2.2.2.2.1]; exact hn) (zlv_fil1 hl') (fun ls' h' => kk ls' h'))
theorem s_iinc {α : Type} {M : ZMe} {Qf : ZX → α → ZH → State → Prop} {pc : Nat} {lv lv' : List (Nat × ZV)} {st : List ZV} {k : ZM α} {i j : Nat} {n : Int} {x d v : Int32} (hd : decode M.cc pc = .ok (.iinc i n, 3)) (hj : lv[j]? = some (i, .inl x)) (hv : Int32.ofInt n = d) (he : v = x + d) (hn : i < M.nL) (hl' : (i, .inl v) :: lv.filter (fun q => !(q.1 == i) && !(q.1 + 1 == i && zcat q.2 == 2)) = lv') (hs : Sim M Qf (pc + 3) lv' st k) : Sim M Qf pc lv st k :=
  hs.go (fun X ok H locs c n Q ls hl kk => lv_iinc ok.2.2.1 ok.2.2.2.1 hd hl (k := j) (zlv_ix hj) (by rw [hv, he]) (by rw [ok.2.2.2.2.2.1]; exact hn) (zlv_fil1 hl') (fun ls' h' => kk ls' h'))
theorem s_icmp_eq {α : Type} {M : ZMe} {Qf : ZX → α → ZH → State → Prop} {pc tgt : Nat} {lv : List (Nat × ZV)} {st : List ZV} {k1 k2 : ZM α} {x y : Int32} {off : Int} (hd : decode M.cc pc = .ok (.if_icmp .eq off, 3)) (ht : (pc : Int) + off = (tgt : Int)) (h1 : Sim M Qf tgt lv st k1) (h2 : Sim M Qf (pc + 3) lv st k2) : Sim M Qf pc lv (.inl y :: .inl x :: st) (if x = y then k1 else k2) := by
  by_cases hc : x = y
  · rw [if_pos hc]
    exact h1.go (fun X ok H locs c n Q ls hl kk => lv_icmp_eq ok.2.2.1 ok.2.2.2.1 hd ht (fun _ => kk ls hl) (fun q => absurd hc q))
  · rw [if_neg hc]
    exact h2.go (fun X ok H locs c n Q ls hl kk => lv_icmp_eq ok.2.2.1 ok.2.2.2.1 hd ht (fun q => absurd q hc) (fun _ => kk ls hl))
theorem s_if_eq {α : Type} {M : ZMe} {Qf : ZX → α → ZH → State → Prop} {pc tgt : Nat} {lv : List (Nat × ZV)} {st : List ZV} {k1 k2 : ZM α} {x : Int32} {off : Int} (hd : decode M.cc pc = .ok (.ifCond .eq off, 3)) (ht : (pc : Int) + off = (tgt : Int)) (h1 : Sim M Qf tgt lv st k1) (h2 : Sim M Qf (pc + 3) lv st k2) : Sim M Qf pc lv (.inl x :: st) (if x = 0 then k1 else k2) := by
  by_cases hc : x = 0
  · rw [if_pos hc]
    exact h1.go (fun X ok H locs c n Q ls hl kk => lv_if_eq ok.2.2.1 ok.2.2.2.1 hd ht (fun _ => kk ls hl) (fun q => absurd hc q))
  · rw [if_neg hc]
    exact h2.go (fun X ok H locs c n Q ls hl kk => lv_if_eq ok.2.2.1 ok.2.2.2.1 hd ht (fun q => absurd q hc) (fun _ => kk ls hl))
theorem s_icmp_ne {α : Type} {M : ZMe} {Qf : ZX → α → ZH → State → Prop} {pc tgt : Nat} {lv : List (Nat × ZV)} {st : List ZV} {k1 k2 : ZM α} {x y : Int32} {off : Int} (hd : decode M.cc pc = .ok (.if_icmp .ne off, 3)) (ht : (pc : Int) + off = (tgt : Int)) (h1 : Sim M Qf tgt lv st k1) (h2 : Sim M Qf (pc + 3) lv st k2) : Sim M Qf pc lv (.inl y :: .inl x :: st) (if ¬ x = y then k1 else k2) := by
  by_cases hc : ¬ x = y
  · rw [if_pos hc]
    exact h1.go (fun X ok H locs c n Q ls hl kk => lv_icmp_ne ok.2.2.1 ok.2.2.2.1 hd ht (fun _ => kk ls hl) (fun q => absurd q hc))
  · rw [if_neg hc]
    exact h2.go (fun X ok H locs c n Q ls hl kk => lv_icmp_ne ok.2.2.1 ok.2.2.2.1 hd ht (fun q => absurd (Decidable.of_not_not hc) q) (fun _ => kk ls hl))
theorem s_if_ne {α : Type} {M : ZMe} {Qf : ZX → α → ZH → State → Prop} {pc tgt : Nat} {lv : List (Nat × ZV)} {st : List ZV} {k1 k2 : ZM α} {x : Int32} {off : Int} (hd : decode M.cc pc = .ok (.ifCond .ne off, 3)) (ht : (pc : Int) + off = (tgt : Int)) (h1 : Sim M Qf tgt lv st k1) (h2 : Sim M Qf (pc + 3) lv st k2) : Sim M Qf pc lv (.inl x :: st) (if ¬ x = 0 then k1 else k2) := by
  by_cases hc : ¬ x = 0
  · rw [if_pos hc]
    exact h1.go (fun X ok H locs c n Q ls hl kk => lv_if_ne ok.2.2.1 ok.2.2.2.1 hd ht (fun _ => kk ls hl) (fun q => absurd q hc))
  · rw [if_neg hc]
    exact h2.go (fun X ok H locs c n Q ls hl kk => lv_if_ne ok.2.2.1 ok.2.2.2.1 hd ht (fun q => absurd (Decidable.of_not_not hc) q) (fun _ => kk ls hl))
theorem s_icmp_lt {α : Type} {M : ZMe} {Qf : ZX → α → ZH → State → Prop} {pc tgt : Nat} {lv : List (Nat × ZV)} {st : List ZV} {k1 k2 : ZM α} {x y : Int32} {off : Int} (hd : decode M.cc pc = .ok (.if_icmp .lt off, 3)) (ht : (pc : Int) + off = (tgt : Int)) (h1 : Sim M Qf tgt lv st k1) (h2 : Sim M Qf (pc + 3) lv st k2) : Sim M Qf pc lv (.inl y :: .inl x :: st) (if x < y then k1 else k2) := by
  by_cases hc : x < y
  · rw [if_pos hc]
    exact h1.go (fun X ok H locs c n Q ls hl kk => lv_icmp_lt ok.2.2.1 ok.2.2.2.1 hd ht (fun _ => kk ls hl) (fun q => absurd hc q))
  · rw [if_neg hc]
    exact h2.go (fun X ok H locs c n Q ls hl kk => lv_icmp_lt ok.2.2.1 ok.2.2.2.1 hd ht (fun q => absurd q hc) (fun _ => kk ls hl))
theorem s_if_lt {α : Type} {M : ZMe} {Qf : ZX → α → ZH → State → Prop} {pc tgt : Nat} {lv : List (Nat × ZV)} {st : List ZV} {k1 k2 : ZM α} {x : Int32} {off : Int} (hd : decode M.cc pc = .ok (.ifCond .lt off, 3)) (ht : (pc : Int) + off = (tgt : Int)) (h1 : Sim M Qf tgt lv st k1) (h2 : Sim M Qf (pc + 3) lv st k2) : Sim M Qf pc lv (.inl x :: st) (if x < 0 then k1 else k2) := by
  by_cases hc : x < 0
  · rw [if_pos hc]
    exact h1.go (fun X ok H locs c n Q ls hl kk => lv_if_lt ok.2.2.1 ok.2.2.2.1 hd ht (fun _ => kk ls hl) (fun q => absurd hc q))
  · rw [if_neg hc]
    exact h2.go (fun X ok H locs c n Q ls hl kk => lv_if_lt ok.2.2.1 ok.2.2.2.1 hd ht (fun q => absurd q hc) (fun _ => kk ls hl))
theorem s_icmp_ge {α : Type} {M : ZMe} {Qf : ZX → α → ZH → State → Prop} {pc tgt : Nat} {lv : List (Nat × ZV)} {st : List ZV} {k1 k2 : ZM α} {x y : Int32} {off : Int} (hd : decode M.cc pc = .ok (.if_icmp .ge off, 3)) (ht : (pc : Int) + off = (tgt : Int)) (h1 : Sim M Qf tgt lv st k1) (h2 : Sim M Qf (pc + 3) lv st k2) : Sim M Qf pc lv (.inl y :: .inl x :: st) (if y ≤ x then k1 else k2) := by
  by_cases hc : y ≤ x
  · rw [if_pos hc]
    exact h1.go (fun X ok H locs c n Q ls hl kk => lv_icmp_ge ok.2.2.1 ok.2.2.2.1 hd ht (fun _ => kk ls hl) (fun q => absurd hc q))
  · rw [if_neg hc]
    exact h2.go (fun X ok H locs c n Q ls hl kk => lv_icmp_ge ok.2.2.1 ok.2.2.2.1 hd ht (fun q => absurd q hc) (fun _ => kk ls hl))
theorem s_if_ge {α : Type} {M : ZMe} {Qf : ZX → α → ZH → State → Prop} {pc tgt : Nat} {lv : List (Nat × ZV)} {st : List ZV} {k1 k2 : ZM α} {x : Int32} {off : Int} (hd : decode M.cc pc = .ok (.ifCond .ge off, 3)) (ht : (pc : Int) + off = (tgt : Int)) (h1 : Sim M Qf tgt lv st k1) (h2 : Sim M Qf (pc + 3) lv st k2) : Sim M Qf pc lv (.inl x :: st) (if 0 ≤ x then k1 else k2) := by
  by_cases hc : 0 ≤ x
  · rw [if_pos hc]
    exact h1.go (fun X ok H locs c n Q ls hl kk => lv_if_ge ok.2.2.1 ok.2.2.2.1 hd ht (fun _ => kk ls hl) (fun q => absurd hc q))
  · rw [if_neg hc]
    exact h2.go (fun X ok H locs c n Q ls hl kk => lv_if_ge ok.2.2.1 ok.2.2.2.1 hd ht (fun q => absurd q hc) (fun _ => kk ls hl))
theorem s_icmp_gt {α : Type} {M : ZMe} {Qf : ZX → α → ZH → State → Prop} {pc tgt : Nat} {lv : List (Nat × ZV)} {st : List ZV} {k1 k2 : ZM α} {x y : Int32} {off : Int} (hd : decode M.cc pc = .ok (.if_icmp .gt off, 3)) (ht : (pc : Int) + off = (tgt : Int)) (h1 : Sim M Qf tgt lv st k1) (h2 : Sim M Qf (pc + 3) lv st k2) : Sim M Qf pc lv (.inl y :: .inl x :: st) (if y < x then k1 else k2) := by
  by_cases hc : y < x
  · rw [if_pos hc]
    exact h1.go (fun X ok H locs c n Q ls hl kk => lv_icmp_gt ok.2.2.1 ok.2.2.2.1 hd ht (fun _ => kk ls hl) (fun q => absurd hc q))
  · rw [if_neg hc]
    exact h2.go (fun X ok H locs c n Q ls hl kk => lv_icmp_gt ok.2.2.1 ok.2.2.2.1 hd ht (fun q => absurd q hc) (fun _ => kk ls hl))
theorem s_if_gt {α : Type} {M : ZMe} {Qf : ZX → α → ZH → State → Prop} {pc tgt : Nat} {lv : List (Nat × ZV)} {st : List ZV} {k1 k2 : ZM α} {x : Int32} {off : Int} (hd : decode M.cc pc = .ok (.ifCond .gt off, 3)) (ht : (pc : Int) + off = (tgt : Int)) (h1 : Sim M Qf tgt lv st k1) (h2 : Sim M Qf (pc + 3) lv st k2) : Sim M Qf pc lv (.inl x :: st) (if 0 < x then k1 else k2) := by
  by_cases hc : 0 < x
  · rw [if_pos hc]
    exact h1.go (fun X ok H locs c n Q ls hl kk => lv_if_gt ok.2.2.1 ok.2.2.2.1 hd ht (fun _ => kk ls hl) (fun q => absurd hc q))
  · rw [if_neg hc]
    exact h2.go (fun X ok H locs c n Q ls hl kk => lv_if_gt ok.2.2.1 ok.2.2.2.1 hd ht (fun q => absurd q hc) (fun _ => kk ls hl))
theorem s_icmp_le {α : Type} {M : ZMe} {Qf : ZX → α → ZH → State → Prop} {pc tgt : Nat} {lv : List (Nat × ZV)} {st : List ZV} {k1 k2 : ZM α} {x y : Int32} {off : Int} (hd : decode M.cc pc = .ok (.if_icmp .le off, 3)) (ht : (pc : Int) + off = (tgt : Int)) (h1 : Sim M Qf tgt lv st k1) (h2 : Sim M Qf (pc + 3) lv st k2) : Sim M Qf pc lv (.inl y :: .inl x :: st) (if x ≤ y then k1 else k2) := by
  by_cases hc : x ≤ y
  · rw [if_pos hc]
    exact h1.go (fun X ok H locs c n Q ls hl kk => lv_icmp_le ok.2.2.1 ok.2.2.2.1 hd ht (fun _ => kk ls hl) (fun q => absurd hc q))
  · rw [if_neg hc]
    exact h2.go (fun X ok H locs c n Q ls hl kk => lv_icmp_le ok.2.2.1 ok.2.2.2.1 hd ht (fun q => absurd q hc) (fun _ => kk ls hl))
theorem s_if_le {α : Type} {M : ZMe} {Qf : ZX → α → ZH → State → Prop} {pc tgt : Nat} {lv : List (Nat × ZV)} {st : List ZV} {k1 k2 : ZM α} {x : Int32} {off : Int} (hd : decode M.cc pc = .ok (.ifCond .le off, 3)) (ht : (pc : Int) + off = (tgt : Int)) (h1 : Sim M Qf tgt lv st k1) (h2 : Sim M Qf (pc + 3) lv st k2) : Sim M Qf pc lv (.inl x :: st) (if x ≤ 0 then k1 else k2) := by
  by_cases hc : x ≤ 0
  · rw [if_pos hc]
    exact h1.go (fun X ok H locs c n Q ls hl kk => lv_if_le ok.2.2.1 ok.2.2.2.1 hd ht (fun _ => kk ls hl) (fun q => absurd hc q))
  · rw [if_neg hc]
    exact h2.go (fun X ok H locs c n Q ls hl kk => lv_if_le ok.2.2.1 ok.2.2.2.1 hd ht (fun q => absurd q hc) (fun _ => kk ls hl))
theorem s_ifnull {α : Type} {M : ZMe} {Qf : ZX → α → ZH → State → Prop} {pc tgt : Nat} {lv : List (Nat × ZV)} {st : List ZV} {k1 k2 : ZM α} {r : Option Nat} {off : Int} (hd : decode M.cc pc = .ok (.ifnull off, 3)) (ht : (pc : Int) + off = (tgt : Int)) (h1 : Sim M Qf tgt lv st k1) (h2 : Sim M Qf (pc + 3) lv st k2) : Sim M Qf pc lv (.inr (.inr r) :: st) (if r = none then k1 else k2) := by
  cases r with
  | none =>
    rw [if_pos rfl]
    exact h1.go (fun X ok H locs c n Q ls hl kk => lv_ifnullN ok.2.2.1 ok.2.2.2.1 hd ht (kk ls hl))
  | some a =>
    rw [if_neg (fun q => by cases q)]
    exact h2.go (fun X ok H locs c n Q ls hl kk => lv_ifnull ok.2.2.1 ok.2.2.2.1 hd (kk ls hl))
theorem s_ifnonnull {α : Type} {M : ZMe} {Qf : ZX → α → ZH → State → Prop} {pc tgt : Nat} {lv : List (Nat × ZV)} {st : List ZV} {k1 k2 : ZM α} {r : Option Nat} {off : Int} (hd : decode M.cc pc = .ok (.ifnonnull off, 3)) (ht : (pc : Int) + off = (tgt : Int)) (h1 : Sim M Qf tgt lv st k1) (h2 : Sim M Qf (pc + 3) lv st k2) : Sim M Qf pc lv (.inr (.inr r) :: st) (if ¬ r = none then k1 else k2) := by
  cases r with
  | none =>
    rw [if_neg (fun q => q rfl)]
    exact h2.go (fun X ok H locs c n Q ls hl kk => lv_ifnonnullN ok.2.2.1 ok.2.2.2.1 hd (kk ls hl))
  | some a =>
    rw [if_pos (fun q => by cases q)]
    exact h1.go (fun X ok H locs c n Q ls hl kk => lv_ifnonnull ok.2.2.1 ok.2.2.2.1 hd ht (kk ls hl))
theorem s_goto {α : Type} {M : ZMe} {Qf : ZX → α → ZH → State → Prop} {pc tgt : Nat} {lv : List (Nat × ZV)} {st : List ZV} {k : ZM α} {off : Int} (hd : decode M.cc pc = .ok (.goto off, 3)) (ht : (pc : Int) + off = (tgt : Int)) (h1 : Sim M Qf tgt lv st k) : Sim M Qf pc lv st k :=
  h1.go (fun X ok H locs c n Q ls hl kk => lv_goto ok.2.2.1 ok.2.2.2.1 hd ht (kk ls hl))
