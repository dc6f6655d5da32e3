theorem sim_t1 (l : Launch) (v0 : Option Nat) (v1 : Int32) (k2 : ZM Int32) (hk : ∀ x1, Sim (l, "SpellScribe$Row", cX4_get, 2, 0, 0, (some .int), "get", []) (zFin zcI) 9 [(0, .inr (.inr v0)), (1, .inl v1)] [.inr (.inr x1)] k2) : Sim (l, "SpellScribe$Row", cX4_get, 2, 0, 0, (some .int), "get", []) (zFin zcI) 6 [(0, .inr (.inr v0)), (1, .inl v1)] [.inr (.inr v0)] (z_b (z_gR 5 0 v0) (fun x => k2)) := by
  refine s_getR (k := 0) cls_5 (by decide) rfl dX4_get_6 w_81 rfl (fun x1 => ?_)
  exact hk x1
