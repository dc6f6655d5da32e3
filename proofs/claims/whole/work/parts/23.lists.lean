/-! lists: their members' functions -/
def p_Jx4a65c_get_915e3 (v0 : Option Nat) (v1 : Int32) : ZM (Option Nat) := z_b (z_gI 0 2 v0) fun n => if v1 < 0 ∨ n ≤ v1 then z_fl else z_b (z_gR 0 1 v0) fun e => z_aR e v1
def p_Jx4a65c_init_da8c8 (v0 : Option Nat) : ZM Unit := z_fl
def p_Jx4a65c_add_9ea2d (v0 v1 : Option Nat) : ZM Int32 := z_fl
theorem met_Jx4a65c_get_915e3 (l : Launch) (v0 : Option Nat) (v1 : Int32) : zMet l yJx4a65c_get_915e3 cJx4a65c_get_915e3 2 (some (.object "java/lang/Object")) 3 100 [.inr (.inr v0), .inl v1] zcR (p_Jx4a65c_get_915e3 v0 v1) := by
  sorry
theorem met_Jx4a65c_add_9ea2d (l : Launch) (v0 v1 : Option Nat) : zMet l yJx4a65c_add_9ea2d cJx4a65c_add_9ea2d 2 (some .boolean) 7 220 [.inr (.inr v0), .inr (.inr v1)] zcI (p_Jx4a65c_add_9ea2d v0 v1) := by
  sorry
theorem met_Jx4a65c_init_da8c8 (l : Launch) (v0 : Option Nat) : zMet l yJx4a65c_init_da8c8 cJx4a65c_init_da8c8 1 none 3 60 [.inr (.inr v0)] zcV (p_Jx4a65c_init_da8c8 v0) := by
  sorry
