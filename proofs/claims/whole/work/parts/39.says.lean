/-! ===== what the law's function says ===== -/
theorem law_says {B df mi b L : Nat} {xs : Nat → Int32} (hL : L ≤ 3584) (hd : df < B) (hb : b < B) : ∃ h' : ZH, p_L_law (some b) (z_h0 B df mi b L xs) = some (1, h') ∧ zT h' ≤ B + 601024 ∧ zN h' ≤ 7293034 :=
  law_says' hL hd
