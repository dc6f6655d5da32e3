section
variable {B b : Nat} {D : Nat × Nat × Nat × Nat × (Nat → Int32)}
theorem law_l (hb : D.2.2.1 = b) (hL : D.2.2.2.1 ≤ 3584) : ∀ (c k n : Nat) (H : ZH) (nc : Nat) (A : AS), k + c = 512 → c < n → nc ≤ k → ST H B nc A → zD H = D → Gd B (p_L_law_l23 n (some b) (some B) (some (B + 95)) (some (B + 141)) (I ((7 * k : Nat) : Int)) H) := by
  have fin : ∀ {k n : Nat} {H : ZH} {nc : Nat} {A : AS}, k ≤ 512 → 0 < n → nc ≤ k → ST H B nc A → zD H = D → D.2.2.2.1 < 7 * k + 7 → Gd B (p_L_law_l23 n (some b) (some B) (some (B + 95)) (some (B + 141)) (I ((7 * k : Nat) : Int)) H) := by
    intro k n H nc A hk hn hc S hD hl
    obtain ⟨n, rfl⟩ := Nat.exists_eq_add_of_lt hn
    have sn : z_sN (some b) H = some (I (D.2.2.2.1 : Int), H) := by
      unfold z_sN
      rw [hD, if_pos (by rw [hb]), I_ofNat]
    have e1 : I (D.2.2.2.1 : Int) - 7 < I ((7 * k : Nat) : Int) := by
      rw [show (7 : Int32) = I 7 from rfl, I_sub, I_lt (by omega) (by omega)]; omega
    have rz : z_rz 1 H = some (1, H) := rfl
    refine ⟨H, ?_, ?_, ?_⟩
    · rw [Nat.zero_add]
      show p_L_law_c23 _ _ _ _ _ _ _ = _
      simp only [p_L_law_c23, z_b, ite_ap, sn, e1, if_true, rz]
    · obtain ⟨dw, sl, rs, al, os, bs, ig, tl, sy, dr, t⟩ := A
      obtain ⟨-, -, -, hT, hN⟩ := S
      omega
    · obtain ⟨dw, sl, rs, al, os, bs, ig, tl, sy, dr, t⟩ := A
      obtain ⟨-, -, -, hT, hN⟩ := S
      omega
  intro c
  induction c with
  | zero => exact fun k n H nc A hk hn hc S hD => fin (by omega) hn hc S hD (by omega)
  | succ c ih =>
    intro k n H nc A hk hn hc S hD
    by_cases hl : D.2.2.2.1 < 7 * k + 7
    · exact fin (by omega) (by omega) hc S hD hl
    · cases n with
      | zero => exact absurd hn (Nat.not_lt_zero _)
      | succ n =>
        have sn : z_sN (some b) H = some (I (D.2.2.2.1 : Int), H) := by
          unfold z_sN
          rw [hD, if_pos (by rw [hb]), I_ofNat]
        have e1 : ¬ I (D.2.2.2.1 : Int) - 7 < I ((7 * k : Nat) : Int) := by
          rw [show (7 : Int32) = I 7 from rfl, I_sub, I_lt (by omega) (by omega)]; omega
        have s0 := sA hD hb hL (i := 7 * k) (by omega)
        have hi : 7 * k + 6 < D.2.2.2.1 := by omega
        have hnc : nc < 512 := by omega
        have nx : ∀ {nc' : Nat} {H2 : ZH} {A' : AS}, nc' ≤ k + 1 → ST H2 B nc' A' → zD H2 = D → Gd B (p_L_law_b1892 (p_L_law_l23 n) (some b) (some B) (some (B + 95)) (some (B + 141)) (I ((7 * k : Nat) : Int)) H2) := by
          intro nc' H2 A' h1 h2 h3
          have := ih (k + 1) n H2 nc' A' (by omega) (by omega) h1 h2 h3
          have e7 : I ((7 * k : Nat) : Int) + 7 = I ((7 * (k + 1) : Nat) : Int) := ix1 k 7
          rw [← e7] at this
          exact this
        have hK : ∀ H2 A', ST H2 B (nc + 1) A' → zD H2 = D → Gd B (p_L_law_b1892 (p_L_law_l23 n) (some b) (some B) (some (B + 95)) (some (B + 141)) (I ((7 * k : Nat) : Int)) H2) := fun H2 A' h2 h3 => nx (by omega) h2 h3
        obtain ⟨j, hj, ej⟩ := and31 (D.2.2.2.2 (7 * k))
        show Gd B (p_L_law_c23 (p_L_law_l23 n) _ _ _ _ _ _)
        simp only [p_L_law_c23, z_b, ite_ap, sn, e1, if_false, s0, ej]
        match j, hj with
        | 0, _ => rw [sw_lt (by decide)]; exact lk_letter S hnc hD hb hL hi _ hK
        | 1, _ => rw [sw_lt (by decide)]; exact lk_scrap S hnc hD hb hL hi _ hK
        | 2, _ => rw [sw_lt (by decide)]; exact lk_stem S hnc hD hb hL hi _ hK
        | 3, _ => rw [sw_lt (by decide)]; exact lk_rule S hnc hD hb hL hi _ hK
        | 4, _ => rw [sw_lt (by decide)]; exact lk_more S hnc hD hb hL hi _ hK
        | 5, _ => rw [sw_lt (by decide)]; exact lk_sound S hnc hD hb hL hi _ hK
        | 6, _ => rw [sw_lt (by decide)]; exact lk_own S hnc hD hb hL hi _ hK
        | 7, _ => rw [sw_lt (by decide)]; exact lk_bar S hnc hD hb hL hi _ hK
        | 8, _ => rw [sw_lt (by decide)]; exact lk_ignore S hnc hD hb hL hi _ hK
        | 9, _ => rw [sw_lt (by decide)]; exact lk_tell S hnc hD hb hL hi _ hK
        | 10, _ => rw [sw_lt (by decide)]; exact lk_item S hnc hD hb hL hi _ hK
        | 11, _ => rw [sw_lt (by decide)]; exact lk_style S hnc hD hb hL hi _ hK
        | 12, _ => rw [sw_lt (by decide)]; exact lk_put S hnc hD hb hL hi _ hK
        | 13, _ => rw [sw_lt (by decide)]; exact lk_take S hnc hD hb hL hi _ hK
        | 14, _ => rw [sw_lt (by decide)]; exact lk_correct S hnc hD hb hL hi _ hK
        | 15, _ => rw [sw_lt (by decide)]; exact lk_length S hnc hD hb hL hi _ hK
        | 16, _ => rw [sw_lt (by decide)]; exact lk_signAt S hnc hD hb hL hi _ hK
        | 17, _ => rw [sw_lt (by decide)]; exact lk_words S hnc hD hb hL hi _ hK
        | 18, _ => rw [sw_lt (by decide)]; exact lk_wordAt S hnc hD hb hL hi _ hK
        | 19, _ => rw [sw_lt (by decide)]; exact lk_isRight S hnc hD hb hL hi _ hK
        | 20, _ => rw [sw_lt (by decide)]; exact lk_readings S hnc hD hb hL hi _ hK
        | 21, _ => rw [sw_lt (by decide)]; exact lk_reading S hnc hD hb hL hi _ hK
        | 22, _ => rw [sw_lt (by decide)]; exact lk_split S hnc hD hb hL hi _ hK
        | 23, _ => rw [sw_lt (by decide)]; exact lk_mistakes S hnc hD hb hL hi _ hK
        | 24, _ => rw [sw_lt (by decide)]; exact lk_mistakeKind S hnc hD hb hL hi _ hK
        | 25, _ => rw [sw_lt (by decide)]; exact lk_mistakeAt S hnc hD hb hL hi _ hK
        | 26, _ => rw [sw_lt (by decide)]; exact lk_suggestions S hnc hD hb hL hi _ hK
        | 27, _ => rw [sw_lt (by decide)]; exact lk_suggestionsByAll S hnc hD hb hL hi _ hK
        | 28, _ => rw [sw_lt (by decide)]; exact lk_cost S hnc hD hb hL hi _ hK
        | 29, _ => rw [sw_lt (by decide)]; exact lk_suggested S hnc hD hb hL hi _ hK
        | 30, _ => rw [sw_lt (by decide)]; exact lk_made S hnc hD hb hL hi _ hK
        | 31, _ => rw [sw_31]; exact nx (by omega) S hD
        | n + 32, h => exact absurd h (by omega)
theorem law_says' {df mi L : Nat} {xs : Nat → Int32} (hL : L ≤ 3584) (hd : df < B) : ∃ h' : ZH, p_L_law (some b) (z_h0 B df mi b L xs) = some (1, h') ∧ zT h' ≤ B + 601024 ∧ zN h' ≤ 7293034 := by
  rw [law_start hd]
  obtain ⟨h', e, h1, h2⟩ := law_l (B := B) (b := b) (D := (df, mi, b, L, xs)) rfl hL 512 0 zFuel _ 0 _ (by omega) (by unfold zFuel; omega) (Nat.le_refl _) (ST0 (D := (df, mi, b, L, xs)) hd) rfl
  exact ⟨h', e, by omega, by omega⟩
end
