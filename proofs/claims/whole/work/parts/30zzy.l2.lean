/-- where a word is split first -/
def splN (r : Nat → Nat → Nat) (n : Nat) : Nat → Nat → Int
  | 0, _ => -1
  | c + 1, k => if r 0 k = 0 ∨ r k n = 0 then splN r n c (k + 1) else k
section
variable {H H' H1 : ZH} {B nc : Nat} {f f' : FI} {g g' : FL} {dw dw' : Wd} {sl sl' : List St} {rs rs' : List Ru} {al al' : Nat → Nat → Bool} {os bs ig os' bs' ig' : List Ow} {tl tl' : Nat → Nat} {sy sy' : List Sty} {dr dr' : List It} {t t' : List Nat} {lo lb li lo' lb' li' : Bk} {wl wl' : List Wd}
theorem irp_eq (C : CSh H B) {lm : Bk} (K : BoC f B lm lo lb li) (F : FoC f (B + 48) (arL (B + 48)) t) (Ro : OwR lo os) {j : Nat} {w : Wr} (hw : (wsOf t)[j]? = some w) {a b : Nat} (hab : a < b) (hb : b ≤ w.2.1.length) (hb2 : b ≤ 1000) :
    p_X11_isRightPart (some B) (I j) (I a) (I b) (hI H f) = some (if rdW lm lo lb ((w.2.1.take b).drop a) = 0 then 0 else 1, hI H f) := by
  obtain ⟨a1, a2, a3, a4, a5⟩ := (scan_ok t).2.2.2.1 j w hw
  have iw : isW ((w.2.1.take b).drop a) := isW_drop (isW_take a1 b) a
  have ne : (w.2.1.take b).drop a ≠ [] := fun q => by
    have := congrArg List.length q
    rw [td_len _ hb, List.length_nil] at this
    omega
  have pw := pow_eq (f := f) C.ot F hw (Nat.le_of_lt hab) hb hb2
  have rd := crd_eq (f := f) C K (w := (w.2.1.take b).drop a) iw
  have lt : rdW lm lo lb ((w.2.1.take b).drop a) < 256 := rdW_lt Ro iw ne
  have r0 : (I (rdW lm lo lb ((w.2.1.take b).drop a) : Int) = 0) ↔ rdW lm lo lb ((w.2.1.take b).drop a) = 0 := I_eqN (k := 0) (by omega) (by decide)
  have vr5 : ∀ (α : Type) (k : ZM α), z_vr 10 (some (B + cRf 5)) k (hI H f) = k (hI H f) := fun α k => o_vr C.ot k
  have vr0 : ∀ (α : Type) (k : ZM α), z_vr 3 (some (B + cRf 0)) k (hI H f) = k (hI H f) := fun α k => lx_vr C k
  have pw' : p_X9_partOfWord (some (B + cRf 5)) (I j) (I a) (I b) (hI H f) = some (I (cC ((w.2.1.take b).drop a)), hI H f) := pw
  have rd' : p_X2_readingsOf (some (B + cRf 0)) (I (cC ((w.2.1.take b).drop a))) (hI H f) = some (I (rdW lm lo lb ((w.2.1.take b).drop a)), hI H f) := rd
  simp only [p_X11_isRightPart, z_b, z_rz, ite_ap, x_gR C 0 (by decide), x_gR C 5 (by decide), vr5, pw', vr0, rd', r0, true_or, or_true, if_true]
  split <;> rfl
theorem spl_l (C : CSh H B) {lm : Bk} (K : BoC f B lm lo lb li) (F : FoC f (B + 48) (arL (B + 48)) t) (Ro : OwR lo os) {j : Nat} {w : Wr} (hw : (wsOf t)[j]? = some w) (hl : w.2.1.length ≤ 100) :
    ∀ c k n : Nat, k + c = w.2.1.length → 1 ≤ k → c < n → p_X11_split_l29 n (some B) (I j) (I w.2.1.length) (I k) (hI H f) = some (Sum.inl (I (splN (fun a b => rdW lm lo lb ((w.2.1.take b).drop a)) w.2.1.length c k)), hI H f) := by
  intro c
  induction c with
  | zero =>
    intro k n hk h1 hn
    obtain ⟨n, rfl⟩ := Nat.exists_eq_add_of_lt hn
    have e1 : I (w.2.1.length : Int) ≤ I (k : Int) := by rw [I_le (by omega) (by omega)]; omega
    show p_X11_split_c29 _ _ _ _ _ _ = _
    simp only [p_X11_split_c29, ite_ap, e1, if_true, z_xrt]
    rfl
  | succ c ih =>
    intro k n hk h1 hn
    cases n with
    | zero => exact absurd hn (Nat.not_lt_zero _)
    | succ n =>
      have e1 : ¬ I (w.2.1.length : Int) ≤ I (k : Int) := by rw [I_le (by omega) (by omega)]; omega
      have e2 : I (k : Int) + 1 = I ((k + 1 : Nat) : Int) := I_add _ 1
      have i1 : p_X11_isRightPart (some B) (I j) 0 (I k) (hI H f) = _ := irp_eq C K F Ro hw (a := 0) (b := k) (by omega) (by omega) (by omega)
      have i2 := irp_eq C K F Ro hw (a := k) (b := w.2.1.length) (by omega) (by omega) (by omega)
      have n1 : ¬ ((1 : Int32) = 0) := by decide
      have ih' := ih (k + 1) n (by omega) (by omega) (by omega)
      show p_X11_split_c29 (p_X11_split_l29 n) _ _ _ _ _ = _
      unfold splN
      simp only [p_X11_split_c29, p_X11_split_b56, z_b, z_n, ite_ap, e1, if_false, x_vr C, i1, i2, e2, ih']
      by_cases q1 : rdW lm lo lb ((w.2.1.take k).drop 0) = 0
      · rw [if_pos q1, if_pos rfl, if_pos (Or.inl q1)]
      · rw [if_neg q1, if_neg n1]
        by_cases q2 : rdW lm lo lb ((w.2.1.take w.2.1.length).drop k) = 0
        · rw [if_pos q2, if_pos rfl, if_pos (Or.inr q2)]
        · rw [if_neg q2, if_neg n1, if_neg (fun y => y.elim q1 q2)]
          rfl
theorem mspl_l {M : Nat} {ar : Nat → Nat} (m : MAt H M ar) {lm : Bk} (TT : TC f g ar M lm) (hlm : lm.length < 16384) (Ro : OwR lo os) (Rb : OwR lb bs) (ho : OwM f g ar M os) (hb : BaM f g ar M bs) (T : TxM f ar M t) (W : WsM f g ar M (wsOf t)) {j : Nat} {w : Wr} (hw : (wsOf t)[j]? = some w) :
    ∀ c k n : Nat, k + c = w.2.1.length → 1 ≤ k → c < n → p_X12_split_l19 n (some M) (I j) (I w.1) (I k) (hM H f g) = some (I (splN (fun a b => rdW lm lo lb ((w.2.1.take b).drop a)) w.2.1.length c k), hM H f g) := by
  obtain ⟨a1, a2, a3, a4, a5⟩ := (scan_ok t).2.2.2.1 j w hw
  have ht := T.2.1
  have hj : j < 101 := by have := ws_100 ht; have := lt_of_get hw; omega
  obtain ⟨w1, w2, -⟩ := W.2 j w hw
  have g42 := m_gR (f := f) (g := g) m 42 (by decide)
  have c42 : z_aI (some (ar 42)) (I j) (hM H f g) = some (I w.2.1.length, hM H f g) := (m_aI (f := f) (g := g) m 42 101 (by decide) hj (by decide)).trans (by rw [w2])
  intro c
  induction c with
  | zero =>
    intro k n hk h1 hn
    obtain ⟨n, rfl⟩ := Nat.exists_eq_add_of_lt hn
    have e1 : I (w.2.1.length : Int) ≤ I (k : Int) := by rw [I_le (by omega) (by omega)]; omega
    show p_X12_split_c19 _ _ _ _ _ _ = _
    simp only [p_X12_split_c19, z_b, z_rt, ite_ap, g42, c42, e1, if_true]
    rfl
  | succ c ih =>
    intro k n hk h1 hn
    cases n with
    | zero => exact absurd hn (Nat.not_lt_zero _)
    | succ n =>
      have e1 : ¬ I (w.2.1.length : Int) ≤ I (k : Int) := by rw [I_le (by omega) (by omega)]; omega
      have e2 : I (k : Int) + 1 = I ((k + 1 : Nat) : Int) := I_add _ 1
      have e3 : I (w.1 : Int) + I (k : Int) = I ((w.1 + k : Nat) : Int) := I_add _ _
      have e4 : I (w.1 : Int) + I (w.2.1.length : Int) = I ((w.1 + w.2.1.length : Nat) : Int) := I_add _ _
      have p1 : p_X12_numberOf (some M) (I w.1) (I (w.1 + k : Nat)) (hM H f g) = _ := mno_eq (f := f) (g := g) m T hw (a := 0) (b := k) (by omega) (by omega)
      have p2 := mno_eq (f := f) (g := g) m T hw (a := k) (b := w.2.1.length) (by omega) (by omega)
      have rdp : ∀ a b, a < b → b ≤ w.2.1.length → p_X12_readingsOf (some M) (J (mC ((w.2.1.take b).drop a))) (hM H f g) = some (I (rdW lm lo lb ((w.2.1.take b).drop a)), hM H f g) ∧ (I (rdW lm lo lb ((w.2.1.take b).drop a) : Int) = 0 ↔ rdW lm lo lb ((w.2.1.take b).drop a) = 0) := fun a b hab hb' => by
        have iw : isW ((w.2.1.take b).drop a) := isW_drop (isW_take a1 b) a
        have ne : (w.2.1.take b).drop a ≠ [] := fun q => by
          have := congrArg List.length q
          rw [td_len _ hb', List.length_nil] at this
          omega
        have lt : rdW lm lo lb ((w.2.1.take b).drop a) < 256 := rdW_lt Ro iw ne
        exact ⟨mrd_eq m TT hlm Ro Rb ho hb iw ne, I_eqN (k := 0) (by omega) (by decide)⟩
      obtain ⟨r1, s1⟩ := rdp 0 k (by omega) (by omega)
      obtain ⟨r2, s2⟩ := rdp k w.2.1.length (by omega) (by omega)
      have ih' := ih (k + 1) n (by omega) (by omega) (by omega)
      show p_X12_split_c19 (p_X12_split_l19 n) _ _ _ _ _ = _
      unfold splN
      simp only [p_X12_split_c19, p_X12_split_b68, z_b, z_n, z_rt, ite_ap, g42, c42, e1, if_false, e3, m_vr m, p1, r1, s1, e4, p2, r2, s2, e2, ih']
      by_cases q1 : rdW lm lo lb ((w.2.1.take k).drop 0) = 0
      · rw [if_pos q1, if_pos (Or.inl q1)]
      · rw [if_neg q1]
        by_cases q2 : rdW lm lo lb ((w.2.1.take w.2.1.length).drop k) = 0
        · rw [if_pos q2, if_pos (Or.inr q2)]
        · rw [if_neg q2, if_neg (fun y => y.elim q1 q2)]
theorem call_split (S : ST H B nc (dw, sl, rs, al, os, bs, ig, tl, sy, dr, t)) (hnc : nc < 512) (x : Int32) : Call H B nc (p_L_split (some B) x (some (B + 141))) (p_X12_split (some (B + 95)) x) := by
  obtain ⟨⟨lo, lb, li, wl, C⟩, M, ok, hT, hN⟩ := S
  obtain ⟨z, rfl, hz⟩ := int_of x
  have c := C.2.2.2.1
  have F : FoC (zI H) (B + 48) (arL (B + 48)) t := c.2.2.2.2.2.2.1
  have ch := chas (f := zI H) C.1 F hz
  have n1 : ¬ ((1 : Int32) = 0) := by decide
  by_cases q : 0 ≤ z ∧ z < (wsOf t).length
  · obtain ⟨i, rfl⟩ : ∃ i : Nat, z = i := ⟨z.toNat, by omega⟩
    have hi : i < (wsOf t).length := by omega
    obtain ⟨w, w1, w2, -⟩ := ws_at hi
    obtain ⟨a1, a2, a3, a4, a5⟩ := (scan_ok t).2.2.2.1 i w w1
    have ht := F.1.2.1
    have w50 := ws_100 ht
    have lp : 1 ≤ w.2.1.length := List.length_pos_iff.mpr a2
    obtain ⟨v1, v2, v3⟩ := F.2.2.1.2 i w w1
    refine call_ok (H1 := H) (v := I (splN (fun a b => rdW (madeOf rs sl []) lo lb ((w.2.1.take b).drop a)) w.2.1.length (w.2.1.length - 1) 1)) rfl hnc C M hT hN ?_ (KC.refl H B) C (ok.up hnc) (fun Hm Mm => ?_)
    · rw [if_pos q] at ch
      have vr5 : ∀ (α : Type) (k : ZM α), z_vr 10 (some (B + cRf 5)) k (hI H (zI H)) = k (hI H (zI H)) := fun α k => o_vr C.1.ot k
      have ws : p_X9_wordSize (some (B + cRf 5)) (I (i : Int)) (hI H (zI H)) = some (I w.2.1.length, hI H (zI H)) := by
        show p_X9_wordSize (some (B + 48)) (I (i : Int)) (hI H (zI H)) = _
        simp only [p_X9_wordSize, z_b, z_rt, o_gR C.1.ot 2 (by decide), o_rv C.1.ot 2 (by decide), o_get C.1.ot 2 50 rfl (show i < 50 by omega), v2]
      have sp : p_X11_split_l29 zFuel (some B) (I i) (I w.2.1.length) 1 (hI H (zI H)) = _ := spl_l (f := zI H) C.1 c.2.1 F c.2.2.1.1 w1 (by omega) (w.2.1.length - 1) 1 zFuel (by omega) (Nat.le_refl _) (by unfold zFuel; omega)
      show p_X11_split (some B) (I (i : Int)) (hI H (zI H)) = some (Sum.inl _, hI H (zI H))
      simp only [p_X11_split, z_b, ite_ap, x_vr C.1, ch, n1, not_false_eq_true, if_true, x_gR C.1 5 (by decide), vr5, ws, sp]
    · obtain ⟨H2, p1, p2, p3, p4, p5, p6⟩ := mhas Mm ok c.2.2.1.1 c.2.2.1.2.1 (z := (i : Int)) hz
      rw [if_pos q] at p1 p6
      refine ⟨H2, ?_, p2, p3, p6⟩
      have m := p3.1.1
      have vr : ∀ (α : Type) (k : ZM α), z_vr 13 (some (B + 95)) k Hm = k Hm := fun α k => if_pos Mm.1.1.1
      have ml := made_le ok
      have sp : p_X12_split_l19 zFuel (some (B + 95)) (I i) (I w.1) 1 H2 = _ := mspl_l (H := H2) (f := zI H2) (g := zL H2) m p5.2 (by omega) c.2.2.1.1 c.2.2.1.2.1 p3.2.2.2.2.2.1 p3.2.2.2.2.2.2.1 p3.2.2.2.2.2.2.2.2.2.2.2.1 p4.1 w1 (w.2.1.length - 1) 1 zFuel (by omega) (Nat.le_refl _) (by unfold zFuel; omega)
      have b41 : z_gR 13 41 (some (B + 95)) H2 = some (some (arM B 41), H2) := m_gR (f := zI H2) (g := zL H2) m 41 (by decide)
      have c41 : z_aI (some (arM B 41)) (I i) H2 = some (I w.1, H2) := (m_aI (f := zI H2) (g := zL H2) m 41 101 (by decide) (show i < 101 by omega) (by decide)).trans (by rw [(p4.1.2 i w w1).1]; rfl)
      simp only [p_X12_split, z_b, ite_ap, vr, p1, n1, not_false_eq_true, if_true, b41, c41, sp]
      rfl
  · refine call_th (kk := 1) hnc C M ok hT hN (n := 2) ?_ rfl (by decide) (fun Hm Mm => ?_)
    · rw [if_neg q] at ch
      show p_X11_split (some B) (I z) (hI H (zI H)) = some (Sum.inr 2, znew (hI H (zI H)) (0, 0) 6)
      simp only [p_X11_split, z_b, ite_ap, x_vr C.1, ch, not_true_eq_false, if_false, z_th]
    · obtain ⟨H2, p1, p2, p3, p4, p5, p6⟩ := mhas Mm ok c.2.2.1.1 c.2.2.1.2.1 hz
      rw [if_neg q] at p1 p6
      refine ⟨H2, 0, ?_, p2, p3, p6⟩
      have vr : ∀ (α : Type) (k : ZM α), z_vr 13 (some (B + 95)) k Hm = k Hm := fun α k => if_pos Mm.1.1.1
      simp only [p_X12_split, z_b, ite_ap, vr, p1, not_true_eq_false, if_false, z_rt]
end
