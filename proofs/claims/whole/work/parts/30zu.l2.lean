/-! styles: the reference -/
def itK : It → Nat
  | .inl k => k + 1
  | .inr _ => 0
def StyM (f : FI) (g : FL) (ar : Nat → Nat) (k : Nat) (s : Sty) : Prop := f (ar 29) k = I s.1.length ∧ f (ar 30) k = I s.2.1 ∧ g (ar 31) k = J (mN s.2.2) ∧ ∀ (j : Nat) (it : It), s.1[j]? = some it → f (ar 27) (3 * k + j) = I (itK it) ∧ ∀ w, it = .inr w → g (ar 28) (3 * k + j) = J (mN w)
def SyM (f : FI) (g : FL) (ar : Nat → Nat) (M : Nat) (sl : List Sty) : Prop := f M 26 = I sl.length ∧ sl.length ≤ 8 ∧ ∀ (k : Nat) (s : Sty), sl[k]? = some s → StyM f g ar k s ∧ SyOk s
section
variable {h : ZH} {M : Nat} {ar : Nat → Nat} {W : Nat → Wd} {E R sn bn : Nat → Nat} {nn : Nat} {sl : List Sty} {f : FI} {g : FL}
def WdM (f : FI) (g : FL) (ar : Nat → Nat) (W : Nat → Wd) (E : Nat → Nat) (nn : Nat) : Prop := ∀ i, i < nn → g (ar 44) i = J (mC (W i)) ∧ isW (W i) ∧ f (ar 46) i = I (pr (E i)) ∧ E i ≤ 8
theorem mC_lt {w : Wd} (hw : isW w) : mC w < 281474976710656 := by
  unfold mC
  split
  · rename_i hl; exact mN_range hw (by omega)
  · decide
theorem mC_eq {w u : Wd} (hw : isW w) (hu : WdOk u) : (J (mC w : Int) = J (mN u)) ↔ w = u := by
  have h10 : u.length ≤ 10 := hu.2.2
  have a := mN_range hu.1 (show u.length ≤ 12 by omega)
  have b := mC_lt hw
  have h1 := mN_pos hu.2.1
  rw [J_inj (by omega) (by omega)]
  unfold mC
  by_cases hl : w.length ≤ 10
  · rw [if_pos hl, ← mN_inj hw hu.1]; omega
  · rw [if_neg hl]
    exact Iff.intro (fun q => by omega) (fun q => absurd (q ▸ h10) hl)
theorem mfits_l (m : MAt h M ar) (D : RdM f ar M R sn nn) (N : SnOk sn bn nn) (hn : nn ≤ 50) (X : WdM f g ar W E nn) {k : Nat} {s : Sty} (hk : k < 8) (S : StyM f g ar k s) (ho : SyOk s) {i : Nat} (hi : i < nn) (hto : i + s.1.length ≤ nn) :
    ∀ (t : List It) (j n : Nat), s.1.drop j = t → j + t.length = s.1.length → t.length < n → (j = 0 ∨ i + j ≤ bn i) → p_X12_fits_l24 n (some M) (I k) (I i) 1 (I j) (hM h f g) = some (bI (if i + s.1.length ≤ bn i then fitL W E t (i + j) else false), hM h f g) := by
  obtain ⟨k1, k2, k3, k4, k5⟩ := ho
  obtain ⟨s1, s2, s3, s4⟩ := S
  intro t
  induction t with
  | nil =>
    intro j n h1 h2 h3 h4
    obtain ⟨n, rfl⟩ := Nat.exists_eq_add_of_lt h3
    have hj : j = s.1.length := by simpa using h2
    have e1 : I (s.1.length : Int) ≤ I (j : Int) := by rw [I_le (by omega) (by omega)]; omega
    show p_X12_fits_c24 _ _ _ _ _ _ _ = _
    simp only [p_X12_fits_c24, z_b, z_rz, ite_ap, m_gR m 29 (by decide), m_aI m 29 9 (by decide) (show k < 9 by omega) (by decide), s1, e1, if_true, or_true]
    rw [if_pos (by omega)]
    rfl
  | cons it t ih =>
    intro j n h1 h2 h3 h4
    obtain ⟨hat, hd⟩ := drop_at h1
    cases n with
    | zero => exact absurd h3 (Nat.not_lt_zero _)
    | succ n =>
      simp only [List.length_cons] at h2 h3
      have e1 : ¬ I (s.1.length : Int) ≤ I (j : Int) := by rw [I_le (by omega) (by omega)]; omega
      have e2 : I (j : Int) + 1 = I ((j + 1 : Nat) : Int) := I_add _ 1
      have e3 : 3 * I (k : Int) + I (j : Int) = I ((3 * k + j : Nat) : Int) := by
        rw [show (3 : Int32) = I ((3 : Nat) : Int) from rfl, I_mn, I_an]
      have n1 : ¬ ((1 : Int32) = 0) := by decide
      have hij : i + j < nn := by omega
      obtain ⟨a1, a2⟩ := s4 j it hat
      have b1 := (N i hi).2.2.2.2
      have b2 := (N (i + j) hij).2.2.2.2
      obtain ⟨c1, c2, -⟩ := N i hi
      have e4 : (I (sn (i + j) : Int) = I (sn i)) ↔ sn (i + j) = sn i := I_eqN (by omega) (by omega)
      obtain ⟨d1, d2, d3, d4⟩ := X (i + j) hij
      have hio := k5 it (List.mem_of_getElem? hat)
      -- it fails here
      have no : p_X12_fits_b138 (p_X12_fits_l24 n) (some M) (I k) (I i) (I j) (hM h f g) = some (bI false, hM h f g) := by
        simp only [p_X12_fits_b138, p_X12_fits_b139, z_n, e2]
        cases n with
        | zero => omega
        | succ n =>
          show p_X12_fits_c24 _ _ _ _ _ _ _ = _
          simp only [p_X12_fits_c24, z_b, z_rz, ite_ap, m_gR m 29 (by decide), m_aI m 29 9 (by decide) (show k < 9 by omega) (by decide), s1, true_or, if_true, ite_self]
          rfl
      have yes : ∀ B : Bool, i + j < bn i → (if i + s.1.length ≤ bn i then fitL W E t (i + (j + 1)) else false) = B → p_X12_fits_b134 (p_X12_fits_l24 n) (some M) (I k) (I i) (I j) (hM h f g) = some (bI B, hM h f g) := by
        intro B hB h5
        rw [← h5]
        simp only [p_X12_fits_b134, p_X12_fits_b139, z_n, e2]
        exact ih (j + 1) n hd (by omega) (by omega) (Or.inr (by omega))
      show p_X12_fits_c24 (p_X12_fits_l24 n) _ _ _ _ _ _ = some (bI (if _ then (if _ then _ else _) else _), _)
      simp only [p_X12_fits_c24, z_b, z_n, ite_ap, m_gR m 29 (by decide), m_aI m 29 9 (by decide) (show k < 9 by omega) (by decide), s1, e1, if_false, n1, m_gR m 27 (by decide), e3, m_aI m 27 27 (by decide) (show 3 * k + j < 27 by omega) (by decide), a1, m_gR m 43 (by decide), I_an, m_aI m 43 101 (by decide) (show i + j < 101 by omega) (by decide), (D.2 (i + j) hij).1, m_aI m 43 101 (by decide) (show i < 101 by omega) (by decide), (D.2 i hi).1, e4]
      by_cases q : i + j < bn i
      · rw [if_neg (fun z => z (bn_same N hi j q).2)]
        cases it with
        | inl kk =>
          have hkk : kk ≤ 3 := hio
          have e5 : I (itK (.inl kk) : Int) - 1 = I (kk : Int) := I_sn (kk + 1) 1 (by omega)
          have e6 : ¬ I (kk : Int) = -1 := by rw [show (-1 : Int32) = I (-1) from rfl, I_inj (by omega) (by omega)]; omega
          simp only [e5, e6, not_false_eq_true, if_true, m_gR m 46 (by decide), m_aI m 46 101 (by decide) (show i + j < 101 by omega) (by decide), d3, pr_m1 (show E (i + j) ≤ 1000 by omega)]
          by_cases z : E (i + j) = 0
          · have hf : fitI (W (i + j)) (E (i + j)) (.inl kk) = false := by
              show (if E (i + j) = 0 then false else _) = false
              rw [if_pos z]
            rw [if_pos z, no]
            simp [hf]
          · rw [if_neg z, pr_succ _ z, I_half (by omega)]
            have e7 : (I (((E (i + j) - 1) / 2 : Nat) : Int) = I (kk : Int)) ↔ (E (i + j) - 1) / 2 = kk := I_eqN (by omega) (by omega)
            simp only [e7]
            by_cases y : (E (i + j) - 1) / 2 = kk
            · have hf : fitI (W (i + j)) (E (i + j)) (.inl kk) = true := by
                show (if E (i + j) = 0 then false else if (E (i + j) - 1) / 2 = kk then true else false) = true
                rw [if_neg z, if_pos y]
              rw [if_neg (fun x => x y), if_pos hf]
              exact yes _ q rfl
            · have hf : fitI (W (i + j)) (E (i + j)) (.inl kk) = false := by
                show (if E (i + j) = 0 then false else if (E (i + j) - 1) / 2 = kk then true else false) = false
                rw [if_neg z, if_neg y]
              rw [if_pos y, no]
              simp [hf]
        | inr u =>
          have hu : WdOk u := hio
          have e5 : I (itK (.inr u) : Int) - 1 = -1 := rfl
          simp only [e5, not_true_eq_false, if_false, m_gR m 44 (by decide), m_aL m 44 101 (by decide) (show i + j < 101 by omega) (by decide), d1, m_gR m 28 (by decide), m_aL m 28 27 (by decide) (show 3 * k + j < 27 by omega) (by decide), a2 u rfl, lgc_eq0, mC_eq d2 hu]
          by_cases y : W (i + j) = u
          · have hf : fitI (W (i + j)) (E (i + j)) (.inr u) = true := by
              show (if W (i + j) = u then true else false) = true
              rw [if_pos y]
            rw [if_neg (fun x => x y), if_pos hf]
            exact yes _ q rfl
          · have hf : fitI (W (i + j)) (E (i + j)) (.inr u) = false := by
              show (if W (i + j) = u then true else false) = false
              rw [if_neg y]
            rw [if_pos y, no]
            simp [hf]
      · -- the next sentence
        have hbi : bn i = i + j := by rcases h4 with z | z <;> omega
        have hne : ¬ sn (i + j) = sn i := by rw [← hbi]; exact bn_out N hi (by omega)
        rw [if_pos hne, no, if_neg (by omega)]
theorem mfits_eq (m : MAt h M ar) (D : RdM f ar M R sn nn) (N : SnOk sn bn nn) (hn : nn ≤ 50) (X : WdM f g ar W E nn) {k : Nat} {s : Sty} (hk : k < 8) (S : StyM f g ar k s) (ho : SyOk s) {i : Nat} (hi : i < nn) : p_X12_fits (some M) (I k) (I i) (hM h f g) = some (bI (fitS W E s i (bn i)), hM h f g) := by
  have hlen := ho.2.1
  have e1 : (I (nn : Int) < I ((i + s.1.length : Nat) : Int)) ↔ ¬ i + s.1.length ≤ nn := by rw [I_lt (by omega) (by omega)]; omega
  have hb := (N i hi).2.1
  simp only [p_X12_fits, p_X12_fits_b20, z_b, ite_ap, m_gR m 29 (by decide), m_aI m 29 9 (by decide) (show k < 9 by omega) (by decide), S.1, m_gI m, D.1, I_an, e1]
  unfold fitS
  by_cases q : i + s.1.length ≤ nn
  · rw [if_neg (fun z => z q)]
    exact mfits_l m D N hn X hk S ho hi q s.1 0 zFuel rfl (by omega) (by unfold zFuel; omega) (Or.inl rfl)
  · rw [if_pos q, if_neg (by omega)]
    show p_X12_fits_c24 _ _ _ _ _ _ _ = _
    simp only [p_X12_fits_c24, z_b, z_rz, ite_ap, m_gR m 29 (by decide), m_aI m 29 9 (by decide) (show k < 9 by omega) (by decide), S.1, true_or, if_true, ite_self]
    rfl
/-- what the reference writes of the style that is taken -/
def tk1 (k : Option Nat) : Nat := match k with | none => 0 | some r => r + 1
/-- the lowest style is looked for -/
theorem mlow35 (m : MAt h M ar) (D : RdM f ar M R sn nn) (N : SnOk sn bn nn) (hn : nn ≤ 50) (X : WdM f g ar W E nn) (Y : SyM f g ar M sl) {i : Nat} (hi : i < nn) (r25 : Option Nat → Int32 → ZM Unit) :
    ∀ (t : List Sty) (k n : Nat), sl.drop k = t → k + t.length = sl.length → t.length < n → p_X12_takesStyles_l35 r25 n (some M) (I i) (I k) (hM h f g) = r25 (some M) (I ((match lowF W E i (bn i) t k with | none => i + 1 | some r => i + (sl.getD r ([], 0, [])).1.length : Nat) : Int)) (hM h (zu f (ar 48) i (I (tk1 (lowF W E i (bn i) t k)))) g) := by
  obtain ⟨y1, y2, y3⟩ := Y
  have n48 := (m.2.1 48 (by decide)).2.2
  have n29 := ar_ne m (i := 29) (j := 48) (by decide) (by decide) (by decide)
  intro t
  induction t with
  | nil =>
    intro k n h1 h2 h3
    obtain ⟨n, rfl⟩ := Nat.exists_eq_add_of_lt h3
    have e1 : I (sl.length : Int) ≤ I (k : Int) := by
      simp at h2
      rw [I_le (by omega) (by omega)]; omega
    have e2 : I (i : Int) + 1 = I ((i + 1 : Nat) : Int) := I_add _ 1
    have e3 : zu f (ar 48) i 0 M 26 = I sl.length := by rw [zu_ne n48.symm]; exact y1
    show p_X12_takesStyles_c35 _ _ _ _ _ _ = r25 _ (I ((i + 1 : Nat) : Int)) (hM h (zu f (ar 48) i 0) g)
    simp only [p_X12_takesStyles_c35, p_X12_takesStyles_b58, p_X12_takesStyles_b78, p_X12_takesStyles_b98, z_b, z_n, ite_ap, m_gI m, y1, e1, if_true, m_gR m 48 (by decide), m_sI m 48 101 (by decide) (show i < 101 by omega) (by decide), e3, e2]
  | cons s t ih =>
    intro k n h1 h2 h3
    obtain ⟨hat, hd⟩ := drop_at h1
    cases n with
    | zero => exact absurd h3 (Nat.not_lt_zero _)
    | succ n =>
      simp only [List.length_cons] at h2 h3
      have e1 : ¬ I (sl.length : Int) ≤ I (k : Int) := by rw [I_le (by omega) (by omega)]; omega
      have e2 : I (k : Int) + 1 = I ((k + 1 : Nat) : Int) := I_add _ 1
      obtain ⟨S, ho⟩ := y3 k s hat
      have ff := mfits_eq m D N hn X (k := k) (by omega) S ho hi
      have e3 : zu f (ar 48) i (I ((k + 1 : Nat) : Int)) M 26 = I sl.length := by rw [zu_ne n48.symm]; exact y1
      have e4 : zu f (ar 48) i (I ((k + 1 : Nat) : Int)) (ar 29) k = I s.1.length := by rw [zu_ne n29]; exact S.1
      show p_X12_takesStyles_c35 r25 (p_X12_takesStyles_l35 r25 n) _ _ _ _ = _
      simp only [p_X12_takesStyles_c35, z_b, z_n, ite_ap, m_gI m, y1, e1, if_false, m_vr m, ff, lowF]
      cases q : fitS W E s i (bn i) with
      | true =>
        rw [if_pos (show ¬ bI true = 0 by decide), if_pos rfl]
        have hg : sl.getD k ([], 0, []) = s := by rw [List.getD_eq_getElem?_getD, hat]; rfl
        simp only [p_X12_takesStyles_b58, p_X12_takesStyles_b78, p_X12_takesStyles_b98, z_b, z_n, ite_ap, m_gI m, y1, e1, if_false, m_gR m 48 (by decide), e2, m_sI m 48 101 (by decide) (show i < 101 by omega) (by decide), e3, m_gR m 29 (by decide), m_aI m 29 9 (by decide) (show k < 9 by omega) (by decide), e4, I_an, hg, tk1]
      | false =>
        rw [if_neg (show ¬ ¬ bI false = 0 by decide), if_neg (show ¬ (false = true) by decide)]
        simp only [e2]
        exact ih (k + 1) n hd (by omega) (by omega)
theorem nxG_run {i r : Nat} {s : Sty} (h1 : ¬ i < nxG W E bn sl i) (h2 : lowF W E i (bn i) sl 0 = some r) (h3 : sl.getD r ([], 0, []) = s) (hl : 1 ≤ s.1.length) : ∀ d, d < s.1.length → nxG W E bn sl (i + 1 + d) = i + s.1.length ∧ (0 < d → tkF W E bn sl (i + d) = none) := by
  intro d
  induction d with
  | zero =>
    intro _
    refine ⟨?_, fun q => absurd q (Nat.lt_irrefl _)⟩
    show nxG W E bn sl (i + 1) = _
    rw [nxG_succ, if_neg h1, h2]
    show i + (sl.getD r ([], 0, [])).1.length = _
    rw [h3]
  | succ d ih =>
    intro hd
    obtain ⟨a, -⟩ := ih (by omega)
    constructor
    · show nxG W E bn sl (i + 1 + d + 1) = _
      rw [nxG_succ, a, if_pos (by omega)]
    · intro _
      unfold tkF
      rw [show i + (d + 1) = i + 1 + d by omega, a, if_pos (by omega)]
/-- the loop over the words -/
theorem mtk25 (m : MAt h M ar) (N : SnOk sn bn nn) (hn : nn ≤ 50) :
    ∀ (n i : Nat) (f : FI), nn - i < n → i ≤ nn → nxG W E bn sl i ≤ i → RdM f ar M R sn nn → WdM f g ar W E nn → SyM f g ar M sl → (∀ j, j < i → f (ar 48) j = I (tk1 (tkF W E bn sl j))) → (∀ j, i ≤ j → j < nn → f (ar 48) j = 0) →
      ∃ f', p_X12_takesStyles_l25 n (some M) (I i) (hM h f g) = some ((), hM h f' g) ∧ (∀ j, j < nn → f' (ar 48) j = I (tk1 (tkF W E bn sl j))) ∧ MFr f f' g g ar M [] [48] := by
  intro n
  induction n with
  | zero => intro i f h1; exact absurd h1 (Nat.not_lt_zero _)
  | succ n ih =>
    intro i f hn' hi hnx D X Y Z0 Z1
    show ∃ f', p_X12_takesStyles_c25 (p_X12_takesStyles_l25 n) _ _ _ = _ ∧ _
    by_cases hin : i < nn
    · have e1 : ¬ I (nn : Int) ≤ I (i : Int) := by rw [I_le (by omega) (by omega)]; omega
      have lw := mlow35 m D N hn X Y hin (p_X12_takesStyles_l25 n) sl 0 zFuel rfl (by omega) (by have := Y.2.1; unfold zFuel; omega)
      have htk : tkF W E bn sl i = lowF W E i (bn i) sl 0 := by unfold tkF; rw [if_neg (by omega)]
      have F1 : MFr f (zu f (ar 48) i (I (tk1 (lowF W E i (bn i) sl 0)))) g g ar M [] [48] := MFr.sI m 48 _ _ (by decide) (by simp)
      have run : p_X12_takesStyles_c25 (p_X12_takesStyles_l25 n) (some M) (I i) (hM h f g) = p_X12_takesStyles_l25 n (some M) (I ((match lowF W E i (bn i) sl 0 with | none => i + 1 | some r => i + (sl.getD r ([], 0, [])).1.length : Nat) : Int)) (hM h (zu f (ar 48) i (I (tk1 (lowF W E i (bn i) sl 0)))) g) := by
        rw [← lw]
        simp only [p_X12_takesStyles_c25, z_b, ite_ap, m_gI m, D.1, e1, if_false]
        rfl
      have X' : WdM (zu f (ar 48) i (I (tk1 (lowF W E i (bn i) sl 0)))) g ar W E nn := fun j hj => by
        rw [(F1.at_ m (j := 46) (by decide) (by simp) (by decide)).1]; exact X j hj
      have Y' : SyM (zu f (ar 48) i (I (tk1 (lowF W E i (bn i) sl 0)))) g ar M sl := by
        refine ⟨by rw [(F1.1 26 (by simp)).1]; exact Y.1, Y.2.1, fun k s hk => ?_⟩
        obtain ⟨S, ho⟩ := Y.2.2 k s hk
        refine ⟨?_, ho⟩
        unfold StyM at S ⊢
        rw [(F1.at_ m (j := 29) (by decide) (by simp) (by decide)).1, (F1.at_ m (j := 30) (by decide) (by simp) (by decide)).1, (F1.at_ m (j := 27) (by decide) (by simp) (by decide)).1]
        exact S
      have goal : ∀ i' : Nat, i < i' → i' ≤ nn → nxG W E bn sl i' ≤ i' → (∀ j, i < j → j < i' → tkF W E bn sl j = none) → ∃ f', p_X12_takesStyles_l25 n (some M) (I i') (hM h (zu f (ar 48) i (I (tk1 (lowF W E i (bn i) sl 0)))) g) = some ((), hM h f' g) ∧ (∀ j, j < nn → f' (ar 48) j = I (tk1 (tkF W E bn sl j))) ∧ MFr f f' g g ar M [] [48] := by
        intro i' h1 h2 h3 h4
        obtain ⟨f', p1, p2, p3⟩ := ih i' _ (by omega) h2 h3 (D.fr F1 m (by simp) (by simp) (by simp) (by decide)) X' Y'
          (fun j hj => by
            rw [zu_cell]
            by_cases q : j = i
            · rw [if_pos q, q, htk]
            · rw [if_neg q]
              by_cases q2 : j < i
              · exact Z0 j q2
              · rw [h4 j (by omega) hj]
                exact Z1 j (by omega) (by omega))
          (fun j h5 h6 => by rw [zu_cell, if_neg (by omega)]; exact Z1 j (by omega) h6)
        exact ⟨f', p1, p2, F1.trans p3⟩
      rw [run]
      cases hlo : lowF W E i (bn i) sl 0 with
      | none =>
        rw [hlo] at goal
        refine goal (i + 1) (by omega) (by omega) ?_ (fun j h1 h2 => absurd h2 (by omega))
        rw [nxG_succ, if_neg (by omega), hlo]
        show nxG W E bn sl i ≤ i + 1
        omega
      | some r =>
        rw [hlo] at goal
        obtain ⟨s, s1, s2, s3, s4, s5⟩ := low_fit hlo
        have ho := (Y.2.2 r s s1).2
        have hbi := (N i hin).2.1
        have l1 := ho.1
        have rn := nxG_run (i := i) (r := r) (s := s) (by omega) hlo s5 l1
        show ∃ f', p_X12_takesStyles_l25 n (some M) (I ((i + (sl.getD r ([], 0, [])).1.length : Nat) : Int)) _ = _ ∧ _
        rw [s5]
        refine goal (i + s.1.length) (by omega) (by omega) ?_ (fun j h1 h2 => ?_)
        · have := (rn (s.1.length - 1) (by omega)).1
          rw [show i + 1 + (s.1.length - 1) = i + s.1.length by omega] at this
          omega
        · have := (rn (j - i) (by omega)).2 (by omega)
          rw [show i + (j - i) = j by omega] at this
          exact this
    · have hi' : i = nn := by omega
      have e1 : I (nn : Int) ≤ I (i : Int) := by rw [I_le (by omega) (by omega)]; omega
      refine ⟨f, ?_, fun j hj => Z0 j (by omega), MFr.refl _ _ _ _ _ _⟩
      simp only [p_X12_takesStyles_c25, z_b, z_rt, ite_ap, m_gI m, D.1, e1, if_true]
theorem mtk4 (m : MAt h M ar) (N : SnOk sn bn nn) (hn : nn ≤ 50) :
    ∀ (c k n : Nat) (f : FI), k + c = nn → c < n → RdM f ar M R sn nn → WdM f g ar W E nn → SyM f g ar M sl → (∀ j, j < k → f (ar 48) j = 0) →
      ∃ f', p_X12_takesStyles_l4 n (some M) 0 (I k) (hM h f g) = some ((), hM h f' g) ∧ (∀ j, j < nn → f' (ar 48) j = I (tk1 (tkF W E bn sl j))) ∧ MFr f f' g g ar M [] [48] := by
  intro c
  induction c with
  | zero =>
    intro k n f hk hn' D X Y Z
    obtain ⟨n, rfl⟩ := Nat.exists_eq_add_of_lt hn'
    have e1 : I (nn : Int) ≤ I (k : Int) := by rw [I_le (by omega) (by omega)]; omega
    obtain ⟨f', p1, p2, p3⟩ := mtk25 m N hn zFuel 0 f (by unfold zFuel; omega) (by omega) (Nat.le_refl _) D X Y (fun j hj => absurd hj (Nat.not_lt_zero _)) (fun j _ hj => Z j (by omega))
    refine ⟨f', ?_, p2, p3⟩
    have p1' : p_X12_takesStyles_l25 zFuel (some M) 0 (hM h f g) = some ((), hM h f' g) := p1
    show p_X12_takesStyles_c4 _ _ _ _ _ = _
    simp only [p_X12_takesStyles_c4, z_b, ite_ap, m_gI m, D.1, e1, if_true, p1']
  | succ c ih =>
    intro k n f hk hn' D X Y Z
    cases n with
    | zero => exact absurd hn' (Nat.not_lt_zero _)
    | succ n =>
      have e1 : ¬ I (nn : Int) ≤ I (k : Int) := by rw [I_le (by omega) (by omega)]; omega
      have e2 : I (k : Int) + 1 = I ((k + 1 : Nat) : Int) := I_add _ 1
      have F1 : MFr f (zu f (ar 48) k 0) g g ar M [] [48] := MFr.sI m 48 _ _ (by decide) (by simp)
      obtain ⟨f', p1, p2, p3⟩ := ih (k + 1) n (zu f (ar 48) k 0) (by omega) (by omega) (D.fr F1 m (by simp) (by simp) (by simp) (by decide))
        (fun j hj => by rw [(F1.at_ m (j := 46) (by decide) (by simp) (by decide)).1]; exact X j hj)
        (by
          refine ⟨by rw [(F1.1 26 (by simp)).1]; exact Y.1, Y.2.1, fun k' s hk' => ?_⟩
          obtain ⟨S, ho⟩ := Y.2.2 k' s hk'
          refine ⟨?_, ho⟩
          unfold StyM at S ⊢
          rw [(F1.at_ m (j := 29) (by decide) (by simp) (by decide)).1, (F1.at_ m (j := 30) (by decide) (by simp) (by decide)).1, (F1.at_ m (j := 27) (by decide) (by simp) (by decide)).1]
          exact S)
        (fun j hj => by
          rw [zu_cell]
          by_cases q : j = k
          · rw [if_pos q]
          · rw [if_neg q]; exact Z j (by omega))
      refine ⟨f', ?_, p2, F1.trans p3⟩
      rw [← p1]
      show p_X12_takesStyles_c4 (p_X12_takesStyles_l4 n) _ _ _ _ = _
      simp only [p_X12_takesStyles_c4, z_b, z_n, ite_ap, m_gI m, D.1, e1, if_false, m_gR m 48 (by decide), m_sI m 48 101 (by decide) (show k < 101 by omega) (by decide), e2]
theorem mtk_eq (m : MAt h M ar) (N : SnOk sn bn nn) (hn : nn ≤ 50) (D : RdM f ar M R sn nn) (X : WdM f g ar W E nn) (Y : SyM f g ar M sl) :
    ∃ f', p_X12_takesStyles (some M) (hM h f g) = some ((), hM h f' g) ∧ (∀ j, j < nn → f' (ar 48) j = I (tk1 (tkF W E bn sl j))) ∧ MFr f f' g g ar M [] [48] :=
  mtk4 m N hn nn 0 zFuel f (by omega) (by unfold zFuel; omega) D X Y (fun j hj => absurd hj (Nat.not_lt_zero _))
end
