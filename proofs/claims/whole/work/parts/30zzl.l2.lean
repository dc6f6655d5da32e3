/-! ===== the class's state ===== -/
section
variable {H : ZH} {B : Nat} {f : FI}
theorem x_gR (C : CSh H B) (j : Nat) (hj : j < 9) : z_gR 12 j (some B) (hI H f) = some (some (B + cRf j), hI H f) := by
  have e : zR (hI H f) B j = some (B + cRf j) := C.1.2.1 j hj
  exact (if_pos C.1.1).trans (by rw [e])
theorem x_gI (C : CSh H B) (j : Nat) : z_gI 12 j (some B) (hI H f) = some (f B j, hI H f) := if_pos C.1.1
theorem x_pI (C : CSh H B) (j : Nat) (v : Int32) : z_pI 12 j (some B) v (hI H f) = some ((), hI H (zu f B j v)) := if_pos C.1.1
theorem x_pZ (C : CSh H B) (j : Nat) {v : Int32} (hv : v = 0 ∨ v = 1) : z_pZ 12 j (some B) v (hI H f) = some ((), hI H (zu f B j v)) := if_pos ⟨C.1.1, hv⟩
theorem x_vr (C : CSh H B) {α : Type} (k : ZM α) : z_vr 12 (some B) k (hI H f) = k (hI H f) := if_pos C.1.1
theorem lx_vr (C : CSh H B) {α : Type} (k : ZM α) : z_vr 3 (some (B + 1)) k (hI H f) = k (hI H f) := if_pos C.2.1.1
theorem CSh.og (C : CSh H B) : Ob H 1 (B + 37) (rwL (B + 37)) (arL (B + 37)) gSz := C.2.2.2.2.1
theorem CSh.ot (C : CSh H B) : Ob H 10 (B + 48) (rwL (B + 48)) (arL (B + 48)) tSz := C.2.2.2.2.2.1
theorem CSh.ob (C : CSh H B) : Ob H 10 (B + 61) (rwL (B + 61)) (arL (B + 61)) tSz := C.2.2.2.2.2.2.1
theorem CSh.oh (C : CSh H B) : Ob H 2 (B + 74) (rwL (B + 74)) (arL (B + 74)) hSz := C.2.2.2.2.2.2.2.1
theorem CSh.op (C : CSh H B) : Ob H 4 (B + 79) (rwL (B + 79)) (arL (B + 79)) pSz := C.2.2.2.2.2.2.2.2
theorem CSh.os (C : CSh H B) : Ob H 9 (B + 24) (rwL (B + 24)) (arL (B + 24)) uSz := C.2.2.2.1
theorem djL {sz sz' : Nat → Nat} {n n' a a' : Nat} (h1 : ∀ j, sz j ≠ 0 → j < n) (h2 : ∀ j, sz' j ≠ 0 → j < n') (h : a + 2 * n < a' ∨ a' + 2 * n' < a) : Dj a (arL a) sz a' (arL a') sz' := by
  refine ⟨by omega, fun j hj => ?_, fun i hi => ?_, fun i j hi hj => ?_⟩
  · have := h2 j hj; unfold arL; omega
  · have := h1 i hi; unfold arL; omega
  · have := h1 i hi; have := h2 j hj; unfold arL; omega
theorem d_gp (B : Nat) : Dj (B + 37) (arL (B + 37)) gSz (B + 79) (arL (B + 79)) pSz := djL (fun j => gSz_lt) (fun j => pSz_lt) (by omega)
theorem d_tp (B : Nat) : Dj (B + 48) (arL (B + 48)) tSz (B + 79) (arL (B + 79)) pSz := djL (fun j => tSz_lt) (fun j => pSz_lt) (by omega)
theorem d_tg (B : Nat) : Dj (B + 48) (arL (B + 48)) tSz (B + 37) (arL (B + 37)) gSz := djL (fun j => tSz_lt) (fun j => gSz_lt) (by omega)
theorem d_ts (B : Nat) : Dj (B + 48) (arL (B + 48)) tSz (B + 24) (arL (B + 24)) uSz := djL (fun j => tSz_lt) (fun j => uSz_lt) (by omega)
/-- what proofreading finds -/
def PrC (f : FI) (B : Nat) (R tl : Nat → Nat) (t : List Nat) (sy : List Sty) : Prop := (∀ i, i < (wsOf t).length → f (arL (B + 79) 0) i = I (R i)) ∧ RcC f (arL (B + 79)) tl R t sy (wsOf t).length ∧ MkC f (B + 79) (arL (B + 79)) (mkA R (brB tl R (snT t) (bnT t)) (tkF (wdT t) (chE tl R (snT t) (bnT t)) (bnT t) sy) (wsOf t).length 0)
/-- the books: made, owned, barred, suggestable, ignored -/
def BoC (f : FI) (B : Nat) (lm lo lb li : Bk) : Prop := BkIs f (B + 4) (B + 6) (B + 8) 1548 lm ∧ BkIs f (B + 9) (B + 11) (B + 13) 10 lo ∧ BkIs f (B + 14) (B + 16) (B + 18) 10 lb ∧ BkIs f (B + 19) (B + 21) (B + 23) 1558 (sugO lo (sugM lb lm [])) ∧ BkIs f (B + 43) (B + 45) (B + 47) 512 li
/-- the cells that proofreading changes -/
def PA (B : Nat) : List Nat := [B, B + 79, B + 41, B + 81, B + 83, B + 85, B + 87, B + 89, B + 91]
theorem BoC.fr {f f' : FI} {lm lo lb li : Bk} (b : BoC f B lm lo lb li) (h : ∀ a, B + 4 ≤ a → a < B + 24 ∨ (B + 43 ≤ a ∧ a < B + 48) → f' a = f a) : BoC f' B lm lo lb li := by
  unfold BoC BkIs at *
  rw [h (B + 4) (by omega) (by omega), h (B + 6) (by omega) (by omega), h (B + 8) (by omega) (by omega), h (B + 9) (by omega) (by omega), h (B + 11) (by omega) (by omega), h (B + 13) (by omega) (by omega), h (B + 14) (by omega) (by omega), h (B + 16) (by omega) (by omega), h (B + 18) (by omega) (by omega), h (B + 19) (by omega) (by omega), h (B + 21) (by omega) (by omega), h (B + 23) (by omega) (by omega), h (B + 43) (by omega) (by omega), h (B + 45) (by omega) (by omega), h (B + 47) (by omega) (by omega)]
  exact b
theorem FoC.fr {f f' : FI} {tx : Nat} {t : List Nat} (F : FoC f tx (arL tx) t) (h : ∀ a, tx ≤ a → a < tx + 13 → f' a = f a) : FoC f' tx (arL tx) t := by
  unfold FoC TxC WsC EsW at *
  rw [h tx (by omega) (by omega), h (arL tx 0) (by unfold arL; omega) (by unfold arL; omega), h (arL tx 1) (by unfold arL; omega) (by unfold arL; omega), h (arL tx 2) (by unfold arL; omega) (by unfold arL; omega), h (arL tx 3) (by unfold arL; omega) (by unfold arL; omega), h (arL tx 4) (by unfold arL; omega) (by unfold arL; omega), h (arL tx 5) (by unfold arL; omega) (by unfold arL; omega)]
  exact F
theorem FoS.fr {f f' : FI} {tx : Nat} {t : List Nat} (F : FoS f tx (arL tx) t) (h : ∀ a, tx ≤ a → a < tx + 13 → f' a = f a) : FoS f' tx (arL tx) t := by
  unfold FoS TxC WsC EsC at *
  rw [h tx (by omega) (by omega), h (arL tx 0) (by unfold arL; omega) (by unfold arL; omega), h (arL tx 1) (by unfold arL; omega) (by unfold arL; omega), h (arL tx 2) (by unfold arL; omega) (by unfold arL; omega), h (arL tx 3) (by unfold arL; omega) (by unfold arL; omega), h (arL tx 4) (by unfold arL; omega) (by unfold arL; omega), h (arL tx 5) (by unfold arL; omega) (by unfold arL; omega)]
  exact F
/-- the class reads a word -/
theorem crd_eq (C : CSh H B) {lm lo lb li : Bk} (K : BoC f B lm lo lb li) {w : Wd} (hw : isW w) : p_X2_readingsOf (some (B + 1)) (I (cC w)) (hI H f) = some (I (rdW lm lo lb w), hI H f) := by
  unfold cC rdW
  by_cases hl : w.length ≤ 10
  · rw [if_pos hl, if_pos hl]
    exact readings_eq C.2.1 C.2.2.1.1 C.2.2.1.2.1 C.2.2.1.2.2.1 K.1 K.2.1 K.2.2.1 hw hl
  · rw [if_neg hl, if_neg hl]
    exact readings_0 _ _
variable {lm lo lb li : Bk} {os bs : List Ow} {tl : Nat → Nat} {t : List Nat} {sy : List Sty} {A : List Nat}
theorem pr10 (C : CSh H B) (Ro : OwR lo os) (hA : ∀ a ∈ PA B, a ∈ A) (hs8 : sy.length ≤ 8) (ht : t.length ≤ 100) :
    ∀ (c k n : Nat) (f : FI), k + c = (wsOf t).length → c < n → BoC f B lm lo lb li → FoC f (B + 48) (arL (B + 48)) t → ToldC f (arL (B + 37) 0) tl → SyIs H f (B + 42) sy A → (∀ i, i < k → f (arL (B + 79) 0) i = I (rdW lm lo lb (wdT t i))) →
      ∃ f', p_X11_proofread_l10 n (some B) (I k) (hI H f) = some ((), hI H f') ∧ f' B 11 = 1 ∧ (∀ j, j ≠ 11 → f' B j = f B j) ∧ PrC f' B (fun i => rdW lm lo lb (wdT t i)) tl t sy ∧ Fr f f' (PA B) := by
  have w50 := ws_100 ht
  intro c
  induction c with
  | zero =>
    intro k n f hk hn K F T S X
    obtain ⟨n, rfl⟩ := Nat.exists_eq_add_of_lt hn
    have e1 : I ((wsOf t).length : Int) ≤ I (k : Int) := by rw [I_le (by omega) (by omega)]; omega
    have hR : ∀ i, i < (wsOf t).length → rdW lm lo lb (wdT t i) < 256 := fun i hi => by
      obtain ⟨w, w1, w2, w3, w4, w5, w6⟩ := ws_at hi
      rw [w2]; exact rdW_lt Ro w4 w5
    obtain ⟨f1, v1, v2, v3, v4, v5⟩ := read_eq (h := H) (tl := tl) (R := fun i => rdW lm lo lb (wdT t i)) C.ot C.og C.op (d_gp B) (d_tp B) (d_tg B) (A := A) ⟨hA _ (by simp [PA, arL]), hA _ (by simp [PA, arL]), hA _ (by simp [PA, arL]), hA _ (by simp [PA, arL])⟩ hs8 hR F T S (fun i hi => X i (by omega))
    have e7 : f (B + 48) 7 = I (wsOf t).length := F.2.2.1.1
    have nB : ∀ a, B < a → zu f1 B 11 1 a = f1 a := fun a ha => zu_ne (by omega) _ _
    refine ⟨zu f1 B 11 1, ?_, zu_same _ _ _ _, fun j hj => ?_, ⟨fun i hi => ?_, fun i hi => ?_, ?_⟩, ?_⟩
    · have v1' : p_X3_read (some (B + cRf 8)) (some (B + cRf 5)) (some (B + cRf 2)) (some (B + cRf 3)) (hI H f) = some ((), hI H f1) := v1
      have vr8 : ∀ (α : Type) (k : ZM α), z_vr 4 (some (B + cRf 8)) k (hI H f) = k (hI H f) := fun α k => o_vr C.op k
      have vr5 : ∀ (α : Type) (k : ZM α), z_vr 10 (some (B + cRf 5)) k (hI H f) = k (hI H f) := fun α k => o_vr C.ot k
      have gi5 : z_gI 10 7 (some (B + cRf 5)) (hI H f) = some (f (B + 48) 7, hI H f) := o_gI C.ot 7
      show p_X11_proofread_c10 _ _ _ _ = _
      simp only [p_X11_proofread_c10, p_X11_proofread_b50, p_X9_wordCount, z_b, z_rt, ite_ap, x_gR C 5 (by decide), x_gR C 8 (by decide), x_gR C 2 (by decide), x_gR C 3 (by decide), vr5, gi5, e7, e1, if_true, vr8, v1', x_pZ C 11 (Or.inr rfl)]
    · rw [zu_cell, if_neg hj, v5 B]
      simp only [List.mem_cons, List.not_mem_nil, or_false, not_or, arL]
      omega
    · rw [nB _ (by unfold arL; omega), v5 (arL (B + 79) 0)]
      · exact X i (by omega)
      · simp only [List.mem_cons, List.not_mem_nil, or_false, not_or, arL]
        omega
    · rw [nB _ (by unfold arL; omega), nB _ (by unfold arL; omega), nB _ (by unfold arL; omega)]
      exact v2 i hi
    · unfold MkC
      rw [nB _ (by omega), nB _ (by unfold arL; omega), nB _ (by unfold arL; omega)]
      exact v3
    · intro b hb
      simp only [PA, List.mem_cons, List.not_mem_nil, or_false, not_or] at hb
      rw [zu_ne hb.1, v5 b]
      simp only [List.mem_cons, List.not_mem_nil, or_false, not_or, arL]
      omega
  | succ c ih =>
    intro k n f hk hn K F T S X
    cases n with
    | zero => exact absurd hn (Nat.not_lt_zero _)
    | succ n =>
      have hkl : k < (wsOf t).length := by omega
      have e1 : ¬ I ((wsOf t).length : Int) ≤ I (k : Int) := by rw [I_le (by omega) (by omega)]; omega
      have e2 : I (k : Int) + 1 = I ((k + 1 : Nat) : Int) := I_add _ 1
      have e7 : f (B + 48) 7 = I (wsOf t).length := F.2.2.1.1
      obtain ⟨w, w1, w2, w3, w4, w5, w6⟩ := ws_at hkl
      obtain ⟨-, -, z3⟩ := F.2.2.1.2 k w w1
      have rd := crd_eq (f := f) C K w4
      rw [← w2] at rd z3
      have k50 : k < 50 := by omega
      have F1 : Fr f (zu f (B + 81) k (I (rdW lm lo lb (wdT t k)))) (PA B) := Fr.zu (by simp [PA])
      have nn : ∀ a, a ≠ B + 81 → zu f (B + 81) k (I (rdW lm lo lb (wdT t k))) a = f a := fun a ha => zu_ne ha _ _
      obtain ⟨f', p1, p2, p3, p4, p5⟩ := ih (k + 1) n (zu f (B + 81) k (I (rdW lm lo lb (wdT t k)))) (by omega) (by omega) (K.fr (fun a h1 h2 => nn a (by omega))) (F.fr (fun a h1 h2 => nn a (by omega)))
        (fun i hi => by rw [nn _ (by unfold arL; omega)]; exact T i hi) (S.fr (F1.mono hA))
        (fun i hi => by
          show zu f (B + 81) k _ (B + 81) i = _
          rw [zu_cell]
          by_cases q : i = k
          · rw [if_pos q, q]
          · rw [if_neg q]; exact X i (by omega))
      refine ⟨f', ?_, p2, fun j hj => by rw [p3 j hj, nn B (by omega)], p4, F1.trans p5⟩
      rw [← p1]
      have vr8 : ∀ (α : Type) (k : ZM α), z_vr 4 (some (B + cRf 8)) k (hI H f) = k (hI H f) := fun α k => o_vr C.op k
      have vr5 : ∀ (α : Type) (k : ZM α), z_vr 10 (some (B + cRf 5)) k (hI H f) = k (hI H f) := fun α k => o_vr C.ot k
      have vr0 : ∀ (α : Type) (k : ZM α), z_vr 3 (some (B + cRf 0)) k (hI H f) = k (hI H f) := fun α k => lx_vr C k
      have gi5 : z_gI 10 7 (some (B + cRf 5)) (hI H f) = some (f (B + 48) 7, hI H f) := o_gI C.ot 7
      have wn : p_X9_wordNumbered (some (B + cRf 5)) (I k) (hI H f) = some (I (cC (wdT t k)), hI H f) := by
        show p_X9_wordNumbered (some (B + 48)) (I k) (hI H f) = _
        simp only [p_X9_wordNumbered, z_b, z_rt, o_gR C.ot 3 (by decide), o_rv C.ot 3 (by decide), o_get C.ot 3 50 rfl k50, z3]
      have rd' : p_X2_readingsOf (some (B + cRf 0)) (I (cC (wdT t k))) (hI H f) = _ := rd
      have sr : p_X3_setReadings (some (B + cRf 8)) (I k) (I (rdW lm lo lb (wdT t k))) (hI H f) = some ((), hI H (zu f (B + 81) k (I (rdW lm lo lb (wdT t k))))) := by
        show p_X3_setReadings (some (B + 79)) _ _ _ = _
        have st := o_set (f := f) C.op 0 50 rfl k50 (I (rdW lm lo lb (wdT t k)))
        simp only [p_X3_setReadings, z_b, z_rt, o_gR C.op 0 (by decide), o_rv C.op 0 (by decide), st]
        rfl
      show p_X11_proofread_c10 (p_X11_proofread_l10 n) _ _ _ = _
      simp only [p_X11_proofread_c10, p_X9_wordCount, z_b, z_rt, z_n, ite_ap, x_gR C 5 (by decide), x_gR C 8 (by decide), x_gR C 0 (by decide), vr5, gi5, e7, e1, if_false, wn, vr0, rd', vr8, sr, e2]
/-- the class has read the text -/
theorem proof_eq (C : CSh H B) (Ro : OwR lo os) (hA : ∀ a ∈ PA B, a ∈ A) (hs8 : sy.length ≤ 8) {f : FI} (K : BoC f B lm lo lb li) (F : FoC f (B + 48) (arL (B + 48)) t) (T : ToldC f (arL (B + 37) 0) tl) (S : SyIs H f (B + 42) sy A) (hP : f B 11 = 0 ∨ f B 11 = 1 ∧ PrC f B (fun i => rdW lm lo lb (wdT t i)) tl t sy) :
    ∃ f', p_X11_proofread (some B) (hI H f) = some ((), hI H f') ∧ f' B 11 = 1 ∧ (∀ j, j ≠ 11 → f' B j = f B j) ∧ PrC f' B (fun i => rdW lm lo lb (wdT t i)) tl t sy ∧ Fr f f' (PA B) := by
  rcases hP with q | ⟨q1, q2⟩
  · obtain ⟨f', p1, p2⟩ := pr10 (li := li) C Ro hA hs8 F.1.2.1 (wsOf t).length 0 zFuel f (by omega) (by have := ws_100 F.1.2.1; unfold zFuel; omega) K F T S (fun i hi => absurd hi (Nat.not_lt_zero _))
    refine ⟨f', ?_, p2⟩
    rw [← p1]
    simp only [p_X11_proofread, z_b, ite_ap, x_gI C, q, if_true]
    rfl
  · refine ⟨f, ?_, q1, fun _ _ => rfl, q2, Fr.refl _ _⟩
    have n1 : ¬ ((1 : Int32) = 0) := by decide
    simp only [p_X11_proofread, z_b, z_rt, ite_ap, x_gI C, q1, n1, if_false]
end
