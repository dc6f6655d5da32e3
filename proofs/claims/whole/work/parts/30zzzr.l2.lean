theorem insT_sg {t : List Nat} {p c : Nat} (h : ∀ d ∈ t, isSg d) (hc : isSg c) : ∀ d ∈ insT t p c, isSg d := fun d hd => by
  unfold insT at hd
  rcases List.mem_append.mp hd with q | q
  · exact h d (List.mem_of_mem_take q)
  · rcases List.mem_cons.mp q with q | q
    · rw [q]; exact hc
    · exact h d (List.mem_of_mem_drop q)
theorem remT_sg {t : List Nat} {p : Nat} (h : ∀ d ∈ t, isSg d) : ∀ d ∈ remT t p, isSg d := fun d hd => by
  unfold remT at hd
  rcases List.mem_append.mp hd with q | q
  · exact h d (List.mem_of_mem_take q)
  · exact h d (List.mem_of_mem_drop q)
section
variable {H H' H1 : ZH} {B nc : Nat} {f f' : FI} {g g' : FL} {dw dw' : Wd} {sl sl' : List St} {rs rs' : List Ru} {al al' : Nat → Nat → Bool} {os bs ig os' bs' ig' : List Ow} {tl tl' : Nat → Nat} {sy sy' : List Sty} {dr dr' : List It} {t t' : List Nat} {lo lb li lo' lb' li' : Bk} {wl wl' : List Wd}
/-- the class's part with another text -/
theorem CC.tx (c : CC f B dw sl rs al os bs ig tl sy t lo lb li wl) (hd : f' B 10 = I (cN dw')) (h11 : f' B 11 = 0) (h12 : f' B 12 = -1) (h : ∀ b, B < b → b < B + 48 → f' b = f b) (F : FoC f' (B + 48) (arL (B + 48)) t') (z : f' (B + 71) 0 = 0 ∧ f' (B + 73) 0 = 0) : CC f' B dw' sl rs al os bs ig tl sy t' lo lb li wl := by
  obtain ⟨c1, c2, c3, c4, c5, c6, c7, c8, c9, c10⟩ := c
  refine ⟨hd, c2.fr (fun a h1 h2 => h a (by omega) (by omega)), c3, c4, ?_, ?_, F, z, Or.inl h11, Or.inl h12⟩
  · unfold AlC at *; rw [h (B + 26) (by omega) (by omega)]; exact c5
  · unfold ToldC at *; rw [h (B + 39) (by omega) (by omega)]; exact c6
/-- the text before becomes like the text -/
theorem cbefore (C : CSh H B) (F : FoC f (B + 48) (arL (B + 48)) t) (hs : ∀ c ∈ t, isSg c) (z : f (B + 71) 0 = 0 ∧ f (B + 73) 0 = 0) :
    ∃ f', p_X9_becomeLike (some (B + 61)) (some (B + 48)) (hI H f) = some ((), hI H f') ∧ FoS f' (B + 61) (arL (B + 61)) t ∧ ∀ b, b < B + 61 ∨ B + 74 ≤ b → f' b = f b := by
  have T : TxC f (B + 48) (arL (B + 48)) t := F.1
  obtain ⟨f', p1, p2, p3⟩ := bl_eq C.ot C.ob ⟨by unfold arL; omega, by omega, fun j hj => ⟨by unfold arL; omega, by unfold arL; omega⟩⟩ hs T z.1 z.2
  refine ⟨f', p1, p2, fun b hb => p3.2 b (by omega) (fun q => ?_)⟩
  obtain ⟨j, j1, j2⟩ := List.mem_map.mp q
  simp only [List.mem_cons, List.not_mem_nil, or_false] at j1
  unfold arL at j2
  omega
/-- after an edit the words are found again, what was found is forgotten, what has to be checked is counted -/
theorem ccheck (C : CSh H B) (T : TxC f (B + 48) (arL (B + 48)) t') (z : f (arL (B + 48) 4) 0 = 0 ∧ f (arL (B + 48) 5) 0 = 0) (hs : ∀ c ∈ t', isSg c) (F : FoS f (B + 61) (arL (B + 61)) t) :
    ∃ f', p_X11_checkEdit (some B) (hI H f) = some (I (chkF t' t), hI H f') ∧ FoC f' (B + 48) (arL (B + 48)) t' ∧ f' B 11 = 0 ∧ f' B 12 = -1 ∧ (∀ j, j ≠ 11 → j ≠ 12 → f' B j = f B j) ∧ ∀ b, b ≠ B → b < B + 48 ∨ B + 61 ≤ b → f' b = f b := by
  obtain ⟨f1, p1, p2, p3⟩ := fw_eqS C.ot hs T z.1 z.2
  have n : ∀ b, b < B + 48 ∨ B + 61 ≤ b → f1 b = f b := fun b hb => p3.1 b (fun q => by
    simp only [List.mem_cons, List.not_mem_nil, or_false, arL] at q
    omega)
  have F1 : FoS (fgt f1 B) (B + 48) (arL (B + 48)) t' := p2.fr (fun a h1 h2 => fgt_ne (by omega))
  have F2 : FoS (fgt f1 B) (B + 61) (arL (B + 61)) t := F.fr (fun a h1 h2 => (fgt_ne (by omega)).trans (n a (by omega)))
  have wc := wc_eq (h := H) C.ot C.ob F1 F2
  refine ⟨fgt f1 B, ?_, F1.toC, fgt_11, fgt_12, fun j h1 h2 => by rw [fgt_j h1 h2, n B (by omega)], fun b h1 h2 => (fgt_ne h1).trans (n b h2)⟩
  have vr5 : ∀ (α : Type) (k : ZM α) (f : FI), z_vr 10 (some (B + cRf 5)) k (hI H f) = k (hI H f) := fun α k f => o_vr C.ot k
  have p1' : p_X9_findWords (some (B + cRf 5)) (hI H f) = some ((), hI H f1) := p1
  have wc' : p_X9_wordsCheckedSince (some (B + cRf 5)) (some (B + cRf 6)) (hI H (fgt f1 B)) = some (I (chkF t' t), hI H (fgt f1 B)) := wc
  simp only [p_X11_checkEdit, z_b, z_rt, x_gR C 5 (by decide), x_gR C 6 (by decide), vr5, p1', x_vr C, forget_eq C, wc']
/-- an edit of the text: the class -/
theorem cedit (S : CS H B dw sl rs al os bs ig tl sy dr t lo lb li wl) (ok : AbOk dw sl rs os bs ig sy dr t nc) (hs' : ∀ c ∈ t', isSg c) {ed : ZM Unit} (hed : ∀ f, TxC f (B + 48) (arL (B + 48)) t → WsC f (B + 48) (arL (B + 48)) (wsOf t) → ∃ f', ed (hI H f) = some ((), hI H f') ∧ TxC f' (B + 48) (arL (B + 48)) t' ∧ OFr f f' (B + 48) (arL (B + 48)) [6] [0]) :
    ∃ f1 f2 f', p_X9_becomeLike (some (B + 61)) (some (B + 48)) (hI H (zI H)) = some ((), hI H f1) ∧ ed (hI H f1) = some ((), hI H f2) ∧ p_X11_checkEdit (some B) (hI H f2) = some (I (chkF t' t), hI H f') ∧ CS (hI H f') B dw sl rs al os bs ig tl sy dr t' lo lb li wl ∧ KC H (hI H f') B := by
  have cc := S.2.2.2.1
  have F : FoC (zI H) (B + 48) (arL (B + 48)) t := cc.2.2.2.2.2.2.1
  have hs := ok.2.2.2.2.2.2.1
  obtain ⟨f1, p1, p2, p3⟩ := cbefore S.1 F hs cc.2.2.2.2.2.2.2.1
  have F1 : FoC f1 (B + 48) (arL (B + 48)) t := F.fr (fun a h1 h2 => p3 a (by omega))
  obtain ⟨f2, q1, q2, q3⟩ := hed f1 F1.1 F1.2.2.1
  have n2 : ∀ b, b ≠ B + 48 → b ≠ arL (B + 48) 0 → f2 b = f1 b := fun b h1 h2 => q3.2 b h1 (fun q => h2 (by simpa using q))
  have z2 : f2 (arL (B + 48) 4) 0 = 0 ∧ f2 (arL (B + 48) 5) 0 = 0 := by
    rw [n2 _ (by unfold arL; omega) (by unfold arL; omega), n2 _ (by unfold arL; omega) (by unfold arL; omega)]
    exact ⟨F1.2.2.2.2.1, F1.2.2.2.2.2.1⟩
  have B2 : FoS f2 (B + 61) (arL (B + 61)) t := p2.fr (fun a h1 h2 => n2 a (by omega) (by unfold arL; omega))
  obtain ⟨f', r1, r2, r3, r4, r5, r6⟩ := ccheck S.1 q2 z2 hs' B2
  have fr : ∀ b, b ≠ B → b < B + 48 ∨ B + 74 ≤ b → f' b = zI H b := fun b h1 h2 => (r6 b h1 (by omega)).trans ((n2 b (by omega) (by unfold arL; omega)).trans (p3 b (by omega)))
  have fB : ∀ j, j ≠ 11 → j ≠ 12 → f' B j = zI H B j := fun j h1 h2 => by rw [r5 j h1 h2, n2 B (by omega) (by unfold arL; omega), p3 B (by omega)]
  have c' : CC f' B dw sl rs al os bs ig tl sy t' lo lb li wl := by
    refine cc.tx (by rw [fB 10 (by decide) (by decide)]; exact cc.1) r3 r4 (fun b h1 h2 => fr b (by omega) (by omega)) r2 ?_
    have e1 : f' (B + 71) = f2 (B + 71) := r6 _ (by omega) (by omega)
    have e2 : f' (B + 73) = f2 (B + 73) := r6 _ (by omega) (by omega)
    rw [e1, e2]
    exact ⟨B2.2.2.2.2.1, B2.2.2.2.2.2.1⟩
  refine ⟨f1, f2, f', p1, q1, r1, S.ints c' (fun b hb => fr b (fun q => hb (AA_mem.mpr (by omega))) ?_), KC.ints (fun b h1 h2 => fr b (by omega) (by omega))⟩
  by_cases q : B + 48 ≤ b ∧ b < B + 74
  · exact absurd (AA_mem.mpr (by omega)) hb
  · omega
end
