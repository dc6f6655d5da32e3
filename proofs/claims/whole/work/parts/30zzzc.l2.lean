theorem ownA_get {os : List Ow} {w : Wd} {r i : Nat} : (ownA os w r)[i]? = if i = (fnx w os 0).getD os.length then some (w, r) else os[i]? := by
  unfold ownA
  cases q : fnx w os 0 with
  | none =>
    show (os ++ [(w, r)])[i]? = if i = os.length then _ else _
    by_cases e : i = os.length
    · rw [if_pos e, e, List.getElem?_append_right (Nat.le_refl _), Nat.sub_self]; rfl
    · rw [if_neg e]
      by_cases l : i < os.length
      · rw [List.getElem?_append_left l]
      · rw [List.getElem?_append_right (by omega), List.getElem?_eq_none (by rw [List.length_singleton]; omega), List.getElem?_eq_none (by omega)]
  | some k =>
    obtain ⟨hk, r0, h0⟩ := fnx_at q
    show (os.set k (w, r))[i]? = if i = k then _ else _
    rw [List.getElem?_set]
    by_cases e : k = i
    · rw [if_pos e, if_pos hk, if_pos e.symm]
    · rw [if_neg e, if_neg (fun z => e z.symm)]
section
variable {h : ZH} {M : Nat} {ar : Nat → Nat} {f f' : FI} {g g' : FL} {os bs : List Ow} {w : Wd}
theorem OwM.put (O : OwM f g ar M os) (r : Nat) (hl : (ownA os w r).length ≤ 10) (h17 : f' M 17 = I (ownA os w r).length) (h18 : ∀ i, g' (ar 18) i = if i = (fnx w os 0).getD os.length then J (mN w) else g (ar 18) i) (h19 : ∀ i, f' (ar 19) i = if i = (fnx w os 0).getD os.length then I r else f (ar 19) i) : OwM f' g' ar M (ownA os w r) := by
  refine ⟨h17, hl, fun i p hp => ?_⟩
  rw [ownA_get] at hp
  rw [h18, h19]
  by_cases e : i = (fnx w os 0).getD os.length
  · rw [if_pos e] at hp ⊢; rw [if_pos e]
    rw [← Option.some.inj hp]; exact ⟨rfl, rfl⟩
  · rw [if_neg e] at hp ⊢; rw [if_neg e]
    exact O.2.2 i p hp
theorem BaM.put (O : BaM f g ar M os) (r : Nat) (hl : (ownA os w r).length ≤ 10) (h17 : f' M 20 = I (ownA os w r).length) (h18 : ∀ i, g' (ar 21) i = if i = (fnx w os 0).getD os.length then J (mN w) else g (ar 21) i) : BaM f' g' ar M (ownA os w r) := by
  refine ⟨h17, hl, fun i p hp => ?_⟩
  rw [ownA_get] at hp
  rw [h18]
  by_cases e : i = (fnx w os 0).getD os.length
  · rw [if_pos e] at hp ⊢
    rw [← Option.some.inj hp]
  · rw [if_neg e] at hp ⊢
    exact O.2.2 i p hp
theorem OwM.del (O : OwM f g ar M os) {k : Nat} (q : fnx w os 0 = some k) (h17 : f' M 17 = I ((os.length - 1 : Nat) : Int)) (h18 : ∀ i, g' (ar 18) i = if i = k then g (ar 18) (os.length - 1) else g (ar 18) i) (h19 : ∀ i, f' (ar 19) i = if i = k then f (ar 19) (os.length - 1) else f (ar 19) i) : OwM f' g' ar M (delO os w) := by
  have hl : (delO os w).length = os.length - 1 := by rw [len_delO, if_neg (by rw [q]; simp)]
  have := O.2.1
  refine ⟨by rw [hl]; exact h17, by omega, fun i p hp => ?_⟩
  rw [delO_get q] at hp
  rw [h18, h19]
  by_cases c : i < os.length - 1
  · rw [if_pos c] at hp
    by_cases e : k = i
    · rw [if_pos e] at hp
      rw [if_pos e.symm, if_pos e.symm]; exact O.2.2 _ p hp
    · rw [if_neg e] at hp
      rw [if_neg (fun z => e z.symm), if_neg (fun z => e z.symm)]; exact O.2.2 _ p hp
  · rw [if_neg c] at hp; cases hp
theorem BaM.del (O : BaM f g ar M os) {k : Nat} (q : fnx w os 0 = some k) (h17 : f' M 20 = I ((os.length - 1 : Nat) : Int)) (h18 : ∀ i, g' (ar 21) i = if i = k then g (ar 21) (os.length - 1) else g (ar 21) i) : BaM f' g' ar M (delO os w) := by
  have hl : (delO os w).length = os.length - 1 := by rw [len_delO, if_neg (by rw [q]; simp)]
  have := O.2.1
  refine ⟨by rw [hl]; exact h17, by omega, fun i p hp => ?_⟩
  rw [delO_get q] at hp
  rw [h18]
  by_cases c : i < os.length - 1
  · rw [if_pos c] at hp
    by_cases e : k = i
    · rw [if_pos e] at hp
      rw [if_pos e.symm]; exact O.2.2 _ p hp
    · rw [if_neg e] at hp
      rw [if_neg (fun z => e z.symm)]; exact O.2.2 _ p hp
  · rw [if_neg c] at hp; cases hp
/-- the reference's own words take a word -/
theorem owns_eq (m : MAt h M ar) (R : ∀ p ∈ os, WdOk p.1) (O : OwM f g ar M os) (hw : WdOk w) (r : Nat) (room : (ownA os w r).length ≤ 10) :
    ∃ f' g', p_X12_owns (some M) (J (mN w)) (I r) (hM h f g) = some ((), hM h f' g') ∧ OwM f' g' ar M (ownA os w r) ∧ MFr f f' g g' ar M [17] [18, 19] := by
  have n19 := (m.2.1 19 (by decide)).2.2
  have n18 := (m.2.1 18 (by decide)).2.2
  have hl := O.2.1
  have F : ∀ (k : Nat) (v : Int32), MFr f (zu (zu f M 17 v) (ar 19) k (I r)) g (zu g (ar 18) k (J (mN w))) ar M [17] [18, 19] := fun k v => by
    refine ⟨fun j hj => ⟨?_, ?_⟩, fun b h1 h2 => ⟨?_, ?_⟩⟩
    · rw [zu_ne n19.symm, zu_cell, if_neg (fun q => hj (by simp [q]))]
    · rw [zu_ne n18.symm]
    · rw [zu_ne (fun q => h2 (by simp [q])), zu_ne h1]
    · rw [zu_ne (fun q => h2 (by simp [q]))]
  have oo := ownOf_eq (f := f) (g := g) m R O hw
  have om := oz_m1 (fnx_bd (w := w) hl)
  have put : ∀ (k : Nat) (v : Int32), k = (fnx w os 0).getD os.length → v = I (ownA os w r).length → OwM (zu (zu f M 17 v) (ar 19) k (I r)) (zu g (ar 18) k (J (mN w))) ar M (ownA os w r) := fun k v hk hv =>
    O.put r room (by rw [zu_ne n19.symm, zu_same, hv]) (fun i => by rw [zu_cell, hk]) (fun i => by rw [zu_cell, hk, zu_ne n19])
  cases q : fnx w os 0 with
  | none =>
    have e1 : I (os.length : Int) + 1 = I ((os.length + 1 : Nat) : Int) := I_add _ 1
    have la : (ownA os w r).length = os.length + 1 := by rw [len_ownA, if_pos q]
    refine ⟨_, _, ?_, put os.length (I ((os.length + 1 : Nat) : Int)) (by rw [q]; rfl) (by rw [la]), F _ _⟩
    have ol : os.length < 10 := by omega
    rw [q] at oo
    have e0 : I (oz none) = -1 := rfl
    simp only [p_X12_owns, p_X12_owns_b22, p_X12_owns_b43, z_b, z_rt, ite_ap, m_vr m, oo, e0, not_true_eq_false, if_false, m_gI m, O.1, e1, m_pI m, m_gR m 18 (by decide), m_gR m 19 (by decide), m_sL m 18 10 (by decide) ol (by decide), m_sI m 19 10 (by decide) ol (by decide)]
  | some k =>
    obtain ⟨hk, r0, h0⟩ := fnx_at q
    have la : (ownA os w r).length = os.length := by rw [len_ownA, if_neg (by rw [q]; simp)]
    have e1 : I (os.length : Int) + 0 = I (os.length : Int) := by rw [show (0 : Int32) = I ((0 : Nat) : Int) from rfl, I_an]; rfl
    have e2 : ¬ I (k : Int) = I (os.length : Int) := by rw [I_inj (by omega) (by omega)]; omega
    have e3 : I (oz (some k)) = I (k : Int) := rfl
    refine ⟨_, _, ?_, put k (I (os.length : Int)) (by rw [q]; rfl) (by rw [la]), F _ _⟩
    have k10 : k < 10 := by omega
    rw [q] at oo
    have nn : ¬ I (k : Int) = -1 := by rw [show (-1 : Int32) = I (-1) from rfl, I_inj (by omega) (by omega)]; omega
    simp only [p_X12_owns, p_X12_owns_b22, p_X12_owns_b43, z_b, z_rt, ite_ap, m_vr m, oo, e3, nn, not_false_eq_true, if_true, m_gI m, O.1, e2, e1, m_pI m, m_gR m 18 (by decide), m_gR m 19 (by decide), m_sL m 18 10 (by decide) k10 (by decide), m_sI m 19 10 (by decide) k10 (by decide)]
end
section
variable {H H' H1 : ZH} {B nc : Nat} {f f' : FI} {g g' : FL} {dw dw' : Wd} {sl sl' : List St} {rs rs' : List Ru} {al al' : Nat → Nat → Bool} {os bs ig os' bs' ig' : List Ow} {tl tl' : Nat → Nat} {sy sy' : List Sty} {dr dr' : List It} {t t' : List Nat} {lo lb li lo' lb' li' : Bk} {wl wl' : List Wd}
/-- the class's part with other books -/
theorem CC.bk (c : CC f B dw sl rs al os bs ig tl sy t lo lb li wl) (hd : f' B 10 = I (cN dw')) (h11 : f' B 11 = 0) (h12 : f' B 12 = -1) (h : ∀ b, B + 24 ≤ b → b < B + 92 → (b < B + 43 ∨ B + 48 ≤ b) → f' b = f b) (K : BoC f' B (madeOf rs sl []) lo' lb' li') (R : OwR lo' os' ∧ OwR lb' bs' ∧ IgR li' ig') (W : BkW (sugO lo' (sugM lb' (madeOf rs sl []) [])) wl') : CC f' B dw' sl rs al os' bs' ig' tl sy t lo' lb' li' wl' := by
  obtain ⟨c1, c2, c3, c4, c5, c6, c7, c8, c9, c10⟩ := c
  refine ⟨hd, K, R, W, ?_, ?_, c7.fr (fun a h1 h2 => h a (by omega) (by omega) (by omega)), ?_, Or.inl h11, Or.inl h12⟩
  · unfold AlC at *; rw [h (B + 26) (by omega) (by omega) (by omega)]; exact c5
  · unfold ToldC at *; rw [h (B + 39) (by omega) (by omega) (by omega)]; exact c6
  · rw [h (B + 71) (by omega) (by omega) (by omega), h (B + 73) (by omega) (by omega) (by omega)]; exact c8
theorem dft_nil (ok : AbOk dw sl rs os bs ig sy dr t nc) : ((I (cN dw) : Int32) = 1 ↔ dw = []) ∧ ((lg_cmp (J (mN dw)) 0 = 0) ↔ dw = []) := by
  have hr := cN_range ok.1.1 ok.1.2
  have hm := mN_range ok.1.1 (show dw.length ≤ 12 by have := ok.1.2; omega)
  constructor
  · rw [show (1 : Int32) = I ((1 : Nat) : Int) from rfl, I_inj (by omega) (by omega)]
    have := cN_inj ok.1.1 isW_nil
    have e : cN [] = 1 := rfl
    rw [e] at this
    constructor
    · intro z; exact this.mp (by omega)
    · intro z; have := this.mpr z; omega
  · rw [lgc_eq0, litJ, J_inj (by omega) (by omega)]
    have := mN_inj ok.1.1 isW_nil
    have e : mN [] = 0 := rfl
    rw [e] at this
    constructor
    · intro z; exact this.mp (by omega)
    · intro z; have := this.mpr z; omega
/-- the class's books take an own word -/
theorem cown (S : CS H B dw sl rs al os bs ig tl sy dr t lo lb li wl) (ok : AbOk dw sl rs os bs ig sy dr t nc) (K : BoC f B (madeOf rs sl []) lo lb li) {w : Wd} (hw : WdOk w) {r : Nat} (hr : r ≤ 7) (room : (ownA os w r).length ≤ 10) :
    ∃ f', p_X2_addOwn (some (B + 1)) (I (cN w)) (I r) (hI H f) = some ((), hI H f') ∧ BoC f' B (madeOf rs sl []) (bput lo (cN w) (2 ^ r)) (bdel lb (cN w)) li ∧ (∀ b, (b < B + 9 ∨ B + 24 ≤ b) → f' b = f b) := by
  have C := S.1
  have lx := C.2.1
  obtain ⟨k1, k2, k3, k4, k5⟩ := C.2.2.1
  have Ro : OwR lo os := S.2.2.2.1.2.2.1.1
  have hcr := cN_range hw.1 hw.2.2
  have rm : fnd lo (cN w) ∨ lo.length < 10 := by
    rw [fnd_hk Ro.2.2.1, hk_fnx Ro hw]
    rw [len_ownA] at room
    by_cases q : fnx w os 0 = none
    · right; rw [if_pos q] at room; have := Ro.2.2.2.2; omega
    · exact Or.inl q
  obtain ⟨f', p1, p2, p3, p4, p5⟩ := addOwn_eq lx k1 k2 k3 k4 (fun a ha q => by simp only [List.mem_cons, List.not_mem_nil, or_false] at ha q; omega) (fun a ha q => by simp only [List.mem_cons, List.not_mem_nil, or_false] at ha q; omega) (fun a ha q => by simp only [List.mem_cons, List.not_mem_nil, or_false] at ha q; omega) K.1 K.2.1 K.2.2.1 K.2.2.2.1 (w := cN w) (r := r) (by omega) (by omega) rm
  have fr : ∀ b, (b < B + 9 ∨ B + 24 ≤ b) → f' b = f b := fun b hb => p5 b (fun q => by simp only [List.mem_cons, List.not_mem_nil, or_false] at q; omega)
  refine ⟨f', p1, ⟨?_, p2, p3, p4, ?_⟩, fr⟩
  · have := K.1
    unfold BkIs at *
    rw [fr (B + 4) (by omega), fr (B + 6) (by omega), fr (B + 8) (by omega)]; exact this
  · have := K.2.2.2.2
    unfold BkIs at *
    rw [fr (B + 43) (by omega), fr (B + 45) (by omega), fr (B + 47) (by omega)]; exact this
/-- the class's books bar a word -/
theorem cbar (S : CS H B dw sl rs al os bs ig tl sy dr t lo lb li wl) (ok : AbOk dw sl rs os bs ig sy dr t nc) (K : BoC f B (madeOf rs sl []) lo lb li) {w : Wd} (hw : WdOk w) (room : (ownA bs w 0).length ≤ 10) :
    ∃ f', p_X2_addBarred (some (B + 1)) (I (cN w)) (hI H f) = some ((), hI H f') ∧ BoC f' B (madeOf rs sl []) (bdel lo (cN w)) (bput lb (cN w) (2 ^ 0)) li ∧ (∀ b, (b < B + 9 ∨ B + 24 ≤ b) → f' b = f b) := by
  have C := S.1
  have lx := C.2.1
  obtain ⟨k1, k2, k3, k4, k5⟩ := C.2.2.1
  have Rb : OwR lb bs := S.2.2.2.1.2.2.1.2.1
  have hcr := cN_range hw.1 hw.2.2
  have rm : fnd lb (cN w) ∨ lb.length < 10 := by
    rw [fnd_hk Rb.2.2.1, hk_fnx Rb hw]
    rw [len_ownA] at room
    by_cases q : fnx w bs 0 = none
    · right; rw [if_pos q] at room; have := Rb.2.2.2.2; omega
    · exact Or.inl q
  obtain ⟨f', p1, p2, p3, p4, p5⟩ := addBar_eq lx k1 k2 k3 k4 (fun a ha q => by simp only [List.mem_cons, List.not_mem_nil, or_false] at ha q; omega) (fun a ha q => by simp only [List.mem_cons, List.not_mem_nil, or_false] at ha q; omega) (fun a ha q => by simp only [List.mem_cons, List.not_mem_nil, or_false] at ha q; omega) K.1 K.2.1 K.2.2.1 K.2.2.2.1 (w := cN w) (by omega) rm
  have fr : ∀ b, (b < B + 9 ∨ B + 24 ≤ b) → f' b = f b := fun b hb => p5 b (fun q => by simp only [List.mem_cons, List.not_mem_nil, or_false] at q; omega)
  refine ⟨f', p1, ⟨?_, p2, p3, p4, ?_⟩, fr⟩
  · have := K.1
    unfold BkIs at *
    rw [fr (B + 4) (by omega), fr (B + 6) (by omega), fr (B + 8) (by omega)]; exact this
  · have := K.2.2.2.2
    unfold BkIs at *
    rw [fr (B + 43) (by omega), fr (B + 45) (by omega), fr (B + 47) (by omega)]; exact this
end
