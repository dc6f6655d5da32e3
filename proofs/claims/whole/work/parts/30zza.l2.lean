/-! ===== suggestions: the class ===== -/
def insA {α : Type} (t : List α) (p : Nat) (c : α) : List α := t.take p ++ c :: t.drop p
theorem insA_app {α : Type} (a b : List α) (c : α) : insA (a ++ b) a.length c = a ++ c :: b := by
  unfold insA
  rw [List.take_append_of_le_length (Nat.le_refl _), List.take_length, List.drop_append, List.drop_length, Nat.sub_self, List.drop_zero, List.nil_append]
theorem insA_get {α : Type} {t : List α} {p : Nat} {c : α} (hp : p ≤ t.length) (i : Nat) : (insA t p c)[i]? = if i < p then t[i]? else if i = p then some c else t[i - 1]? := by
  unfold insA
  have hl : (t.take p).length = p := by rw [List.length_take]; omega
  by_cases h1 : i < p
  · rw [if_pos h1, List.getElem?_append_left (by omega), List.getElem?_take, if_pos h1]
  · rw [if_neg h1, List.getElem?_append_right (by omega), hl]
    by_cases h2 : i = p
    · rw [if_pos h2, h2, Nat.sub_self]; rfl
    · rw [if_neg h2, show i - p = (i - p - 1) + 1 by omega, List.getElem?_cons_succ, List.getElem?_drop, show p + (i - p - 1) = i - 1 by omega]
section
variable (cs : Wd → Nat)
def grp (ws : List Wd) (c : Nat) : List Wd := ws.filter (fun w => cs w == c)
/-- cheapest first, in their order each -/
def catW (ws : List Wd) : List Wd := grp cs ws 1 ++ (grp cs ws 2 ++ (grp cs ws 3 ++ grp cs ws 4))
/-- how many cost c or less -/
def upT (ws : List Wd) : Nat → Nat
  | 0 => 0
  | c + 1 => upT ws c + (grp cs ws (c + 1)).length
end
section
variable {cs : Wd → Nat}
theorem grp_snoc (ws : List Wd) (w : Wd) (c : Nat) : grp cs (ws ++ [w]) c = grp cs ws c ++ if cs w = c then [w] else [] := by
  unfold grp
  rw [List.filter_append]
  congr 1
  by_cases q : cs w = c
  · rw [if_pos q, List.filter_cons, if_pos (beq_iff_eq.mpr q)]; rfl
  · rw [if_neg q, List.filter_cons, if_neg (fun z => q (beq_iff_eq.mp z))]; rfl
theorem catW_len (ws : List Wd) : (catW cs ws).length = upT cs ws 4 := by
  unfold catW
  rw [List.length_append, List.length_append, List.length_append]
  show _ = 0 + (grp cs ws 1).length + (grp cs ws 2).length + (grp cs ws 3).length + (grp cs ws 4).length
  omega
theorem upT_snoc (ws : List Wd) (w : Wd) : ∀ c, upT cs (ws ++ [w]) c = upT cs ws c + if 1 ≤ cs w ∧ cs w ≤ c then 1 else 0 := by
  intro c
  induction c with
  | zero =>
    show 0 = 0 + _
    rw [if_neg (by omega)]
  | succ c ih =>
    show upT cs (ws ++ [w]) c + (grp cs (ws ++ [w]) (c + 1)).length = upT cs ws c + (grp cs ws (c + 1)).length + _
    rw [ih, grp_snoc, List.length_append]
    by_cases q : cs w = c + 1
    · rw [if_pos q, if_neg (by omega), if_pos (by omega)]; rfl
    · rw [if_neg q]
      by_cases z : 1 ≤ cs w ∧ cs w ≤ c
      · rw [if_pos z, if_pos (by omega)]; simp only [List.length_nil]; omega
      · rw [if_neg z, if_neg (by omega)]; rfl
theorem up1 (ws : List Wd) : upT cs ws 1 = (grp cs ws 1).length := Nat.zero_add _
theorem up2 (ws : List Wd) : upT cs ws 2 = (grp cs ws 1 ++ grp cs ws 2).length := by
  rw [List.length_append, ← up1]; rfl
theorem up3 (ws : List Wd) : upT cs ws 3 = (grp cs ws 1 ++ grp cs ws 2 ++ grp cs ws 3).length := by
  rw [List.length_append, ← up2]; rfl
theorem up4 (ws : List Wd) : upT cs ws 4 = (grp cs ws 1 ++ grp cs ws 2 ++ grp cs ws 3 ++ grp cs ws 4).length := by
  rw [List.length_append, ← up3]; rfl
theorem catW_snoc (ws : List Wd) (w : Wd) (h : 1 ≤ cs w ∧ cs w ≤ 4) : catW cs (ws ++ [w]) = insA (catW cs ws) (upT cs ws (cs w)) w := by
  unfold catW
  rw [grp_snoc, grp_snoc, grp_snoc, grp_snoc]
  have h4 : cs w = 1 ∨ cs w = 2 ∨ cs w = 3 ∨ cs w = 4 := by omega
  rcases h4 with q | q | q | q <;> rw [q] <;> simp only [if_true, if_false, List.append_nil, show ¬ (1 = 2) by decide, show ¬ (1 = 3) by decide, show ¬ (1 = 4) by decide, show ¬ (2 = 1) by decide, show ¬ (2 = 3) by decide, show ¬ (2 = 4) by decide, show ¬ (3 = 1) by decide, show ¬ (3 = 2) by decide, show ¬ (3 = 4) by decide, show ¬ (4 = 1) by decide, show ¬ (4 = 2) by decide, show ¬ (4 = 3) by decide]
  · refine Eq.trans (b := grp cs ws 1 ++ w :: (grp cs ws 2 ++ (grp cs ws 3 ++ grp cs ws 4))) (by simp) ?_
    rw [up1]
    exact (insA_app _ _ w).symm
  · refine Eq.trans (b := (grp cs ws 1 ++ grp cs ws 2) ++ w :: (grp cs ws 3 ++ grp cs ws 4)) (by simp) ?_
    rw [up2, show grp cs ws 1 ++ (grp cs ws 2 ++ (grp cs ws 3 ++ grp cs ws 4)) = (grp cs ws 1 ++ grp cs ws 2) ++ (grp cs ws 3 ++ grp cs ws 4) by simp]
    exact (insA_app _ _ w).symm
  · refine Eq.trans (b := (grp cs ws 1 ++ grp cs ws 2 ++ grp cs ws 3) ++ w :: grp cs ws 4) (by simp) ?_
    rw [up3, show grp cs ws 1 ++ (grp cs ws 2 ++ (grp cs ws 3 ++ grp cs ws 4)) = (grp cs ws 1 ++ grp cs ws 2 ++ grp cs ws 3) ++ grp cs ws 4 by simp]
    exact (insA_app _ _ w).symm
  · refine Eq.trans (b := (grp cs ws 1 ++ grp cs ws 2 ++ grp cs ws 3 ++ grp cs ws 4) ++ w :: []) (by simp) ?_
    rw [up4, show grp cs ws 1 ++ (grp cs ws 2 ++ (grp cs ws 3 ++ grp cs ws 4)) = (grp cs ws 1 ++ grp cs ws 2 ++ grp cs ws 3 ++ grp cs ws 4) ++ [] by simp]
    exact (insA_app _ _ w).symm
theorem grp_out (ws : List Wd) (w : Wd) (h : ¬ (1 ≤ cs w ∧ cs w ≤ 4)) : catW cs (ws ++ [w]) = catW cs ws := by
  unfold catW
  rw [grp_snoc, grp_snoc, grp_snoc, grp_snoc, if_neg (show ¬ cs w = 1 by omega), if_neg (show ¬ cs w = 2 by omega), if_neg (show ¬ cs w = 3 by omega), if_neg (show ¬ cs w = 4 by omega)]
  simp
theorem upT_le4 (ws : List Wd) {c : Nat} (h : c ≤ 4) : upT cs ws c ≤ (catW cs ws).length := by
  rw [catW_len]
  show _ ≤ 0 + (grp cs ws 1).length + (grp cs ws 2).length + (grp cs ws 3).length + (grp cs ws 4).length
  have h4 : c = 0 ∨ c = 1 ∨ c = 2 ∨ c = 3 ∨ c = 4 := by omega
  rcases h4 with q | q | q | q | q <;> subst q
  · exact Nat.zero_le _
  · show 0 + (grp cs ws 1).length ≤ _; omega
  · show 0 + (grp cs ws 1).length + (grp cs ws 2).length ≤ _; omega
  · show 0 + (grp cs ws 1).length + (grp cs ws 2).length + (grp cs ws 3).length ≤ _; omega
  · exact Nat.le_refl _
end
section
variable {h : ZH} {gx : Nat} {rw ar : Nat → Nat} {cs : Wd → Nat}
/-- suggestions listed so far -/
def SuC (f : FI) (gx : Nat) (ar : Nat → Nat) (cs : Wd → Nat) (ws : List Wd) : Prop := f gx 7 = I (catW cs ws).length ∧ (∀ (i : Nat) (w : Wd), (catW cs ws)[i]? = some w → f (ar 4) i = I (cN w)) ∧ ∀ c, 1 ≤ c → c ≤ 4 → f (ar 5) c = I (upT cs ws c)
theorem SuC.fr {f f' : FI} {ws : List Wd} {ss as : List Nat} (S : SuC f gx ar cs ws) (F : OFr f f' gx ar ss as) (o : Ob h 9 gx rw ar uSz) (h7 : 7 ∉ ss) (h4 : 4 ∉ as) (h5 : 5 ∉ as) (h3 : ∀ i ∈ as, uSz i ≠ 0) : SuC f' gx ar cs ws := by
  refine ⟨by rw [F.1 7 h7]; exact S.1, fun i w hw => ?_, fun c h1 h2 => ?_⟩
  · rw [F.at_ o (j := 4) (by decide) h4 h3]; exact S.2.1 i w hw
  · rw [F.at_ o (j := 5) (by decide) h5 h3]; exact S.2.2 c h1 h2
theorem as32 (o : Ob h 9 gx rw ar uSz) (U : Nat → Nat) (c0 : Nat) (hc0 : 1 ≤ c0) :
    ∀ (d c n : Nat) (f : FI), c + d = 5 → c0 ≤ c → d < n → (∀ x, 1 ≤ x → x ≤ 4 → f (ar 5) x = I ((U x + if c0 ≤ x ∧ x < c then 1 else 0 : Nat) : Int)) →
      ∃ f', p_X8_addSuggestion_l32 n (some gx) (I c) (hI h f) = some ((), hI h f') ∧ (∀ x, 1 ≤ x → x ≤ 4 → f' (ar 5) x = I ((U x + if c0 ≤ x then 1 else 0 : Nat) : Int)) ∧ OFr f f' gx ar [] [5] := by
  intro d
  induction d with
  | zero =>
    intro c n f hd hc hn X
    obtain ⟨n, rfl⟩ := Nat.exists_eq_add_of_lt hn
    have e1 : (4 : Int32) < I (c : Int) := by rw [lit, I_lt (by decide) (by omega)]; omega
    refine ⟨f, ?_, fun x h1 h2 => ?_, OFr.refl _ _ _ _ _⟩
    · show p_X8_addSuggestion_c32 _ _ _ _ = _
      simp only [p_X8_addSuggestion_c32, z_rt, ite_ap, e1, if_true]
    · rw [X x h1 h2]
      by_cases q : c0 ≤ x
      · rw [if_pos ⟨q, by omega⟩, if_pos q]
      · rw [if_neg (fun z => q z.1), if_neg q]
  | succ d ih =>
    intro c n f hd hc hn X
    cases n with
    | zero => exact absurd hn (Nat.not_lt_zero _)
    | succ n =>
      have e1 : ¬ (4 : Int32) < I (c : Int) := by rw [lit, I_lt (by decide) (by omega)]; omega
      have e2 : I (c : Int) + 1 = I ((c + 1 : Nat) : Int) := I_add _ 1
      have Xc := X c (by omega) (by omega)
      rw [if_neg (by omega)] at Xc
      have e3 : I ((U c + 0 : Nat) : Int) + 1 = I ((U c + 1 : Nat) : Int) := I_add _ 1
      have F1 : OFr f (zu f (ar 5) c (I ((U c + 1 : Nat) : Int))) gx ar [] [5] := OFr.sI o 5 _ _ (by decide) (by simp)
      obtain ⟨f', p1, p2, p3⟩ := ih (c + 1) n (zu f (ar 5) c (I ((U c + 1 : Nat) : Int))) (by omega) (by omega) (by omega) (fun x h1 h2 => by
        rw [zu_cell]
        by_cases q : x = c
        · rw [if_pos q, if_pos (by omega), q]
        · rw [if_neg q, X x h1 h2]
          by_cases z : c0 ≤ x ∧ x < c
          · rw [if_pos z, if_pos (by omega)]
          · rw [if_neg z, if_neg (by omega)])
      refine ⟨f', ?_, p2, F1.trans p3⟩
      rw [← p1]
      show p_X8_addSuggestion_c32 (p_X8_addSuggestion_l32 n) _ _ _ = _
      simp only [p_X8_addSuggestion_c32, z_b, z_n, ite_ap, e1, if_false, o_gR o 5 (by decide), o_rv o 5 (by decide), o_get o 5 5 rfl (show c < 5 by omega), Xc, e3, o_set o 5 5 rfl (show c < 5 by omega), e2]
theorem as_eq (o : Ob h 9 gx rw ar uSz) {f : FI} {ws : List Wd} (S : SuC f gx ar cs ws) {w : Wd} (hc : 1 ≤ cs w ∧ cs w ≤ 4) (hl : (catW cs ws).length < 1558) :
    ∃ f', p_X8_addSuggestion (some gx) (I (cN w)) (I (cs w)) (hI h f) = some ((), hI h f') ∧ SuC f' gx ar cs (ws ++ [w]) ∧ OFr f f' gx ar [7] [4, 5] := by
  obtain ⟨s1, s2, s3⟩ := S
  have hu := upT_le4 (cs := cs) ws hc.2
  have n4x := o_nx o (j := 4) (by decide)
  have n5x := o_nx o (j := 5) (by decide)
  have n45 := o_ne o (i := 4) (j := 5) (by decide) (by decide) (by decide)
  have e2 : I ((catW cs ws).length : Int) + 1 = I (((catW cs ws).length + 1 : Nat) : Int) := I_add _ 1
  have hlen : (catW cs (ws ++ [w])).length = (catW cs ws).length + 1 := by
    rw [catW_len, catW_len, upT_snoc, if_pos hc]
  obtain ⟨f', p1, p2, p3⟩ := as32 (h := h) o (upT cs ws) (cs w) hc.1 (5 - cs w) (cs w) zFuel (zu (zw f (ar 4) (insF (f (ar 4)) (upT cs ws (cs w)) (catW cs ws).length (I (cN w)))) gx 7 (I (((catW cs ws).length + 1 : Nat) : Int))) (by omega) (Nat.le_refl _) (by unfold zFuel; omega)
    (fun x h1 h2 => by rw [if_neg (by omega), zu_ne n5x, zw_ne n45.symm]; exact s3 x h1 h2)
  refine ⟨f', ?_, ⟨?_, fun i x hx => ?_, fun c h1 h2 => ?_⟩, ((OFr.sW o 4 _ (by decide) (by simp)).trans (OFr.pI 7 _ (by simp))).trans (p3.mono (by simp) (by simp))⟩
  · have e3 : p_X4_insert (some (rw 4)) (I (upT cs ws (cs w))) (I (cN w)) (I (catW cs ws).length) (hI h f) = _ := row_insertN (o.2.1 4 (by decide)).2.1 hu (show (catW cs ws).length < uSz 4 from hl) (I (cN w))
    have e4 : zw f (ar 4) (insF (f (ar 4)) (upT cs ws (cs w)) (catW cs ws).length (I (cN w))) gx 7 = I (catW cs ws).length := by rw [zw_ne n4x.symm]; exact s1
    rw [← p1]
    simp only [p_X8_addSuggestion, z_b, o_gR o 4 (by decide), o_gR o 5 (by decide), o_rv o 5 (by decide), o_get o 5 5 rfl (show cs w < 5 by omega), s3 (cs w) hc.1 hc.2, o_gI o, s1, o_rv o 4 (by decide), e3, e4, e2, o_pI o]
  · rw [p3.1 7 (by simp), zu_same, hlen]
  · rw [p3.at_ o (j := 4) (by decide) (by simp) (by decide), zu_ne n4x, zw_same]
    rw [catW_snoc ws w hc, insA_get hu] at hx
    unfold insF
    by_cases q : i < upT cs ws (cs w)
    · rw [if_pos q] at hx ⊢
      exact s2 i x hx
    · rw [if_neg q] at hx ⊢
      by_cases z : i = upT cs ws (cs w)
      · rw [if_pos z] at hx ⊢
        cases hx; rfl
      · rw [if_neg z] at hx ⊢
        have := lt_of_get hx
        rw [if_pos (by omega)]
        exact s2 _ x hx
  · rw [p2 c h1 h2, upT_snoc]
    by_cases q : cs w ≤ c
    · rw [if_pos q, if_pos ⟨hc.1, q⟩]
    · rw [if_neg q, if_neg (fun z => q z.2)]
end
