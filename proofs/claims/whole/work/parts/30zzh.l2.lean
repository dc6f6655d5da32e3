/-! ===== the words that may be suggested ===== -/
theorem hk_sugO (t : Bk) : ∀ (l : Bk) (c : Nat), hk (sugO t l) c ↔ hk l c ∨ hk t c := by
  induction t with
  | nil =>
    intro l c
    exact Iff.intro Or.inl (fun q => q.elim id (fun ⟨e, he, _⟩ => by cases he))
  | cons e t ih =>
    intro l c
    show hk (sugO t (bput l e.1 1)) c ↔ _
    rw [ih, hk_bput]
    constructor
    · rintro ((q | q) | ⟨x, x1, x2⟩)
      · exact Or.inr ⟨e, List.mem_cons_self, q.symm⟩
      · exact Or.inl q
      · exact Or.inr ⟨x, List.mem_cons_of_mem _ x1, x2⟩
    · rintro (q | ⟨x, x1, x2⟩)
      · exact Or.inl (Or.inr q)
      · rcases List.mem_cons.mp x1 with z | z
        · exact Or.inl (Or.inl (by rw [← x2, z]))
        · exact Or.inr ⟨x, z, x2⟩
theorem hk_fold (t : Bk) : ∀ (l : Bk) (c : Nat), hk (t.foldl (fun l e => bput l e.1 1) l) c ↔ hk l c ∨ hk t c := hk_sugO t
theorem hk_sugM (lb t l : Bk) (c : Nat) : hk (sugM lb t l) c ↔ hk l c ∨ ∃ v, (c, v) ∈ t ∧ v / 65536 % 2 = 1 ∧ bget lb c = 0 := by
  unfold sugM
  rw [hk_fold]
  constructor
  · rintro (q | ⟨x, x1, x2⟩)
    · exact Or.inl q
    · rw [List.mem_filter, Bool.and_eq_true, beq_iff_eq, beq_iff_eq] at x1
      refine Or.inr ⟨x.2, ?_, x1.2.1, ?_⟩
      · rw [← x2]; exact x1.1
      · rw [← x2]; exact x1.2.2
  · rintro (q | ⟨v, v1, v2, v3⟩)
    · exact Or.inl q
    · refine Or.inr ⟨(c, v), ?_, rfl⟩
      rw [List.mem_filter, Bool.and_eq_true, beq_iff_eq, beq_iff_eq]
      exact ⟨v1, v2, v3⟩
theorem SB_foldl (t : Bk) : ∀ (l : Bk), SB l → SB (t.foldl (fun l e => bput l e.1 1) l) := by
  induction t with
  | nil => intro l h; exact h
  | cons e t ih => intro l h; exact ih _ (SB_bput h _ _)
theorem SB_sug (lo lb lm : Bk) : SB (sugO lo (sugM lb lm [])) := SB_foldl lo _ (SB_foldl _ _ List.Pairwise.nil)
/-- a book whose numbers are those of words -/
theorem words_of : ∀ {l : Bk}, (∀ c, hk l c → ∃ w, WdOk w ∧ c = cN w) → ∃ wl, BkW l wl := by
  intro l
  induction l with
  | nil => intro _; exact ⟨[], rfl, fun w hw => by cases hw⟩
  | cons e t ih =>
    intro h
    obtain ⟨w, w1, w2⟩ := h e.1 ⟨e, List.mem_cons_self, rfl⟩
    obtain ⟨wl, a, b⟩ := ih (fun c ⟨x, x1, x2⟩ => h c ⟨x, List.mem_cons_of_mem _ x1, x2⟩)
    refine ⟨w :: wl, ?_, fun x hx => ?_⟩
    · show e.1 :: t.map Prod.fst = cN w :: wl.map cN
      rw [a, w2]
    · rcases List.mem_cons.mp hx with q | q
      · rw [q]; exact w1
      · exact b x q
theorem BkW_mem {l : Bk} {wl : List Wd} (B : BkW l wl) {w : Wd} (hw : WdOk w) : w ∈ wl ↔ hk l (cN w) := by
  constructor
  · intro h
    have : cN w ∈ l.map Prod.fst := by rw [B.1]; exact List.mem_map.mpr ⟨w, h, rfl⟩
    obtain ⟨e, e1, e2⟩ := List.mem_map.mp this
    exact ⟨e, e1, e2⟩
  · rintro ⟨e, e1, e2⟩
    have : cN w ∈ wl.map cN := by rw [← B.1]; exact List.mem_map.mpr ⟨e, e1, e2⟩
    obtain ⟨x, x1, x2⟩ := List.mem_map.mp this
    have : x = w := (cN_inj (B.2 x x1).1 hw.1).mp x2
    rw [← this]; exact x1
theorem BkW_pw {l : Bk} {wl : List Wd} (B : BkW l wl) (hs : SB l) : wl.Pairwise (fun a b => mN a < mN b) := by
  have h1 : (l.map Prod.fst).Pairwise (fun a b => a < b) := by rw [List.pairwise_map]; exact hs
  rw [B.1, List.pairwise_map] at h1
  refine List.Pairwise.imp_of_mem ?_ h1
  intro a b ha hb hab
  exact (cm_order (B.2 a ha).1 (B.2 b hb).1).mp hab
/-- what the class's suggestable words are -/
theorem sug_words {lm lo lb : Bk} {os bs : List Ow} (hs : SB lm) (hm : ∀ c, hk lm c → ∃ w, WdOk w ∧ c = cN w) (Ro : OwR lo os) (Rb : OwR lb bs) :
    ∃ wl, BkW (sugO lo (sugM lb lm [])) wl ∧ wl.Pairwise (fun a b => mN a < mN b) ∧ ∀ w, WdOk w → (w ∈ wl ↔ (bget lm (cN w) / 65536 % 2 = 1 ∧ fnx w bs 0 = none) ∨ fnx w os 0 ≠ none) := by
  have key : ∀ c, hk (sugO lo (sugM lb lm [])) c ↔ (∃ v, (c, v) ∈ lm ∧ v / 65536 % 2 = 1 ∧ bget lb c = 0) ∨ hk lo c := fun c => by
    rw [hk_sugO, hk_sugM]
    constructor
    · rintro ((⟨e, he, _⟩ | q) | q)
      · cases he
      · exact Or.inl q
      · exact Or.inr q
    · rintro (q | q)
      · exact Or.inl (Or.inr q)
      · exact Or.inr q
  obtain ⟨wl, B⟩ := words_of (l := sugO lo (sugM lb lm [])) (fun c hc => by
    rcases (key c).mp hc with ⟨v, v1, -⟩ | ⟨e, e1, e2⟩
    · exact hm c ⟨(c, v), v1, rfl⟩
    · obtain ⟨p, p1, p2, p3⟩ := (Ro.2.2.2.1 e.1 e.2).mp e1
      exact ⟨p.1, (Ro.2.1 p p1).1, by rw [← e2, p2]⟩)
  refine ⟨wl, B, BkW_pw B (SB_sug _ _ _), fun w hw => ?_⟩
  rw [BkW_mem B hw, key]
  have hb : bget lb (cN w) = 0 ↔ fnx w bs 0 = none := by
    rw [ow_get Rb hw]
    cases q : fnx w bs 0 with
    | none => exact Iff.intro (fun _ => rfl) (fun _ => rfl)
    | some k =>
      refine Iff.intro (fun z => ?_) (fun z => by cases z)
      have : 0 < 2 ^ (bs.getD k ([], 0)).2 := Nat.pow_pos (by decide)
      have z' : 2 ^ (bs.getD k ([], 0)).2 = 0 := z
      omega
  have ho : hk lo (cN w) ↔ fnx w os 0 ≠ none := by
    rw [ow_hk Ro hw]
    constructor
    · rintro ⟨p, p1, p2⟩ q
      exact fnx_none.mp q p p1 p2
    · intro q
      exact Classical.byContradiction (fun z => q (fnx_none.mpr (fun p hp hpw => z ⟨p, hp, hpw⟩)))
  constructor
  · rintro (⟨v, v1, v2, v3⟩ | q)
    · left
      rw [bget_mem hs v1]
      exact ⟨v2, hb.mp v3⟩
    · exact Or.inr (ho.mp q)
  · rintro (⟨q1, q2⟩ | q)
    · left
      have hh : hk lm (cN w) := Classical.byContradiction (fun z => by rw [bget_none z] at q1; simp at q1)
      obtain ⟨e, e1, e2⟩ := hh
      refine ⟨e.2, by rw [← e2]; exact e1, ?_, hb.mpr q2⟩
      have : bget lm (cN w) = e.2 := by rw [← e2]; exact bget_mem hs e1
      rw [← this]; exact q1
    · exact Or.inr (ho.mpr q)
/-- words in the book of made words -/
theorem made_words {rs : List Ru} (hr : ∀ r ∈ rs, RuOk r) : ∀ (ss : List St) (l : Bk), (∀ s ∈ ss, StOk s) → SB l ∧ (∀ c, hk l c → ∃ w, WdOk w ∧ c = cN w) → SB (madeOf rs ss l) ∧ ∀ c, hk (madeOf rs ss l) c → ∃ w, WdOk w ∧ c = cN w := by
  have step : ∀ (es : List Ev) (is : Nat) (l : Bk), (∀ e ∈ es, EvOk e) → SB l ∧ (∀ c, hk l c → ∃ w, WdOk w ∧ c = cN w) → SB (es.foldl (addEv is) l) ∧ ∀ c, hk (es.foldl (addEv is) l) c → ∃ w, WdOk w ∧ c = cN w := by
    intro es is
    induction es with
    | nil => intro l _ h; exact h
    | cons e t ih =>
      intro l he h
      refine ih _ (fun x hx => he x (List.mem_cons_of_mem _ hx)) ⟨SB_bput h.1 _ _, fun c hc => ?_⟩
      rcases hk_bput.mp hc with q | q
      · have := he e List.mem_cons_self
        exact ⟨e.1, ⟨this.1, this.2.1, this.2.2.1⟩, q⟩
      · exact h.2 c q
  have begsok : ∀ (fl : Nat) (e : Ev), EvOk e → ∀ x ∈ begs rs fl e, EvOk x := by
    intro fl e he x hx
    unfold begs at hx
    rcases List.mem_cons.mp hx with q | q
    · rw [q]; exact he
    · obtain ⟨r, r1, r2⟩ := List.mem_filterMap.mp q
      exact rev_ok he (hr r r1) r2
  intro ss
  induction ss with
  | nil => intro l _ h; exact h
  | cons s t ih =>
    intro l hs h
    have ho := hs s List.mem_cons_self
    have e0 := st_ok_ev ho
    refine ih _ (fun x hx => hs x (List.mem_cons_of_mem _ hx)) (step (evs rs s) s.is l (fun e he => ?_) h)
    unfold evs at he
    rcases List.mem_append.mp he with q | q
    · exact begsok _ _ e0 e q
    · obtain ⟨r, r1, r2⟩ := List.mem_flatMap.mp q
      unfold ends at r2
      cases hv : rev true s.flags (s.w, s.kind, s.form) r with
      | none => rw [hv] at r2; cases r2
      | some e1 =>
        rw [hv] at r2
        have he1 := rev_ok e0 (hr r r1) hv
        rcases List.mem_append.mp r2 with z | z
        · exact begsok _ _ he1 e z
        · unfold secs at z
          obtain ⟨e2, z1, z2⟩ := List.mem_flatMap.mp z
          obtain ⟨r', y1, y2⟩ := List.mem_filterMap.mp z1
          exact begsok _ _ (rev_ok he1 (hr r' y1) y2) e z2
section
variable {h : ZH} {gx : Nat} {rw ar : Nat → Nat} {cs : Wd → Nat}
theorem catW_cost {wl : List Wd} {i : Nat} {w : Wd} (hw : (catW cs wl)[i]? = some w) : 1 ≤ cs w ∧ cs w ≤ 4 ∧ upT cs wl (cs w - 1) ≤ i ∧ i < upT cs wl (cs w) := by
  have gc : ∀ {c k : Nat} {x : Wd}, (grp cs wl c)[k]? = some x → cs x = c := fun {c k x} hx => by
    have := (List.mem_filter.mp (List.mem_of_getElem? hx)).2
    simpa using this
  have u1 := up1 (cs := cs) wl
  have u2 : upT cs wl 2 = upT cs wl 1 + (grp cs wl 2).length := rfl
  have u3 : upT cs wl 3 = upT cs wl 2 + (grp cs wl 3).length := rfl
  have u4 : upT cs wl 4 = upT cs wl 3 + (grp cs wl 4).length := rfl
  unfold catW at hw
  by_cases q1 : i < (grp cs wl 1).length
  · rw [List.getElem?_append_left q1] at hw
    have := gc hw
    rw [this]
    exact ⟨by omega, by omega, Nat.zero_le _, by omega⟩
  · rw [List.getElem?_append_right (by omega)] at hw
    by_cases q2 : i - (grp cs wl 1).length < (grp cs wl 2).length
    · rw [List.getElem?_append_left q2] at hw
      have := gc hw
      rw [this]
      exact ⟨by omega, by omega, by show upT cs wl 1 ≤ i; omega, by omega⟩
    · rw [List.getElem?_append_right (by omega)] at hw
      by_cases q3 : i - (grp cs wl 1).length - (grp cs wl 2).length < (grp cs wl 3).length
      · rw [List.getElem?_append_left q3] at hw
        have := gc hw
        rw [this]
        exact ⟨by omega, by omega, by show upT cs wl 2 ≤ i; omega, by omega⟩
      · rw [List.getElem?_append_right (by omega)] at hw
        have := gc hw
        have hl := lt_of_get hw
        rw [this]
        exact ⟨by omega, by omega, by show upT cs wl 3 ≤ i; omega, by omega⟩
theorem upT_mono (wl : List Wd) : ∀ d c, upT cs wl c ≤ upT cs wl (c + d) := by
  intro d
  induction d with
  | zero => intro c; exact Nat.le_refl _
  | succ d ih => intro c; have := ih c; show _ ≤ upT cs wl (c + d) + (grp cs wl (c + d + 1)).length; omega
/-- what a listed word costs -/
theorem col_l (o : Ob h 9 gx rw ar uSz) {f : FI} {wl : List Wd} (S : SuC f gx ar cs wl) (hb : ∀ c, c ≤ 4 → upT cs wl c < 100000) {i : Nat} {w : Wd} (hw : (catW cs wl)[i]? = some w) :
    ∀ (d c n : Nat), c + d = cs w → 1 ≤ c → d < n → p_X8_costOfListed_l2 n (some gx) (I i) (I c) (hI h f) = some (I (cs w), hI h f) := by
  obtain ⟨h1, h2, h3, h4⟩ := catW_cost hw
  have hi : i < 100000 := by have := hb (cs w) h2; omega
  intro d
  induction d with
  | zero =>
    intro c n hc h1c hn
    obtain ⟨n, rfl⟩ := Nat.exists_eq_add_of_lt hn
    have hcc : c = cs w := by omega
    subst hcc
    show p_X8_costOfListed_c2 _ _ _ _ _ = _
    by_cases q : 4 ≤ cs w
    · have e1 : (4 : Int32) ≤ I (cs w : Int) := by rw [lit, I_le (by decide) (by omega)]; omega
      simp only [p_X8_costOfListed_c2, ite_ap, e1, if_true, z_rt]
    · have e1 : ¬ (4 : Int32) ≤ I (cs w : Int) := by rw [lit, I_le (by decide) (by omega)]; omega
      have hbc := hb (cs w) h2
      have e2 : I (i : Int) < I (upT cs wl (cs w) : Int) := by rw [I_lt (by omega) (by omega)]; omega
      simp only [p_X8_costOfListed_c2, z_b, z_rt, ite_ap, e1, if_false, o_gR o 5 (by decide), o_rv o 5 (by decide), o_get o 5 5 rfl (show cs w < 5 by omega), S.2.2 (cs w) h1c h2, e2, if_true]
  | succ d ih =>
    intro c n hc h1c hn
    cases n with
    | zero => exact absurd hn (Nat.not_lt_zero _)
    | succ n =>
      have e1 : ¬ (4 : Int32) ≤ I (c : Int) := by rw [lit, I_le (by decide) (by omega)]; omega
      have e3 : I (c : Int) + 1 = I ((c + 1 : Nat) : Int) := I_add _ 1
      have hbc := hb c (by omega)
      have hm := upT_mono (cs := cs) wl (cs w - 1 - c) c
      rw [show c + (cs w - 1 - c) = cs w - 1 by omega] at hm
      have e2 : ¬ I (i : Int) < I (upT cs wl c : Int) := by rw [I_lt (by omega) (by omega)]; omega
      show p_X8_costOfListed_c2 (p_X8_costOfListed_l2 n) _ _ _ _ = _
      simp only [p_X8_costOfListed_c2, z_b, z_n, ite_ap, e1, if_false, o_gR o 5 (by decide), o_rv o 5 (by decide), o_get o 5 5 rfl (show c < 5 by omega), S.2.2 c h1c (by omega), e2, e3]
      exact ih (c + 1) n (by omega) (by omega) (by omega)
theorem col_eq (o : Ob h 9 gx rw ar uSz) {f : FI} {wl : List Wd} (S : SuC f gx ar cs wl) (hb : (catW cs wl).length < 100000) {i : Nat} {w : Wd} (hw : (catW cs wl)[i]? = some w) : p_X8_costOfListed (some gx) (I i) (hI h f) = some (I (cs w), hI h f) := by
  have h1 := catW_cost hw
  exact col_l o S (fun c hc => Nat.lt_of_le_of_lt (upT_le4 (cs := cs) wl hc) hb) hw (cs w - 1) 1 zFuel (by omega) (Nat.le_refl _) (by unfold zFuel; omega)
end
