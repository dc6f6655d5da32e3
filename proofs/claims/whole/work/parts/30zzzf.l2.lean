theorem nd_len : ∀ (l m : List Nat), l.Nodup → (∀ x ∈ l, x ∈ m) → l.length ≤ m.length
  | [], _, _, _ => Nat.zero_le _
  | x :: l, m, hn, hs => by
    have hn' := List.nodup_cons.mp hn
    have hx := hs x (by simp)
    have ih := nd_len l (m.erase x) hn'.2 (fun y hy => by
      have : y ≠ x := fun e => hn'.1 (e ▸ hy)
      exact (List.mem_erase_of_ne this).mpr (hs y (List.mem_cons_of_mem _ hy)))
    have := List.length_erase_of_mem hx
    have hp : 0 < m.length := List.length_pos_of_mem hx
    simp only [List.length_cons]
    omega
/-- how often a word has been ignored -/
def cnt (ig : List Ow) (w : Wd) : Nat := match fnx w ig 0 with | none => 0 | some k => (ig.getD k ([], 0)).2
section
variable {li : Bk} {ig : List Ow} {w : Wd}
theorem cnt_get (hn : (ig.map Prod.fst).Nodup) (hg : ∀ p ∈ ig, WdOk p.1) (R : IgR li ig) (hw : WdOk w) : bget li (cN w) = cnt ig w := by
  by_cases h : hk li (cN w)
  · obtain ⟨⟨c, v⟩, he, hc⟩ := h
    have hc' : c = cN w := hc
    obtain ⟨p, p1, p2, p3, p4⟩ := (R.2 c v).mp he
    have e1 : bget li (cN w) = v := by rw [← hc']; exact bget_mem R.1 he
    have e2 : p.1 = w := (cN_inj (hg p p1).1 hw.1).mp (by rw [← p2, hc'])
    unfold cnt
    cases q : fnx w ig 0 with
    | none => exact absurd e2 (fnx_none.mp q p p1)
    | some k =>
      obtain ⟨k1, r, k2⟩ := fnx_at q
      obtain ⟨i, hi⟩ := List.mem_iff_getElem?.mp p1
      have : i = k := nm_inj hn hi k2 e2
      subst this
      show _ = (ig.getD i ([], 0)).2
      rw [e1, p3, List.getD_eq_getElem?_getD, hi]
      rfl
  · rw [bget_none h]
    unfold cnt
    cases q : fnx w ig 0 with
    | none => rfl
    | some k =>
      obtain ⟨k1, r, k2⟩ := fnx_at q
      show 0 = (ig.getD k ([], 0)).2
      rw [List.getD_eq_getElem?_getD, k2]
      show 0 = r
      refine Classical.byContradiction (fun z => h ⟨(cN w, r), (R.2 _ _).mpr ⟨(w, r), List.mem_of_getElem? k2, rfl, rfl, fun y => z y.symm⟩, rfl⟩)
theorem IgR_len (hn : (ig.map Prod.fst).Nodup) (hg : ∀ p ∈ ig, WdOk p.1) (R : IgR li ig) : li.length ≤ ig.length := by
  have h1 : (li.map Prod.fst).Nodup := by
    have := R.1
    unfold SB at this
    rw [List.Nodup, List.pairwise_map]
    exact this.imp (fun h => by omega)
  have := nd_len (li.map Prod.fst) (ig.map (fun p => cN p.1)) h1 (fun x hx => by
    obtain ⟨⟨c, v⟩, e1, e2⟩ := List.mem_map.mp hx
    obtain ⟨p, p1, p2, -⟩ := (R.2 c v).mp e1
    exact List.mem_map.mpr ⟨p, p1, by rw [← p2]; exact e2⟩)
  simpa using this
theorem IgR_put (hn : (ig.map Prod.fst).Nodup) (hg : ∀ p ∈ ig, WdOk p.1) (R : IgR li ig) (hw : WdOk w) {r : Nat} (hr : r ≠ 0) : IgR (bput li (cN w) r) (ownA ig w r) := by
  refine ⟨SB_bput R.1 _ _, fun c v => ?_⟩
  rw [mem_bputS R.1]
  constructor
  · rintro (h | ⟨h, hc⟩)
    · cases h
      exact ⟨(w, r), (mem_ownA hn).mpr (Or.inl rfl), rfl, rfl, hr⟩
    · obtain ⟨p, p1, p2, p3, p4⟩ := (R.2 c v).mp h
      exact ⟨p, (mem_ownA hn).mpr (Or.inr ⟨p1, fun z => hc (by show c = _; rw [p2, z])⟩), p2, p3, p4⟩
  · rintro ⟨p, hp, p2, p3, p4⟩
    rcases (mem_ownA hn).mp hp with rfl | ⟨h, hne⟩
    · left; rw [p2, p3]
    · right
      refine ⟨(R.2 c v).mpr ⟨p, h, p2, p3, p4⟩, fun z => hne ?_⟩
      have : cN p.1 = cN w := by rw [← p2]; exact z
      exact (cN_inj (hg p h).1 hw.1).mp this
theorem IgR_del (hn : (ig.map Prod.fst).Nodup) (hg : ∀ p ∈ ig, WdOk p.1) (R : IgR li ig) (hw : WdOk w) : IgR (bdel li (cN w)) (ownA ig w 0) := by
  refine ⟨SB_bdel R.1 _, fun c v => ?_⟩
  rw [mem_bdelS R.1]
  constructor
  · rintro ⟨h, hc⟩
    obtain ⟨p, p1, p2, p3, p4⟩ := (R.2 c v).mp h
    exact ⟨p, (mem_ownA hn).mpr (Or.inr ⟨p1, fun z => hc (by show c = _; rw [p2, z])⟩), p2, p3, p4⟩
  · rintro ⟨p, hp, p2, p3, p4⟩
    rcases (mem_ownA hn).mp hp with rfl | ⟨h, hne⟩
    · exact absurd rfl p4
    · refine ⟨(R.2 c v).mpr ⟨p, h, p2, p3, p4⟩, fun z => hne ?_⟩
      have : cN p.1 = cN w := by rw [← p2]; exact z
      exact (cN_inj (hg p h).1 hw.1).mp this
end
section
variable {h : ZH} {M : Nat} {ar : Nat → Nat} {f f' : FI} {g g' : FL} {os ig : List Ow} {w : Wd}
theorem IgM.put (O : IgM f g ar M ig) (r : Nat) (h22 : f' M 22 = I (ownA ig w r).length) (h23 : ∀ i, g' (ar 23) i = if i = (fnx w ig 0).getD ig.length then J (mN w) else g (ar 23) i) (h24 : ∀ i, f' (ar 24) i = if i = (fnx w ig 0).getD ig.length then I r else f (ar 24) i) : IgM f' g' ar M (ownA ig w r) := by
  refine ⟨h22, fun i p hp => ?_⟩
  rw [ownA_get] at hp
  rw [h23, h24]
  by_cases e : i = (fnx w ig 0).getD ig.length
  · rw [if_pos e] at hp ⊢; rw [if_pos e]
    rw [← Option.some.inj hp]; exact ⟨rfl, rfl⟩
  · rw [if_neg e] at hp ⊢; rw [if_neg e]
    exact O.2 i p hp
theorem fnx_cons (w : Wd) (p : Ow) (t : List Ow) (i : Nat) : fnx w (p :: t) i = if p.1 = w then some i else fnx w t (i + 1) := rfl
/-- looking for an ignored word -/
theorem igl_l (m : MAt h M ar) (hg : ∀ p ∈ ig, WdOk p.1) (hl : ig.length < 1000) (O : IgM f g ar M ig) (hw : WdOk w) {v1 : Nat} (hv : v1 < 101) (h44 : g (ar 44) v1 = J (mN w)) :
    ∀ (t : List Ow) (i n : Nat), ig.drop i = t → i + t.length = ig.length → t.length < n → p_X12_ignore_l64 n (some M) (I v1) (I i) (hM h f g) = p_X12_ignore_b94 (some M) (I v1) (I (((fnx w t i).getD ig.length : Nat) : Int)) (hM h f g) := by
  intro t
  induction t with
  | nil =>
    intro i n hd hi hn
    obtain ⟨n, rfl⟩ := Nat.exists_eq_add_of_lt hn
    have hi' : i = ig.length := by simpa using hi
    have e1 : I (ig.length : Int) ≤ I (i : Int) := by rw [I_le (by omega) (by omega)]; omega
    show p_X12_ignore_c64 _ _ _ _ _ = _
    simp only [p_X12_ignore_c64, z_b, ite_ap, m_gI m, O.1, e1, if_true]
    rw [hi']; rfl
  | cons p t ih =>
    intro i n hd hi hn
    cases n with
    | zero => exact absurd hn (Nat.not_lt_zero _)
    | succ n =>
      have hil : i < ig.length := by simp at hi; omega
      have hp : ig[i]? = some p := by
        have := congrArg (fun l => l[0]?) hd
        simpa [List.getElem?_drop] using this
      have e1 : ¬ I (ig.length : Int) ≤ I (i : Int) := by rw [I_le (by omega) (by omega)]; omega
      have e2 : I (i : Int) + 1 = I ((i + 1 : Nat) : Int) := I_add _ 1
      have g23 := (O.2 i p hp).1
      have cmp : (lg_cmp (J (mN p.1)) (J (mN w)) = 0) ↔ p.1 = w := by rw [lgc_eq0, J_mn (hg p (List.mem_of_getElem? hp)) hw]
      have ih' := ih (i + 1) n (by rw [← List.drop_drop, Nat.add_comm] at *; have := congrArg (List.drop 1) hd; simpa [List.drop_drop, Nat.add_comm] using this) (by simp at hi; omega) (by simp at hn; omega)
      show p_X12_ignore_c64 (p_X12_ignore_l64 n) _ _ _ _ = _
      simp only [p_X12_ignore_c64, z_b, z_n, ite_ap, m_gI m, O.1, e1, if_false, m_gR m 23 (by decide), m_aL m 23 1024 (by decide) (show i < 1024 by omega) (by decide), m_gR m 44 (by decide), m_aL m 44 101 (by decide) hv (by decide), g23, h44, cmp, e2, ih', fnx_cons]
      by_cases u : p.1 = w
      · rw [if_pos u, if_pos u]; rfl
      · rw [if_neg u, if_neg u]
/-- a word is ignored once more: the reference -/
theorem mign (m : MAt h M ar) (hn : (ig.map Prod.fst).Nodup) (hg : ∀ p ∈ ig, WdOk p.1 ∧ p.2 ≤ 512) (hl : ig.length < 1000) (O : IgM f g ar M ig) (hw : WdOk w) {v1 : Nat} (hv : v1 < 101) (h44 : g (ar 44) v1 = J (mN w)) (h17 : f M 17 = I os.length) (hos : os.length ≤ 10) :
    ∃ f1 g1, MFr f f1 g g1 ar M [22] [23, 24] ∧ IgM f1 g1 ar M (ownA ig w (cnt ig w + 1)) ∧
      (cnt ig w + 1 < 3 ∨ 10 ≤ os.length → p_X12_ignore_l64 zFuel (some M) (I v1) 0 (hM h f g) = some (I ((cnt ig w + 1 : Nat) : Int), hM h f1 g1)) ∧
      (¬ (cnt ig w + 1 < 3 ∨ 10 ≤ os.length) → p_X12_ignore_l64 zFuel (some M) (I v1) 0 (hM h f g) = (z_b (z_vr 13 (some M) (p_X12_owns (some M) (J (mN w)) 0)) fun _ => z_b (z_gR 13 24 (some M)) fun x10 => z_b (z_sI x10 (I (((fnx w ig 0).getD ig.length : Nat) : Int)) 0) fun _ => p_X12_ignore_b178 (some M) (I (((fnx w ig 0).getD ig.length : Nat) : Int))) (hM h f1 g1)) := by
  have n23 := (m.2.1 23 (by decide)).2.2
  have n24 := (m.2.1 24 (by decide)).2.2
  have L := igl_l (f := f) (g := g) m (fun p hp => (hg p hp).1) hl O hw hv h44 ig 0 zFuel rfl (Nat.zero_add _) (by unfold zFuel; omega)
  -- the row has the word at k
  have stepA : ∃ fA gA, MFr f fA g gA ar M [22] [23, 24] ∧ (fA M 22 = I (ownA ig w (cnt ig w + 1)).length) ∧ (∀ i, gA (ar 23) i = if i = (fnx w ig 0).getD ig.length then J (mN w) else g (ar 23) i) ∧ (∀ i, i ≠ (fnx w ig 0).getD ig.length → fA (ar 24) i = f (ar 24) i) ∧ fA (ar 24) ((fnx w ig 0).getD ig.length) = I (cnt ig w) ∧ fA M 17 = f M 17 ∧ gA (ar 44) = g (ar 44) ∧ (fnx w ig 0).getD ig.length < 1024 ∧ cnt ig w ≤ 512 ∧
      p_X12_ignore_b94 (some M) (I v1) (I (((fnx w ig 0).getD ig.length : Nat) : Int)) (hM h f g) = p_X12_ignore_b131 (some M) (I v1) (I (((fnx w ig 0).getD ig.length : Nat) : Int)) (hM h fA gA) := by
    have j44 : ar 44 ≠ ar 23 := fun e => absurd (m.2.2 44 23 (by decide) (by decide) e) (by decide)
    cases q : fnx w ig 0 with
    | none =>
      have c0 : cnt ig w = 0 := by unfold cnt; rw [q]
      have la : (ownA ig w (cnt ig w + 1)).length = ig.length + 1 := by rw [len_ownA, if_pos q]
      have e1 : I (ig.length : Int) + 1 = I ((ig.length + 1 : Nat) : Int) := I_add _ 1
      refine ⟨zu (zu f (ar 24) ig.length 0) M 22 (I ((ig.length + 1 : Nat) : Int)), zu g (ar 23) ig.length (J (mN w)), ?_, by rw [zu_same, la], fun i => zu_cell _ _ _ _ _, fun i hi => ?_, ?_, ?_, zu_ne j44 _ _, ?_, by omega, ?_⟩
      · refine ⟨fun j hj => ⟨?_, ?_⟩, fun b' h1 h2 => ⟨?_, zu_ne (fun q => h2 (by simp [q])) _ _⟩⟩
        · rw [zu_cell, if_neg (fun q => hj (by simp [q])), zu_ne n24.symm]
        · rw [zu_ne n23.symm]
        · rw [zu_ne h1, zu_ne (fun q => h2 (by simp [q]))]
      · have hi' : ¬ i = ig.length := hi
        rw [zu_ne n24, zu_cell, if_neg hi']
      · show zu (zu f (ar 24) ig.length 0) M 22 _ (ar 24) ig.length = _
        rw [zu_ne n24, zu_same, c0]; rfl
      · rw [zu_cell, if_neg (by decide), zu_ne n24.symm]
      · show ig.length < 1024; omega
      · have n22 : zu f (ar 24) ig.length 0 M 22 = I ig.length := by rw [zu_ne n24.symm]; exact O.1
        show p_X12_ignore_b94 (some M) (I v1) (I (ig.length : Int)) (hM h f g) = p_X12_ignore_b131 (some M) (I v1) (I (ig.length : Int)) _
        simp only [p_X12_ignore_b94, z_b, ite_ap, m_gI m, O.1, not_true_eq_false, if_false, m_gR m 23 (by decide), m_gR m 44 (by decide), m_aL m 44 101 (by decide) hv (by decide), h44, m_sL m 23 1024 (by decide) (show ig.length < 1024 by omega) (by decide), m_gR m 24 (by decide), m_sI m 24 1024 (by decide) (show ig.length < 1024 by omega) (by decide), n22, m_pI m, e1]
    | some k =>
      obtain ⟨hk, r0, h0⟩ := fnx_at q
      have ck : cnt ig w = r0 := by
        unfold cnt; rw [q]
        show (ig.getD k ([], 0)).2 = r0
        rw [List.getD_eq_getElem?_getD, h0]; rfl
      have la : (ownA ig w (cnt ig w + 1)).length = ig.length := by rw [len_ownA, if_neg (by rw [q]; simp)]
      have hr0 := (hg _ (List.mem_of_getElem? h0)).2
      refine ⟨f, g, MFr.refl _ _ _ _ _ _, by rw [la]; exact O.1, fun i => ?_, fun _ _ => rfl, ?_, rfl, rfl, ?_, by rw [ck]; exact hr0, ?_⟩
      · show _ = if i = k then _ else _
        by_cases u : i = k
        · rw [if_pos u, u]; exact (O.2 k _ h0).1
        · rw [if_neg u]
      · show f (ar 24) k = _
        rw [ck]; exact (O.2 k _ h0).2
      · show k < 1024; omega
      · have e2 : ¬ I (k : Int) = I (ig.length : Int) := by rw [I_inj (by omega) (by omega)]; omega
        show p_X12_ignore_b94 (some M) (I v1) (I (k : Int)) (hM h f g) = p_X12_ignore_b131 (some M) (I v1) (I (k : Int)) _
        simp only [p_X12_ignore_b94, z_b, ite_ap, m_gI m, O.1, e2, not_false_eq_true, if_true]
  obtain ⟨fA, gA, F, a22, a23, a24, a24k, a17, a44, k1024, c512, code⟩ := stepA
  have e1 : I (cnt ig w : Int) + 1 = I ((cnt ig w + 1 : Nat) : Int) := I_add _ 1
  have F2 : MFr f (zu fA (ar 24) ((fnx w ig 0).getD ig.length) (I ((cnt ig w + 1 : Nat) : Int))) g gA ar M [22] [23, 24] := F.trans ⟨fun j hj => ⟨by rw [zu_ne n24.symm], rfl⟩, fun b' h1 h2 => ⟨zu_ne (fun q => h2 (by simp [q])) _ _, rfl⟩⟩
  have O2 : IgM (zu fA (ar 24) ((fnx w ig 0).getD ig.length) (I ((cnt ig w + 1 : Nat) : Int))) gA ar M (ownA ig w (cnt ig w + 1)) := O.put _ (by rw [zu_ne n24.symm]; exact a22) a23 (fun i => by
    rw [zu_cell]
    by_cases u : i = (fnx w ig 0).getD ig.length
    · rw [if_pos u, if_pos u]
    · rw [if_neg u, if_neg u]; exact a24 i u)
  have e3 : (I ((cnt ig w + 1 : Nat) : Int) < 3) ↔ cnt ig w + 1 < 3 := by rw [lit, I_lt (by omega) (by decide)]; omega
  have e4 : (10 ≤ I (os.length : Int)) ↔ 10 ≤ os.length := by rw [lit, I_le (by decide) (by omega)]; omega
  have n17 : zu fA (ar 24) ((fnx w ig 0).getD ig.length) (I ((cnt ig w + 1 : Nat) : Int)) M 17 = I os.length := by rw [zu_ne n24.symm, a17, h17]
  have b44 : gA (ar 44) v1 = J (mN w) := by rw [a44]; exact h44
  have L' : p_X12_ignore_l64 zFuel (some M) (I v1) 0 (hM h f g) = p_X12_ignore_b131 (some M) (I v1) (I (((fnx w ig 0).getD ig.length : Nat) : Int)) (hM h fA gA) := L.trans code
  generalize (fnx w ig 0).getD ig.length = k at *
  refine ⟨_, _, F2, O2, fun c => ?_, fun c => ?_⟩
  · rw [L']
    simp only [p_X12_ignore_b131, p_X12_ignore_b178, z_b, z_rt, ite_ap, m_gR m 24 (by decide), m_aI m 24 1024 (by decide) k1024 (by decide), m_sI m 24 1024 (by decide) k1024 (by decide), a24k, e1, zu_same, e3, m_gI m, n17, e4]
    by_cases u : cnt ig w + 1 < 3
    · rw [if_pos u]
    · rw [if_neg u, if_pos (c.resolve_left u)]
  · rw [L']
    simp only [p_X12_ignore_b131, z_b, z_rt, ite_ap, m_gR m 24 (by decide), m_aI m 24 1024 (by decide) k1024 (by decide), m_sI m 24 1024 (by decide) k1024 (by decide), a24k, e1, zu_same, e3, m_gI m, n17, e4, m_gR m 44 (by decide), m_aL m 44 101 (by decide) hv (by decide), b44]
    rw [if_neg (fun u => c (Or.inl u)), if_neg (fun u => c (Or.inr u))]
end
