theorem mem_bputS {l : Bk} (hs : SB l) {w v : Nat} {e : Nat × Nat} : e ∈ bput l w v ↔ e = (w, v) ∨ (e ∈ l ∧ e.1 ≠ w) := by
  constructor
  · intro h
    by_cases q : e.1 = w
    · left
      have h1 : bget (bput l w v) e.1 = e.2 := bget_mem (SB_bput hs w v) (c := e.1) (v := e.2) h
      rw [bget_bput, if_pos q] at h1
      exact Prod.ext q h1.symm
    · rcases mem_bput h with rfl | h
      · exact absurd rfl q
      · exact Or.inr ⟨h, q⟩
  · rintro (rfl | ⟨h1, h2⟩)
    · exact bput_has l w v
    · exact bput_keeps h1 h2
theorem mem_bdelS : ∀ {l : Bk} (_ : SB l) {w : Nat} {e : Nat × Nat}, e ∈ bdel l w ↔ e ∈ l ∧ e.1 ≠ w
  | [], _, w, e => ⟨fun h => absurd h (by unfold bdel; exact List.not_mem_nil), fun h => absurd h.1 List.not_mem_nil⟩
  | (c, x) :: t, hs, w, e => by
    have hs' := List.pairwise_cons.mp hs
    unfold bdel
    by_cases q : c = w
    · rw [if_pos q]
      constructor
      · intro h
        refine ⟨List.mem_cons_of_mem _ h, fun z => ?_⟩
        have := hs'.1 e h
        simp only at this
        omega
      · rintro ⟨h1, h2⟩
        rcases List.mem_cons.mp h1 with rfl | h1
        · exact absurd q h2
        · exact h1
    · rw [if_neg q, List.mem_cons, mem_bdelS hs'.2, List.mem_cons]
      constructor
      · rintro (rfl | ⟨h1, h2⟩)
        · exact ⟨Or.inl rfl, q⟩
        · exact ⟨Or.inr h1, h2⟩
      · rintro ⟨h1 | h1, h2⟩
        · exact Or.inl h1
        · exact Or.inr ⟨h1, h2⟩
theorem bput_len {l : Bk} (hs : SB l) (w v : Nat) : (hk l w → (bput l w v).length = l.length) ∧ (¬ hk l w → (bput l w v).length = l.length + 1) :=
  ⟨fun h => (bput_found ((fnd_hk hs).mpr h)).1, fun h => (bput_new hs (fun q => h ((fnd_hk hs).mp q))).1⟩
theorem bdel_len {l : Bk} (hs : SB l) (w : Nat) : (hk l w → (bdel l w).length + 1 = l.length) ∧ (¬ hk l w → bdel l w = l) :=
  ⟨fun h => (bdel_found hs ((fnd_hk hs).mpr h)).1, fun h => bdel_none hs (fun q => h ((fnd_hk hs).mp q))⟩
/-- a word is put into a row, the reference's way -/
def ownA (os : List Ow) (w : Wd) (r : Nat) : List Ow := match fnx w os 0 with | some k => os.set k (w, r) | none => os ++ [(w, r)]
/-- a word is taken out of a row, the reference's way -/
def delO (os : List Ow) (w : Wd) : List Ow := match fnx w os 0 with | none => os | some k => (os.set k (os.getD (os.length - 1) ([], 0))).take (os.length - 1)
theorem nm_inj {os : List Ow} (hn : (os.map Prod.fst).Nodup) {i j : Nat} {a b : Ow} (h1 : os[i]? = some a) (h2 : os[j]? = some b) (h : a.1 = b.1) : i = j :=
  nd_inj hn (a := a.1) (by rw [List.getElem?_map, h1]; rfl) (by rw [List.getElem?_map, h2, h]; rfl)
theorem fnx_at {w : Wd} {os : List Ow} {k : Nat} (h : fnx w os 0 = some k) : k < os.length ∧ ∃ r, os[k]? = some (w, r) := by
  obtain ⟨h1, h2, r, h3⟩ := fnx_some h
  exact ⟨by omega, r, h3⟩
theorem mem_ownA {os : List Ow} (hn : (os.map Prod.fst).Nodup) {w : Wd} {r : Nat} {p : Ow} : p ∈ ownA os w r ↔ p = (w, r) ∨ (p ∈ os ∧ p.1 ≠ w) := by
  unfold ownA
  cases q : fnx w os 0 with
  | none =>
    have hno := fnx_none.mp q
    show p ∈ os ++ [(w, r)] ↔ _
    rw [List.mem_append, List.mem_singleton]
    constructor
    · rintro (h | h)
      · exact Or.inr ⟨h, hno p h⟩
      · exact Or.inl h
    · rintro (h | h)
      · exact Or.inr h
      · exact Or.inl h.1
  | some k =>
    obtain ⟨hk, r0, h0⟩ := fnx_at q
    show p ∈ os.set k (w, r) ↔ _
    constructor
    · intro h
      obtain ⟨i, hi⟩ := List.mem_iff_getElem?.mp h
      rw [List.getElem?_set] at hi
      by_cases e : k = i
      · rw [if_pos e, if_pos hk] at hi
        exact Or.inl (Option.some.inj hi).symm
      · rw [if_neg e] at hi
        exact Or.inr ⟨List.mem_iff_getElem?.mpr ⟨i, hi⟩, fun z => e (nm_inj hn h0 hi z.symm)⟩
    · rintro (rfl | ⟨h, hw⟩)
      · exact List.mem_iff_getElem?.mpr ⟨k, by rw [List.getElem?_set, if_pos rfl, if_pos hk]⟩
      · obtain ⟨i, hi⟩ := List.mem_iff_getElem?.mp h
        refine List.mem_iff_getElem?.mpr ⟨i, ?_⟩
        rw [List.getElem?_set, if_neg (fun e => ?_)]
        · exact hi
        · rw [← e, h0] at hi
          exact hw (by rw [← Option.some.inj hi])
theorem nd_ownA {os : List Ow} (hn : (os.map Prod.fst).Nodup) {w : Wd} {r : Nat} : ((ownA os w r).map Prod.fst).Nodup := by
  unfold ownA
  cases q : fnx w os 0 with
  | none =>
    have hno := fnx_none.mp q
    show ((os ++ [(w, r)]).map Prod.fst).Nodup
    rw [List.map_append, List.nodup_append]
    refine ⟨hn, by simp, fun a ha b hb => ?_⟩
    obtain ⟨p, p1, p2⟩ := List.mem_map.mp ha
    simp only [List.map_cons, List.map_nil, List.mem_singleton] at hb
    rw [hb, ← p2]
    exact hno p p1
  | some k =>
    obtain ⟨hk, r0, h0⟩ := fnx_at q
    show ((os.set k (w, r)).map Prod.fst).Nodup
    have e : (os.set k (w, r)).map Prod.fst = os.map Prod.fst := by
      refine List.ext_getElem? (fun i => ?_)
      rw [List.getElem?_map, List.getElem?_map, List.getElem?_set]
      by_cases e : k = i
      · rw [if_pos e, if_pos hk, ← e, h0]; rfl
      · rw [if_neg e]
    rw [e]; exact hn
theorem delO_get {os : List Ow} {w : Wd} {k : Nat} (q : fnx w os 0 = some k) (i : Nat) : (delO os w)[i]? = if i < os.length - 1 then (if k = i then os[os.length - 1]? else os[i]?) else none := by
  obtain ⟨hk, r0, h0⟩ := fnx_at q
  have e : delO os w = (os.set k (os.getD (os.length - 1) ([], 0))).take (os.length - 1) := by unfold delO; rw [q]
  rw [e, List.getElem?_take]
  by_cases c : i < os.length - 1
  · rw [if_pos c, if_pos c, List.getElem?_set]
    by_cases z : k = i
    · rw [if_pos z, if_pos hk, if_pos z, getD_some (d := ([], 0)) (show os.length - 1 < os.length by omega)]
    · rw [if_neg z, if_neg z]
  · rw [if_neg c, if_neg c]
theorem mem_delO {os : List Ow} (hn : (os.map Prod.fst).Nodup) {w : Wd} {p : Ow} : p ∈ delO os w ↔ p ∈ os ∧ p.1 ≠ w := by
  cases q : fnx w os 0 with
  | none =>
    have hno := fnx_none.mp q
    have e : delO os w = os := by unfold delO; rw [q]
    rw [e]
    exact ⟨fun h => ⟨h, hno p h⟩, fun h => h.1⟩
  | some k =>
    obtain ⟨hk, r0, h0⟩ := fnx_at q
    constructor
    · intro h
      obtain ⟨i, hi⟩ := List.mem_iff_getElem?.mp h
      rw [delO_get q] at hi
      by_cases c : i < os.length - 1
      · rw [if_pos c] at hi
        by_cases z : k = i
        · rw [if_pos z] at hi
          refine ⟨List.mem_iff_getElem?.mpr ⟨_, hi⟩, fun u => ?_⟩
          have := nm_inj hn h0 hi u.symm
          omega
        · rw [if_neg z] at hi
          exact ⟨List.mem_iff_getElem?.mpr ⟨i, hi⟩, fun u => z (nm_inj hn h0 hi u.symm)⟩
      · rw [if_neg c] at hi; cases hi
    · rintro ⟨h, hw⟩
      obtain ⟨i, hi⟩ := List.mem_iff_getElem?.mp h
      have hil := lt_of_get hi
      have hik : k ≠ i := fun e => by
        rw [← e, h0] at hi
        exact hw (by rw [← Option.some.inj hi])
      by_cases c : i < os.length - 1
      · exact List.mem_iff_getElem?.mpr ⟨i, by rw [delO_get q, if_pos c, if_neg hik]; exact hi⟩
      · have hi' : i = os.length - 1 := by omega
        exact List.mem_iff_getElem?.mpr ⟨k, by rw [delO_get q, if_pos (by omega), if_pos rfl, ← hi']; exact hi⟩
theorem len_delO (os : List Ow) (w : Wd) : (delO os w).length = if fnx w os 0 = none then os.length else os.length - 1 := by
  unfold delO
  cases q : fnx w os 0 with
  | none => rfl
  | some k =>
    show ((os.set k _).take _).length = _
    rw [List.length_take, List.length_set, if_neg (by simp)]
    omega
theorem len_ownA (os : List Ow) (w : Wd) (r : Nat) : (ownA os w r).length = if fnx w os 0 = none then os.length + 1 else os.length := by
  unfold ownA
  cases q : fnx w os 0 with
  | none => show (os ++ [(w, r)]).length = _; rw [List.length_append]; rfl
  | some k => show (os.set k _).length = _; rw [List.length_set, if_neg (by simp)]
theorem nd_delO {os : List Ow} (hn : (os.map Prod.fst).Nodup) {w : Wd} : ((delO os w).map Prod.fst).Nodup := by
  cases q : fnx w os 0 with
  | none =>
    have e : delO os w = os := by unfold delO; rw [q]
    rw [e]; exact hn
  | some k =>
    obtain ⟨hk, r0, h0⟩ := fnx_at q
    have at_ : ∀ i a, (delO os w)[i]? = some a → i < os.length - 1 ∧ os[if k = i then os.length - 1 else i]? = some a := fun i a h => by
      rw [delO_get q] at h
      by_cases c : i < os.length - 1
      · rw [if_pos c] at h
        refine ⟨c, ?_⟩
        by_cases z : k = i
        · rw [if_pos z] at h ⊢; exact h
        · rw [if_neg z] at h ⊢; exact h
      · rw [if_neg c] at h; cases h
    refine List.pairwise_iff_getElem.mpr (fun i j hi hj hij => ?_)
    rw [List.length_map] at hi hj
    obtain ⟨a, ha⟩ : ∃ a, (delO os w)[i]? = some a := ⟨_, List.getElem?_eq_getElem hi⟩
    obtain ⟨b, hb⟩ : ∃ a, (delO os w)[j]? = some a := ⟨_, List.getElem?_eq_getElem hj⟩
    have e1 : ((delO os w).map Prod.fst)[i]'(by rw [List.length_map]; exact hi) = a.1 := by
      have : ((delO os w).map Prod.fst)[i]? = some a.1 := by rw [List.getElem?_map, ha]; rfl
      exact (List.getElem?_eq_some_iff.mp this).2
    have e2 : ((delO os w).map Prod.fst)[j]'(by rw [List.length_map]; exact hj) = b.1 := by
      have : ((delO os w).map Prod.fst)[j]? = some b.1 := by rw [List.getElem?_map, hb]; rfl
      exact (List.getElem?_eq_some_iff.mp this).2
    rw [e1, e2]
    intro z
    obtain ⟨a1, a2⟩ := at_ i a ha
    obtain ⟨b1, b2⟩ := at_ j b hb
    have := nm_inj hn a2 b2 z
    by_cases u : k = i
    · rw [if_pos u] at this
      by_cases v : k = j
      · omega
      · rw [if_neg v] at this; omega
    · rw [if_neg u] at this
      by_cases v : k = j
      · rw [if_pos v] at this; omega
      · rw [if_neg v] at this; omega
theorem hk_fnx {lo : Bk} {os : List Ow} (R : OwR lo os) {w : Wd} (hw : WdOk w) : hk lo (cN w) ↔ fnx w os 0 ≠ none := by
  rw [ow_hk R hw]
  constructor
  · rintro ⟨p, p1, p2⟩ q
    exact fnx_none.mp q p p1 p2
  · intro q
    exact Classical.byContradiction (fun z => q (fnx_none.mpr (fun p hp hpw => z ⟨p, hp, hpw⟩)))
theorem OwR_put {lo : Bk} {os : List Ow} (R : OwR lo os) {w : Wd} (hw : WdOk w) {r : Nat} (hr : r ≤ 7) : OwR (bput lo (cN w) (2 ^ r)) (ownA os w r) := by
  obtain ⟨r1, r2, r3, r4, r5⟩ := R
  have R' : OwR lo os := ⟨r1, r2, r3, r4, r5⟩
  refine ⟨nd_ownA r1, fun p hp => ?_, SB_bput r3 _ _, fun c v => ?_, ?_⟩
  · rcases (mem_ownA r1).mp hp with rfl | ⟨h, -⟩
    · exact ⟨hw, hr⟩
    · exact r2 p h
  · rw [mem_bputS r3]
    constructor
    · rintro (h | ⟨h, hc⟩)
      · cases h
        exact ⟨(w, r), (mem_ownA r1).mpr (Or.inl rfl), rfl, rfl⟩
      · obtain ⟨p, p1, p2, p3⟩ := (r4 c v).mp h
        exact ⟨p, (mem_ownA r1).mpr (Or.inr ⟨p1, fun z => hc (by show c = _; rw [p2, z])⟩), p2, p3⟩
    · rintro ⟨p, hp, p2, p3⟩
      rcases (mem_ownA r1).mp hp with rfl | ⟨h, hne⟩
      · left; rw [p2, p3]
      · right
        refine ⟨(r4 c v).mpr ⟨p, h, p2, p3⟩, fun z => hne ?_⟩
        have : cN p.1 = cN w := by rw [← p2]; exact z
        exact (cN_inj (r2 p h).1.1 hw.1).mp this
  · have hh := hk_fnx R' hw
    rw [len_ownA]
    by_cases q : fnx w os 0 = none
    · rw [if_pos q, (bput_len r3 _ _).2 (fun z => hh.mp z q), r5]
    · rw [if_neg q, (bput_len r3 _ _).1 (hh.mpr q), r5]
theorem OwR_del {lo : Bk} {os : List Ow} (R : OwR lo os) {w : Wd} (hw : WdOk w) : OwR (bdel lo (cN w)) (delO os w) := by
  obtain ⟨r1, r2, r3, r4, r5⟩ := R
  have R' : OwR lo os := ⟨r1, r2, r3, r4, r5⟩
  refine ⟨nd_delO r1, fun p hp => r2 p ((mem_delO r1).mp hp).1, SB_bdel r3 _, fun c v => ?_, ?_⟩
  · rw [mem_bdelS r3]
    constructor
    · rintro ⟨h, hc⟩
      obtain ⟨p, p1, p2, p3⟩ := (r4 c v).mp h
      exact ⟨p, (mem_delO r1).mpr ⟨p1, fun z => hc (by show c = _; rw [p2, z])⟩, p2, p3⟩
    · rintro ⟨p, hp, p2, p3⟩
      obtain ⟨h, hne⟩ := (mem_delO r1).mp hp
      refine ⟨(r4 c v).mpr ⟨p, h, p2, p3⟩, fun z => hne ?_⟩
      have : cN p.1 = cN w := by rw [← p2]; exact z
      exact (cN_inj (r2 p h).1.1 hw.1).mp this
  · have hh := hk_fnx R' hw
    rw [len_delO]
    by_cases q : fnx w os 0 = none
    · rw [if_pos q, (bdel_len r3 _).2 (fun z => hh.mp z q), r5]
    · have := (bdel_len r3 _).1 (hh.mpr q)
      rw [if_neg q]
      omega
theorem fnx_delO {os : List Ow} (hn : (os.map Prod.fst).Nodup) (w : Wd) : fnx w (delO os w) 0 = none := fnx_none.mpr (fun _ hp => ((mem_delO hn).mp hp).2)
theorem fnx_ne {os os' : List Ow} (h : ∀ p ∈ os', p ∈ os) {v : Wd} (hv : fnx v os 0 = none) : fnx v os' 0 = none := fnx_none.mpr (fun p hp => fnx_none.mp hv p (h p hp))
