/-! ===== suggestions: what the reference finds ===== -/
section
variable {h : ZH} {M : Nat} {ar : Nat → Nat} {al : Nat → Nat → Bool} {os bs : List Ow} {uw : Wd}
theorem ofs_mem {cs : Wd → Nat} {l : List (Nat × Wd)} {w : Wd} {e : Nat × Wd} : e ∈ ofs bs uw cs l w ↔ e ∈ l ∨ (w ≠ uw ∧ fnx w bs 0 = none ∧ cs w ≤ 4) ∧ e = (cs w, w) := by
  unfold ofs
  by_cases q : w ≠ uw ∧ fnx w bs 0 = none ∧ cs w ≤ 4
  · rw [if_pos q, List.mem_append, List.mem_singleton]
    exact Iff.intro (fun z => z.elim Or.inl (fun y => Or.inr ⟨q, y⟩)) (fun z => z.elim Or.inl (fun y => Or.inr y.2))
  · rw [if_neg q]
    exact Iff.intro Or.inl (fun z => z.elim id (fun y => absurd y.1 q))
theorem ofs_nodup {cs : Wd → Nat} {l : List (Nat × Wd)} {w : Wd} (hn : (l.map Prod.snd).Nodup) (hw : ∀ e ∈ l, e.2 ≠ w) : ((ofs bs uw cs l w).map Prod.snd).Nodup := by
  unfold ofs
  split
  · rw [List.map_append, List.nodup_append]
    refine ⟨hn, by simp, fun a ha b hb => ?_⟩
    have hb' : b = w := by simpa using hb
    obtain ⟨e, e1, e2⟩ := List.mem_map.mp ha
    rw [hb', ← e2]
    exact hw e e1
  · exact hn
/-- the words of the slots ahead of k that go in -/
def SlQ (K O : Nat → Nat) (os bs : List Ow) (uw : Wd) (cs : Wd → Nat) (k : Nat) (e : Nat × Wd) : Prop := ∃ s w, s < k ∧ WdOk w ∧ K s = mN w ∧ O s = 1 ∧ fnx w os 0 = none ∧ (w ≠ uw ∧ fnx w bs 0 = none ∧ cs w ≤ 4) ∧ e = (cs w, w)
/-- the own words ahead of k that go in -/
def OwQ (os bs : List Ow) (uw : Wd) (cs : Wd → Nat) (k : Nat) (e : Nat × Wd) : Prop := ∃ i w r, i < k ∧ os[i]? = some (w, r) ∧ (w ≠ uw ∧ fnx w bs 0 = none ∧ cs w ≤ 4) ∧ e = (cs w, w)
theorem nd_inj {α : Type} {l : List α} (h : l.Nodup) {i k : Nat} {a : α} (h1 : l[i]? = some a) (h2 : l[k]? = some a) : i = k := by
  have hi := lt_of_get h1
  have hk := lt_of_get h2
  rw [List.getElem?_eq_getElem hi] at h1
  rw [List.getElem?_eq_getElem hk] at h2
  have e : l[i] = l[k] := (Option.some.inj h1).trans (Option.some.inj h2).symm
  have hp := List.pairwise_iff_getElem.mp h
  rcases Nat.lt_trichotomy i k with q | q | q
  · exact absurd e (hp i k hi hk q)
  · exact q
  · exact absurd e.symm (hp k i hk hi q)
theorem fnx_of {w : Wd} {r i : Nat} {os : List Ow} (h : os[i]? = some (w, r)) : fnx w os 0 ≠ none := fun q => fnx_none.mp q (w, r) (List.mem_of_getElem? h) rfl
/-- own words -/
theorem su124 (m : MAt h M ar) (Ro : ∀ p ∈ os, WdOk p.1) (hnd : (os.map Prod.fst).Nodup) (Rb : ∀ p ∈ bs, WdOk p.1) (hu : isW uw) (hn : uw.length ≤ 12) {j : Nat} (hj : j < 101) {X : Nat × Wd → Prop} (hX : ∀ e, X e → fnx e.2 os 0 = none) :
    ∀ (c k n : Nat) (f : FI) (g : FL) (l : List (Nat × Wd)), k + c = os.length → c < n → OwM f g ar M os → OfM f g ar M bs uw al j → FoM f g ar M l → l.length ≤ 2000 + k → (∀ e, e ∈ l ↔ X e ∨ OwQ os bs uw (cst (ltr uw) al uw.length) k e) → (l.map Prod.snd).Nodup →
      ∃ f' g' l', p_X12_suggests_l124 n (some M) (I j) (I k) (hM h f g) = p_X12_suggests_l153 zFuel (some M) 1093 (hM h f' g') ∧ FoM f' g' ar M l' ∧ l'.length ≤ 2010 ∧ (∀ e, e ∈ l' ↔ X e ∨ OwQ os bs uw (cst (ltr uw) al uw.length) os.length e) ∧ (l'.map Prod.snd).Nodup ∧ MFr f f' g g' ar M [52] [50, 53, 54] := by
  intro c
  induction c with
  | zero =>
    intro k n f g l hk hn' O OO L hl hm hd
    obtain ⟨n, rfl⟩ := Nat.exists_eq_add_of_lt hn'
    have o10 := O.2.1
    have hk' : k = os.length := by omega
    subst hk'
    have e1 : I (os.length : Int) ≤ I (os.length : Int) := by rw [I_le (by omega) (by omega)]; omega
    refine ⟨f, g, l, ?_, L, by omega, hm, hd, MFr.refl _ _ _ _ _ _⟩
    show p_X12_suggests_c124 _ _ _ _ _ = _
    simp only [p_X12_suggests_c124, p_X12_suggests_b149, z_b, ite_ap, m_gI m, O.1, e1, if_true]
  | succ c ih =>
    intro k n f g l hk hn' O OO L hl hm hd
    cases n with
    | zero => exact absurd hn' (Nat.not_lt_zero _)
    | succ n =>
      have o10 := O.2.1
      have hkl : k < os.length := by omega
      have e1 : ¬ I (os.length : Int) ≤ I (k : Int) := by rw [I_le (by omega) (by omega)]; omega
      have e2 : I (k : Int) + 1 = I ((k + 1 : Nat) : Int) := I_add _ 1
      have hat : os[k]? = some (os[k]'hkl) := List.getElem?_eq_getElem hkl
      obtain ⟨w, r, hwr⟩ : ∃ w r, os[k]'hkl = (w, r) := ⟨_, _, rfl⟩
      rw [hwr] at hat
      have hw : WdOk w := Ro (w, r) (List.mem_of_getElem? hat)
      obtain ⟨a1, -⟩ := O.2.2 k _ hat
      have a1' : g (ar 18) k = J (mN w) := a1
      obtain ⟨f1, g1, v1, v2, v3⟩ := of_eq (f := f) (g := g) m Rb hu hn hj OO L (by omega) hw
      have hle := ofs_len bs uw (cst (ltr uw) al uw.length) l w
      have hnew : ∀ e ∈ l, e.2 ≠ w := by
        intro e he q
        rcases (hm e).mp he with z | ⟨i, w', r', z1, z2, z3, z4⟩
        · have := hX e z
          rw [q] at this
          exact fnx_of hat this
        · have e' : e.2 = w' := by rw [z4]
          rw [q] at e'
          subst e'
          have g1 : (os.map Prod.fst)[i]? = some w := by rw [List.getElem?_map, z2]; rfl
          have g2 : (os.map Prod.fst)[k]? = some w := by rw [List.getElem?_map, hat]; rfl
          have := nd_inj hnd g1 g2
          omega
      obtain ⟨f', g', l', p1, p2, p3, p4, p5, p6⟩ := ih (k + 1) n f1 g1 _ (by omega) (by omega)
        ⟨by rw [(v3.1 17 (by simp)).1]; exact O.1, O.2.1, fun i p hp => by rw [(v3.at_ m (j := 18) (by decide) (by simp) (by decide)).2, (v3.at_ m (j := 19) (by decide) (by simp) (by decide)).1]; exact O.2.2 i p hp⟩
        (OO.fr v3 m (by simp) (by simp) (by simp) (by simp) (by simp) (by simp) (by decide)) v2 (by omega)
        (fun e => by
          rw [ofs_mem, hm e]
          constructor
          · rintro ((z | ⟨i, w', r', z1, z2, z3, z4⟩) | ⟨z1, z2⟩)
            · exact Or.inl z
            · exact Or.inr ⟨i, w', r', by omega, z2, z3, z4⟩
            · exact Or.inr ⟨k, w, r, Nat.lt_succ_self _, hat, z1, z2⟩
          · rintro (z | ⟨i, w', r', z1, z2, z3, z4⟩)
            · exact Or.inl (Or.inl z)
            · by_cases y : i = k
              · subst y
                rw [hat] at z2
                cases z2
                exact Or.inr ⟨z3, z4⟩
              · exact Or.inl (Or.inr ⟨i, w', r', by omega, z2, z3, z4⟩))
        (ofs_nodup hd hnew)
      refine ⟨f', g', l', ?_, p2, p3, p4, p5, v3.trans p6⟩
      rw [← p1]
      show p_X12_suggests_c124 (p_X12_suggests_l124 n) _ _ _ _ = _
      simp only [p_X12_suggests_c124, z_b, z_n, ite_ap, m_gI m, O.1, e1, if_false, m_gR m 18 (by decide), m_aL m 18 10 (by decide) (show k < 10 by omega) (by decide), a1', m_vr m, v1, e2]
/-- the table of made words -/
theorem su63 (m : MAt h M ar) {K P Q O : Nat → Nat} {lm : Bk} (C : Cpl lm K P Q O) (hlm : lm.length ≤ 1548) (Ro : ∀ p ∈ os, WdOk p.1) (hnd : (os.map Prod.fst).Nodup) (Rb : ∀ p ∈ bs, WdOk p.1) (hu : isW uw) (hn : uw.length ≤ 12) {j : Nat} (hj : j < 101) :
    ∀ (c k n : Nat) (f : FI) (g : FL) (l : List (Nat × Wd)), k + c = 16384 → c < n → TbIs f g ar K P Q O → OwM f g ar M os → OfM f g ar M bs uw al j → FoM f g ar M l → l.length ≤ used K k → (∀ e, e ∈ l ↔ SlQ K O os bs uw (cst (ltr uw) al uw.length) k e) → (l.map Prod.snd).Nodup →
      ∃ f' g' l', p_X12_suggests_l63 n (some M) (I j) (I k) (hM h f g) = p_X12_suggests_l153 zFuel (some M) 1093 (hM h f' g') ∧ FoM f' g' ar M l' ∧ l'.length ≤ 2010 ∧ (∀ e, e ∈ l' ↔ SlQ K O os bs uw (cst (ltr uw) al uw.length) 16384 e ∨ OwQ os bs uw (cst (ltr uw) al uw.length) os.length e) ∧ (l'.map Prod.snd).Nodup ∧ MFr f f' g g' ar M [52] [50, 53, 54] := by
  have usedle : ∀ k, k ≤ 16384 → used K k ≤ 1548 := by
    have mono : ∀ d k, used K k ≤ used K (k + d) := by
      intro d
      induction d with
      | zero => intro k; exact Nat.le_refl _
      | succ d ih => intro k; have := ih k; have h2 := used_succ K (k + d); show _ ≤ used K (k + d + 1); omega
    intro k hk
    have := mono (16384 - k) k
    rw [show k + (16384 - k) = 16384 by omega, C.2.1] at this
    omega
  intro c
  induction c with
  | zero =>
    intro k n f g l hk hn' T OM OO L hl hm hd
    obtain ⟨n, rfl⟩ := Nat.exists_eq_add_of_lt hn'
    have hk' : k = 16384 := by omega
    subst hk'
    have ul := usedle 16384 (Nat.le_refl _)
    obtain ⟨f', g', l', p1, p2⟩ := su124 (al := al) m Ro hnd Rb hu hn hj (X := SlQ K O os bs uw (cst (ltr uw) al uw.length) 16384) (fun e he => by
      obtain ⟨s, w, z1, z2, z3, z4, z5, z6, z7⟩ := he
      rw [z7]; exact z5) os.length 0 zFuel f g l (by omega) (by have := OM.2.1; unfold zFuel; omega) OM OO L (by omega) (fun e => by
        rw [hm e]
        exact Iff.intro Or.inl (fun z => z.elim id (fun ⟨i, _, _, y, _⟩ => absurd y (Nat.not_lt_zero _)))) hd
    refine ⟨f', g', l', ?_, p2⟩
    rw [← p1]
    have e1 : (16384 : Int32) ≤ I ((16384 : Nat) : Int) := by decide
    show p_X12_suggests_c63 _ _ _ _ _ = _
    simp only [p_X12_suggests_c63, p_X12_suggests_b122, ite_ap, e1, if_true]
    rfl
  | succ c ih =>
    intro k n f g l hk hn' T OM OO L hl hm hd
    cases n with
    | zero => exact absurd hn' (Nat.not_lt_zero _)
    | succ n =>
      have hkl : k < 16384 := by omega
      have e1 : ¬ (16384 : Int32) ≤ I (k : Int) := by rw [lit, I_le (by decide) (by omega)]; omega
      have e2 : I (k : Int) + 1 = I ((k + 1 : Nat) : Int) := I_add _ 1
      obtain ⟨⟨t1, t1'⟩, t2, t3, t4⟩ := T k hkl
      have q0 : (J (K k : Int) = 0) ↔ K k = 0 := by rw [litJ, J_inj (by omega) (by omega)]; omega
      have ob := (C.2.2.2.2.2.1 k hkl).2.2
      have q1 : (I (O k : Int) = 1) ↔ O k = 1 := I_eqN (k := 1) (by omega) (by decide)
      have us := used_succ K k
      -- the slot gives nothing
      have skip : ¬ (∃ w, WdOk w ∧ K k = mN w ∧ O k = 1 ∧ fnx w os 0 = none) → ∃ f' g' l', p_X12_suggests_b116 (p_X12_suggests_l63 n) (some M) (I j) (I k) (hM h f g) = p_X12_suggests_l153 zFuel (some M) 1093 (hM h f' g') ∧ FoM f' g' ar M l' ∧ l'.length ≤ 2010 ∧ (∀ e, e ∈ l' ↔ SlQ K O os bs uw (cst (ltr uw) al uw.length) 16384 e ∨ OwQ os bs uw (cst (ltr uw) al uw.length) os.length e) ∧ (l'.map Prod.snd).Nodup ∧ MFr f f' g g' ar M [52] [50, 53, 54] := by
        intro hno
        obtain ⟨f', g', l', p1, p2⟩ := ih (k + 1) n f g l (by omega) (by omega) T OM OO L (by omega) (fun e => by
          rw [hm e]
          constructor
          · rintro ⟨s, w, z1, z2⟩
            exact ⟨s, w, by omega, z2⟩
          · rintro ⟨s, w, z1, z2, z3, z4, z5, z6⟩
            by_cases y : s = k
            · subst y
              exact absurd ⟨w, z2, z3, z4, z5⟩ hno
            · exact ⟨s, w, by omega, z2, z3, z4, z5, z6⟩) hd
        refine ⟨f', g', l', ?_, p2⟩
        rw [← p1]
        simp only [p_X12_suggests_b116, z_n, e2]
      show ∃ f' g' l', p_X12_suggests_c63 (p_X12_suggests_l63 n) _ _ _ _ = _ ∧ _
      simp only [p_X12_suggests_c63, z_b, ite_ap, e1, if_false, m_gR m 36 (by decide), m_aL m 36 16384 (by decide) hkl (by decide), t1, lgc_eq0, q0, m_gR m 39 (by decide), m_aI m 39 16384 (by decide) hkl (by decide), t4, q1]
      by_cases k0 : K k = 0
      · rw [if_pos k0]
        exact skip (fun ⟨w, z1, z2, _⟩ => by have := mN_pos z1.2.1; omega)
      · rw [if_neg k0]
        by_cases o1 : O k = 1
        · rw [if_neg (fun y => y o1)]
          obtain ⟨is, w, w1, w2, w3, w4⟩ := C.2.2.1 k hkl k0
          have oo := ownOf_eq (f := f) (g := g) m Ro OM w1
          have om := oz_m1 (fnx_bd (w := w) OM.2.1)
          rw [w2]
          simp only [m_vr m, oo, om]
          by_cases z : fnx w os 0 = none
          · rw [if_neg (fun y => y z)]
            have ul := usedle k (by omega)
            obtain ⟨f1, g1, v1, v2, v3⟩ := of_eq (f := f) (g := g) m Rb hu hn hj OO L (by omega) w1
            have hle := ofs_len bs uw (cst (ltr uw) al uw.length) l w
            rw [if_neg k0] at us
            have hnew : ∀ e ∈ l, e.2 ≠ w := by
              intro e he q
              obtain ⟨s, w', z1, z2, z3, z4, z5, z6, z7⟩ := (hm e).mp he
              have e' : e.2 = w' := by rw [z7]
              rw [q] at e'
              subst e'
              have is2 := (C.2.2.1 s (by omega) (by have := mN_pos z2.2.1; omega)).1
              rw [z3, ← w2] at is2
              have := slot_uniq is2 is
              omega
            obtain ⟨f', g', l', p1, p2, p3, p4, p5, p6⟩ := ih (k + 1) n f1 g1 _ (by omega) (by omega)
              (fun s hs => by
                rw [(v3.at_ m (j := 36) (by decide) (by simp) (by decide)).2, (v3.at_ m (j := 37) (by decide) (by simp) (by decide)).1, (v3.at_ m (j := 38) (by decide) (by simp) (by decide)).1, (v3.at_ m (j := 39) (by decide) (by simp) (by decide)).1]
                exact T s hs)
              ⟨by rw [(v3.1 17 (by simp)).1]; exact OM.1, OM.2.1, fun i p hp => by rw [(v3.at_ m (j := 18) (by decide) (by simp) (by decide)).2, (v3.at_ m (j := 19) (by decide) (by simp) (by decide)).1]; exact OM.2.2 i p hp⟩
              (OO.fr v3 m (by simp) (by simp) (by simp) (by simp) (by simp) (by simp) (by decide)) v2 (by omega)
              (fun e => by
                rw [ofs_mem, hm e]
                constructor
                · rintro (⟨s, w', z1, z2⟩ | ⟨z1, z2⟩)
                  · exact ⟨s, w', by omega, z2⟩
                  · exact ⟨k, w, Nat.lt_succ_self _, w1, w2, o1, z, z1, z2⟩
                · rintro ⟨s, w', z1, z2, z3, z4, z5, z6, z7⟩
                  by_cases y : s = k
                  · subst y
                    have : w' = w := (mN_inj z2.1 w1.1).mp (z3.symm.trans w2)
                    subst this
                    exact Or.inr ⟨z6, z7⟩
                  · exact Or.inl ⟨s, w', by omega, z2, z3, z4, z5, z6, z7⟩)
              (ofs_nodup hd hnew)
            refine ⟨f', g', l', ?_, p2, p3, p4, p5, v3.trans p6⟩
            rw [← p1]
            have t1w : g (ar 36) k = J (mN w) := by rw [t1, w2]
            simp only [m_gR m 36 (by decide), m_aL m 36 16384 (by decide) hkl (by decide), t1w, m_vr m, v1, p_X12_suggests_b116, z_n, e2]
          · rw [if_pos z]
            exact skip (fun ⟨w', z1, z2, z3, z4⟩ => by
              have : w' = w := (mN_inj z1.1 w1.1).mp (z2.symm.trans w2)
              rw [this] at z4
              exact z z4)
        · rw [if_pos o1]
          exact skip (fun ⟨w, z1, z2, z3, _⟩ => o1 z3)
end
