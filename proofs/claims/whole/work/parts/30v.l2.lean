section
variable {h : ZH} {M : Nat} {ar : Nat → Nat} {rs : List Ru} {s : St}
theorem beg_eq (m : MAt h M ar) (ho : StOk s) {si : Nat} (hsi : si < 12) {e : Ev} (he : EvOk e) {f : FI} {g : FL} {l : Bk} (hr : RsM f g ar M rs) (hs : StM f g ar si s) (hT : TC f g ar M l) (hroom : l.length + (begs rs s.flags e).length < 16384) :
    ∃ f' g', p_X12_begins (some M) (J (mN e.1)) (I si) (I e.2.1) (I e.2.2) (hM h f g) = some ((), hM h f' g') ∧ TC f' g' ar M ((begs rs s.flags e).foldl (addEv s.is) l) ∧ MF f f' g g' ar M := by
  unfold begs at hroom ⊢
  simp only [List.length_cons] at hroom
  obtain ⟨f1, g1, v1, v2, v3⟩ := keeps_tc m hT he ho.2.2.2.2.2.2 (by omega)
  have hle2 : (addEv s.is l e).length ≤ l.length + 1 := bput_le _ _ _
  obtain ⟨f', g', p1, p2, p3⟩ := beg_l m ho hsi he rs 0 zFuel f1 g1 _ rfl (by omega) (by have := hr.2.1; unfold zFuel; omega) (hr.fr v3 m) (hs.fr v3 m) v2 (by omega)
  refine ⟨f', g', ?_, p2, v3.trans p3⟩
  have p1' : p_X12_begins_l18 zFuel (some M) (J (mN e.1)) (I si) (I e.2.1) (I e.2.2) 0 (hM h f1 g1) = some ((), hM h f' g') := p1
  obtain ⟨s1, s2, s3, s4, s5⟩ := hs
  simp only [p_X12_begins, z_b, m_gR m 6 (by decide), m_aI m 6 12 (by decide) hsi (by decide), s5, m_vr m, v1, p1']
end
