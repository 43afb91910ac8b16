/-! the reference: the text wiped, notes forgotten, a mark set down -/
section ME
variable {N nx : Nat} {D E : Dt} {P : Ft} {g : Gs}
/-- only places where nothing is kept have changed -/
theorem MR.sc (h : MR D g) (hE : ∀ q, 98 ≤ q → q ≤ 115 → q ≠ 105 → q ≠ 109 → q ≠ 110 → q ≠ 111 → E q = D q) (h9 : ∀ k, k = 1 ∨ k = 13 ∨ k = 15 ∨ k = 22 ∨ k = 24 → E 97 k = D 97 k) : MR E g := by
  obtain ⟨hf, hs, t, p, k, n, m⟩ := h
  unfold MR
  rw [h9 1 (by decide), h9 13 (by decide), h9 15 (by decide), h9 22 (by decide), h9 24 (by decide), hE 98 (by decide) (by decide) (by decide) (by decide) (by decide) (by decide), hE 106 (by decide) (by decide) (by decide) (by decide) (by decide) (by decide), hE 107 (by decide) (by decide) (by decide) (by decide) (by decide) (by decide), hE 108 (by decide) (by decide) (by decide) (by decide) (by decide) (by decide), hE 112 (by decide) (by decide) (by decide) (by decide) (by decide) (by decide), hE 113 (by decide) (by decide) (by decide) (by decide) (by decide) (by decide), hE 114 (by decide) (by decide) (by decide) (by decide) (by decide) (by decide), hE 115 (by decide) (by decide) (by decide) (by decide) (by decide) (by decide)]
  exact ⟨hf.nn (fun q a b => hE q (by omega) (by omega) (by omega) (by omega) (by omega) (by omega)), hs, t, p, k, n, m⟩
theorem M_wipe_ok (h : MR D g) (hn : 117 ≤ nx) : OkP (fun z => z.1 = nI (gT g).1 ∧ MR z.2 (oWipe g).2 ∧ Lo D z.2) (f_M_wipe N nx D P 97) := by
  obtain ⟨hf, hs, t, ⟨p1, p2⟩, ⟨k1, k2⟩, ⟨n1, n2⟩, m1, m2⟩ := id h
  unfold f_M_wipe
  have e : ∀ q, q ≠ 97 → upd2 D 97 1 0 q = D q := fun q a => upd2_n a
  have e9 : ∀ k, k ≠ 1 → upd2 D 97 1 0 97 k = D 97 k := fun k hk => by rw [upd2_s, upd_n hk]
  have e1 : upd2 D 97 1 0 97 1 = 0 := by rw [upd2_s, upd_s]
  refine ok_t (kd_at (by omega) rfl) (ok_pas (ok_some ⟨t.1, ⟨hf.nn (fun q a b => e q (by omega)), ?_, ⟨e1, fun i hi => absurd hi (Nat.not_lt_zero i)⟩, ⟨(e9 13 (by decide)).trans p1, ?_⟩, ⟨(e9 15 (by decide)).trans k1, ?_⟩, ⟨(e9 22 (by decide)).trans n1, ?_⟩, (e9 24 (by decide)).trans m1, ?_⟩, fun q hq => e q (by omega)⟩))
  · show RStd (upd2 D 97 1 0 106) 0 _
    rw [e 106 (by decide)]; exact hs
  · show ∀ i, i < (gP g).1 → RStd (upd2 D 97 1 0 107) _ _
    rw [e 107 (by decide)]; exact p2
  · show ∀ i, i < (gK g).1 → RStd (upd2 D 97 1 0 108) _ _
    rw [e 108 (by decide)]; exact k2
  · show ∀ i, i < (gN g).1 → upd2 D 97 1 0 112 i = _ ∧ upd2 D 97 1 0 113 i = _ ∧ upd2 D 97 1 0 114 i = _
    rw [e 112 (by decide), e 113 (by decide), e 114 (by decide)]; exact n2
  · show ∀ i, i < (gM g).1 → upd2 D 97 1 0 115 i = _
    rw [e 115 (by decide)]; exact m2
end ME
