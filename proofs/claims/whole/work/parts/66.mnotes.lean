/-! the reference: the text wiped, notes forgotten, a mark set down -/
section ME
variable {N nx : Nat} {D E : Dt} {P : Ft} {g : Gs}
/-- only places where nothing is kept have changed -/
theorem MR.sc (h : MR D g) (hE : ∀ q, 98 ≤ q → q ≤ 115 → q ≠ 105 → q ≠ 109 → q ≠ 110 → q ≠ 111 → E q = D q) (h9 : ∀ k, k = 1 ∨ k = 13 ∨ k = 15 ∨ k = 22 ∨ k = 24 → E 97 k = D 97 k) : MR E g := by
  obtain ⟨hf, hs, t, p, k, n, m⟩ := h
  unfold MR
  rw [h9 1 (by decide), h9 13 (by decide), h9 15 (by decide), h9 22 (by decide), h9 24 (by decide), hE 98 (by decide) (by decide) (by decide) (by decide) (by decide) (by decide), hE 106 (by decide) (by decide) (by decide) (by decide) (by decide) (by decide), hE 107 (by decide) (by decide) (by decide) (by decide) (by decide) (by decide), hE 108 (by decide) (by decide) (by decide) (by decide) (by decide) (by decide), hE 112 (by decide) (by decide) (by decide) (by decide) (by decide) (by decide), hE 113 (by decide) (by decide) (by decide) (by decide) (by decide) (by decide), hE 114 (by decide) (by decide) (by decide) (by decide) (by decide) (by decide), hE 115 (by decide) (by decide) (by decide) (by decide) (by decide) (by decide)]
  exact ⟨hf.nn (fun q a b => hE q (by omega) (by omega) (by omega) (by omega) (by omega) (by omega)), hs, t, p, k, n, m⟩
theorem M_wipe_ok (h : MR D g) (hn : 117 ≤ nx) : OkP (fun z => z.1 = nI (gT g).1 ∧ MR z.2 (oWipe g).2 ∧ Lo D z.2) (f_M_wipe N nx D P 97) := by
  obtain ⟨hf, hs, t, ⟨p1, p2⟩, ⟨k1, k2⟩, ⟨n1, n2⟩, m1, m2⟩ := id h
  unfold f_M_wipe
  have e : ∀ q, q ≠ 97 → upd2 D 97 1 0 q = D q := fun q a => upd2_n a
  have e9 : ∀ k, k ≠ 1 → upd2 D 97 1 0 97 k = D 97 k := fun k hk => by rw [upd2_s, upd_n hk]
  have e1 : upd2 D 97 1 0 97 1 = 0 := by rw [upd2_s, upd_s]
  refine ok_t (kd_at (by omega) rfl) (ok_pas (ok_some ⟨t.1, ⟨hf.nn (fun q a b => e q (by omega)), ?_, ⟨e1, fun i hi => absurd hi (Nat.not_lt_zero i)⟩, ⟨(e9 13 (by decide)).trans p1, ?_⟩, ⟨(e9 15 (by decide)).trans k1, ?_⟩, ⟨(e9 22 (by decide)).trans n1, ?_⟩, (e9 24 (by decide)).trans m1, ?_⟩, fun q hq => e q (by omega)⟩))
  · show RStd (upd2 D 97 1 0 106) 0 _
    rw [e 106 (by decide)]; exact hs
  · show ∀ i, i < (gP g).1 → RStd (upd2 D 97 1 0 107) _ _
    rw [e 107 (by decide)]; exact p2
  · show ∀ i, i < (gK g).1 → RStd (upd2 D 97 1 0 108) _ _
    rw [e 108 (by decide)]; exact k2
  · show ∀ i, i < (gN g).1 → upd2 D 97 1 0 112 i = _ ∧ upd2 D 97 1 0 113 i = _ ∧ upd2 D 97 1 0 114 i = _
    rw [e 112 (by decide), e 113 (by decide), e 114 (by decide)]; exact n2
  · show ∀ i, i < (gM g).1 → upd2 D 97 1 0 115 i = _
    rw [e 115 (by decide)]; exact m2
theorem MR.nt {n : Nat × (Nat → Nat × Nat × Nat)} {m : Nat × (Nat → Nat)} (h : MR D g) (hE : ∀ q, q ≠ 97 → q < 112 ∨ 115 < q → E q = D q) (h9 : ∀ k, k ≠ 22 → k ≠ 24 → E 97 k = D 97 k) (hn : E 97 22 = nI n.1 ∧ ∀ i, i < n.1 → E 112 i = nI (n.2 i).1 ∧ E 113 i = nI (n.2 i).2.1 ∧ E 114 i = nI (n.2 i).2.2) (hm : E 97 24 = nI m.1 ∧ ∀ i, i < m.1 → E 115 i = nI (m.2 i)) : MR E (puM (puN g n) m) := by
  obtain ⟨hf, hs, t, p, k, -, -⟩ := h
  refine ⟨hf.nn (fun q a b => hE q (by omega) (by omega)), ?_, ⟨(h9 1 (by decide) (by decide)).trans t.1, ?_⟩, ⟨(h9 13 (by decide) (by decide)).trans p.1, ?_⟩, ⟨(h9 15 (by decide) (by decide)).trans k.1, ?_⟩, hn, hm⟩
  · rw [hE 106 (by decide) (by decide)]; exact hs
  · rw [hE 98 (by decide) (by decide)]; exact t.2
  · rw [hE 107 (by decide) (by decide)]; exact p.2
  · rw [hE 108 (by decide) (by decide)]; exact k.2
theorem M_forget_ok (h : MR D g) (hn : 117 ≤ nx) : OkP (fun z => z.1 = (oForget g).1 ∧ MR z.2 (oForget g).2 ∧ Lo D z.2) (f_M_forget N nx D P 97) := by
  have e : ∀ q, q ≠ 97 → upd2 (upd2 D 97 22 0) 97 24 0 q = D q := fun q a => by rw [upd2_n a, upd2_n a]
  unfold f_M_forget
  refine ok_t (kd_at (by omega) rfl) (ok_pas (ok_pas (ok_some ⟨?_, ?_, fun q hq => e q (by omega)⟩)))
  · show D 97 22 + D 97 24 = nI ((gN g).1 + (gM g).1)
    rw [h.2.2.2.2.2.1.1, h.2.2.2.2.2.2.1, nI_add]
  · refine h.nt (n := (0, (gN g).2)) (m := (0, (gM g).2)) (fun q a b => e q a) (fun k a b => ?_) ⟨?_, fun i hi => absurd hi (Nat.not_lt_zero i)⟩ ⟨?_, fun i hi => absurd hi (Nat.not_lt_zero i)⟩
    · show upd2 (upd2 D 97 22 0) 97 24 0 97 k = _
      rw [upd2_s, upd_n b, upd2_s, upd_n a]
    · show upd2 (upd2 D 97 22 0) 97 24 0 97 22 = nI 0
      rw [upd2_s, upd_n (by decide), upd2_s, upd_s]; rfl
    · show upd2 (upd2 D 97 22 0) 97 24 0 97 24 = nI 0
      rw [upd2_s, upd_s]; rfl
theorem M_mark_ok (hP : PB P) (h : MR D g) (ho : GOK g) (hn : 117 ≤ nx) (x : Int32) : OkP (fun z => z.1 = (oMark g x).1 ∧ MR z.2 (oMark g x).2 ∧ Lo D z.2) (f_M_mark N nx D P 97 x) := by
  have hm := ho.2.2.2.2.2.2.1
  have n2 := h.2.2.2.2.2.1
  have m2 := h.2.2.2.2.2.2
  unfold f_M_mark oMark
  refine ok_t (kd_at (by omega) rfl) (ok_call M_in_eq ?_)
  show OkP _ (if (if nI 0 ≤ x ∧ x ≤ nI 40 then (1 : Int32) else 0) = 0 then _ else _)
  by_cases q : nI 0 ≤ x ∧ x ≤ nI 40
  · obtain ⟨c, rfl, hc1, hc2⟩ := up q.1 q.2 (by decide) (by decide)
    rw [if_pos q, if_pos q, m2.1, cl (n := c) (by omega)]
    refine ok_f (by decide) ?_
    by_cases w : (gM g).1 < 8
    · rw [if_pos w]
      refine ok_f (by rw [lit 8, nI_inj (by omega) (by decide)]; omega) (ok_nn (hP.at (by decide) (show P0 97 23 = some 115 from rfl)) (ok_t (ab_ok (t := 3) (N := 8) (kd_at (by omega) rfl) (by omega) (by decide)) (ok_pas (ok_pas ?_))))
      rw [cl (by omega), upd2_n (show 97 ≠ 115 by decide), m2.1, nI_1]
      have e : ∀ q, q ≠ 97 → q ≠ 115 → upd2 (upd2 D 115 (gM g).1 (nI c)) 97 24 (nI ((gM g).1 + 1)) q = D q := fun q a b => by rw [upd2_n a, upd2_n b]
      have e9 : ∀ k, k ≠ 24 → upd2 (upd2 D 115 (gM g).1 (nI c)) 97 24 (nI ((gM g).1 + 1)) 97 k = D 97 k := fun k hk => by rw [upd2_s, upd_n hk, upd2_n (by decide)]
      have e1 : upd2 (upd2 D 115 (gM g).1 (nI c)) 97 24 (nI ((gM g).1 + 1)) 97 24 = nI ((gM g).1 + 1) := by rw [upd2_s, upd_s]
      refine ok_some ⟨e1, ?_, fun q hq => e q (by omega) (by omega)⟩
      refine h.nt (n := gN g) (m := ((gM g).1 + 1, fun i => if i = (gM g).1 then c else (gM g).2 i)) (fun q a b => e q a (by omega)) (fun k a b => e9 k b) ⟨(e9 22 (by decide)).trans n2.1, fun i hi => ?_⟩ ⟨e1, fun i hi => ?_⟩
      · show upd2 (upd2 D 115 (gM g).1 (nI c)) 97 24 (nI ((gM g).1 + 1)) 112 i = _ ∧ upd2 (upd2 D 115 (gM g).1 (nI c)) 97 24 (nI ((gM g).1 + 1)) 113 i = _ ∧ upd2 (upd2 D 115 (gM g).1 (nI c)) 97 24 (nI ((gM g).1 + 1)) 114 i = _
        rw [e 112 (by decide) (by decide), e 113 (by decide) (by decide), e 114 (by decide) (by decide)]; exact n2.2 i hi
      · have hi : i < (gM g).1 + 1 := hi
        show upd2 (upd2 D 115 (gM g).1 (nI c)) 97 24 (nI ((gM g).1 + 1)) 115 i = nI (if i = (gM g).1 then c else (gM g).2 i)
        rw [upd2_n (by decide), upd2_s]
        by_cases z : i = (gM g).1
        · rw [if_pos z, z, upd_s]
        · rw [if_neg z, upd_n z]; exact m2.2 i (by omega)
    · rw [if_neg w]
      exact ok_t (by rw [show (gM g).1 = 8 by omega]; rfl) (ok_some ⟨rfl, h, Lo.rf⟩)
  · rw [if_neg q, if_neg q]
    exact ok_t rfl (ok_some ⟨rfl, h, Lo.rf⟩)
end ME
