/-! the reference: text, notes, counts -/
theorem by_ok : ∀ c, c < 127 → vp_nar .byte ((Int32.toInt8 (nI c)).toInt32) = nI c := by decide +kernel
section MD
variable {N nx : Nat} {D : Dt} {P : Ft} {g : Gs}
/-- only the fields of the reference itself, and one other place, have changed -/
theorem MF.nn {D E : Dt} {f : Fam} (h : MF D f) (hE : ∀ q, 99 ≤ q → q ≤ 104 → E q = D q) : MF E f := by
  unfold MF
  rw [hE 99 (by decide) (by decide), hE 100 (by decide) (by decide), hE 101 (by decide) (by decide), hE 102 (by decide) (by decide), hE 103 (by decide) (by decide), hE 104 (by decide) (by decide)]
  exact h
theorem M_write_ok (hP : PB P) (h : MR D g) (ho : GOK g) (hn : 117 ≤ nx) (x : Int32) : OkP (fun z => z.1 = (oWrite g x).1 ∧ MR z.2 (oWrite g x).2 ∧ Lo D z.2) (f_M_write N nx D P 97 x) := by
  have hm := ho.2.2.1.1
  obtain ⟨hf, hs, ⟨t1, t2⟩, ⟨p1, p2⟩, ⟨q1, q2⟩, ⟨n1, n2⟩, m1, m2⟩ := id h
  unfold f_M_write oWrite
  refine ok_t (kd_at (by omega) rfl) (ok_call M_in_eq ?_)
  show OkP _ (if (if nI 32 ≤ x ∧ x ≤ nI 126 then (1 : Int32) else 0) = 0 then _ else _)
  by_cases q : nI 32 ≤ x ∧ x ≤ nI 126
  · obtain ⟨c, rfl, hc1, hc2⟩ := up q.1 q.2 (by decide) (by decide)
    rw [if_pos q, if_pos q, t1, cl (n := c) (by omega)]
    refine ok_f (by decide) ?_
    by_cases w : (gT g).1 = 200
    · rw [if_pos w]
      exact ok_t (by rw [w]; rfl) (ok_some ⟨rfl, h, Lo.rf⟩)
    · rw [if_neg w]
      refine ok_f (by rw [lit 200, nI_inj (by omega) (by decide)]; exact w) (ok_nn (hP.at (by decide) (show P0 97 0 = some 98 from rfl)) (ok_t (ab_ok (t := 1) (N := 200) (kd_at (by omega) rfl) (by omega) (by decide)) (ok_pas (ok_pas ?_))))
      rw [cl (by omega), by_ok c (by omega), upd2_n (show 97 ≠ 98 by decide), t1, nI_1]
      have e : ∀ q, q ≠ 97 → q ≠ 98 → upd2 (upd2 D 98 (gT g).1 (nI c)) 97 1 (nI ((gT g).1 + 1)) q = D q := fun q a b => by rw [upd2_n a, upd2_n b]
      have e9 : ∀ k, k ≠ 1 → upd2 (upd2 D 98 (gT g).1 (nI c)) 97 1 (nI ((gT g).1 + 1)) 97 k = D 97 k := fun k hk => by rw [upd2_s, upd_n hk, upd2_n (by decide)]
      have e1 : upd2 (upd2 D 98 (gT g).1 (nI c)) 97 1 (nI ((gT g).1 + 1)) 97 1 = nI ((gT g).1 + 1) := by rw [upd2_s, upd_s]
      refine ok_some ⟨e1, ⟨hf.nn (fun q a b => e q (by omega) (by omega)), ?_, ⟨e1, fun i hi => ?_⟩, ⟨(e9 13 (by decide)).trans p1, ?_⟩, ⟨(e9 15 (by decide)).trans q1, ?_⟩, ⟨(e9 22 (by decide)).trans n1, ?_⟩, (e9 24 (by decide)).trans m1, ?_⟩, fun q hq => e q (by omega) (by omega)⟩
      · show RStd (upd2 (upd2 D 98 (gT g).1 (nI c)) 97 1 (nI ((gT g).1 + 1)) 106) 0 _
        rw [e 106 (by decide) (by decide)]; exact hs
      · have hi : i < (gT g).1 + 1 := hi
        show upd2 (upd2 D 98 (gT g).1 (nI c)) 97 1 (nI ((gT g).1 + 1)) 98 i = nI (if i = (gT g).1 then c else (gT g).2 i)
        rw [upd2_n (by decide), upd2_s]
        by_cases z : i = (gT g).1
        · rw [if_pos z, z, upd_s]
        · rw [if_neg z, upd_n z]; exact t2 i (by omega)
      · show ∀ i, i < (gP g).1 → RStd (upd2 (upd2 D 98 (gT g).1 (nI c)) 97 1 (nI ((gT g).1 + 1)) 107) _ _
        rw [e 107 (by decide) (by decide)]; exact p2
      · show ∀ i, i < (gK g).1 → RStd (upd2 (upd2 D 98 (gT g).1 (nI c)) 97 1 (nI ((gT g).1 + 1)) 108) _ _
        rw [e 108 (by decide) (by decide)]; exact q2
      · show ∀ i, i < (gN g).1 → upd2 (upd2 D 98 (gT g).1 (nI c)) 97 1 (nI ((gT g).1 + 1)) 112 i = _ ∧ upd2 (upd2 D 98 (gT g).1 (nI c)) 97 1 (nI ((gT g).1 + 1)) 113 i = _ ∧ upd2 (upd2 D 98 (gT g).1 (nI c)) 97 1 (nI ((gT g).1 + 1)) 114 i = _
        rw [e 112 (by decide) (by decide), e 113 (by decide) (by decide), e 114 (by decide) (by decide)]; exact n2
      · show ∀ i, i < (gM g).1 → upd2 (upd2 D 98 (gT g).1 (nI c)) 97 1 (nI ((gT g).1 + 1)) 115 i = _
        rw [e 115 (by decide) (by decide)]; exact m2
  · rw [if_neg q, if_neg q]
    exact ok_t rfl (ok_some ⟨rfl, h, Lo.rf⟩)
theorem M_count_eq (hP : PB P) (h : MR D g) (ho : GOK g) (hn : 117 ≤ nx) (hN : 100 ≤ N) (w : Int32) : f_M_count N nx D P 97 w = some (oCount g w) := by
  have hf := ho.1
  have hv := ho.2.1
  have hm := h.1
  have hs := h.2.1
  have hq := k106 hn
  have hP11 : P 97 11 = some 106 := hP.at (by decide) rfl
  apply ok_val
  unfold f_M_count oCount
  refine ok_t (kd_at (by omega) rfl) ?_
  refine ok_ite (fun e => ?_) (fun e => ?_)
  · rw [if_pos e]; exact ok_nn (hP.at (by decide) (show P0 97 2 = some 99 from rfl)) (ok_t (ab_ok (t := 3) (N := 2) (kd_at (by omega) rfl) (n := 0) (by decide) (by decide)) (ok_some hm.1))
  rw [if_neg e]
  refine ok_ite (fun e => ?_) (fun e => ?_)
  · rw [if_pos e]; exact ok_nn (hP.at (by decide) (show P0 97 3 = some 100 from rfl)) (ok_t (ab_ok (t := 3) (N := 2) (kd_at (by omega) rfl) (n := 0) (by decide) (by decide)) (ok_some hm.2.1))
  rw [if_neg e]
  refine ok_ite (fun e => ?_) (fun e => ?_)
  · rw [if_pos e]; exact ok_nn hP11 (ok_t (ab_ok (t := 3) (N := 18) hq (n := 0) (by decide) (by decide)) (ok_some hs.day))
  rw [if_neg e]
  refine ok_ite (fun e => ?_) (fun e => ?_)
  · rw [if_pos e]
    refine ok_nn hP11 (ok_call (M_borne_eq hP hn hm hf hv hq hs hN) (ok_call (M_bitsOf_eq (bt_lt _ 8) hN) (ok_some ?_)))
    rw [pc_bt]
  rw [if_neg e]
  have at3 : ∀ p : Nat, p ≤ 7 → ∀ x : Int32, (5 + x) - 4 = nI p → OkP (fun z => z = nI (ct (at' (gS g) p) 8)) (nn (P 97 11) fun q10 => (f_M_those N nx D P 97 q10 ((5 + x) - 4)).bind fun z11 => (f_M_bitsOf N nx D P z11).bind fun z12 => some z12) := by
    intro p hp x hx
    rw [hx]
    refine ok_nn hP11 (ok_call (M_those_eq hP hn hm hf hv hq hs hN hp) (ok_call (M_bitsOf_eq (bt_lt _ 8) hN) (ok_some ?_)))
    rw [pc_bt]
  refine ok_ite (fun e => ?_) (fun e => ?_)
  · rw [if_pos e]; exact at3 5 (by decide) w (by rw [e]; decide)
  rw [if_neg e]
  refine ok_ite (fun e => ?_) (fun e => ?_)
  · rw [if_pos e]; exact at3 6 (by decide) w (by rw [e]; decide)
  rw [if_neg e]
  refine ok_ite (fun e => ?_) (fun e => ?_)
  · rw [if_pos e]; exact at3 7 (by decide) w (by rw [e]; decide)
  rw [if_neg e]
  refine ok_ite (fun e => ?_) (fun e => ?_)
  · rw [if_pos e]; exact ok_nn hP11 (ok_call (M_broken_eq hP hn hm hf hv hq hs hN) (ok_some rfl))
  rw [if_neg e]
  refine ok_ite (fun e => ?_) (fun e => ?_)
  · rw [if_pos e]; exact ok_some h.2.2.2.2.2.1.1
  rw [if_neg e]
  refine ok_ite (fun e => ?_) (fun e => ?_)
  · rw [if_pos e]; exact ok_some h.2.2.2.2.2.2.1
  rw [if_neg e]
  refine ok_ite (fun e => ?_) (fun e => ?_)
  · rw [if_pos e]; exact ok_some h.2.2.2.1.1
  rw [if_neg e]
  refine ok_ite (fun e => ?_) (fun e => ?_)
  · rw [if_pos e]; exact ok_some h.2.2.2.2.1.1
  rw [if_neg e]
  refine ok_ite (fun e => ?_) (fun e => ?_)
  · rw [if_pos e]; exact ok_some h.2.2.1.1
  rw [if_neg e]
  exact ok_some rfl
end MD
