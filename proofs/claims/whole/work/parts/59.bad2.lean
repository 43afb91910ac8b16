/-! the class: how likely somebody breaks, shortened -/
section OJ
variable {N nx : Nat} {D : Dt} {P : Ft} {g : Gs}
theorem gcd_eq {a b : Nat} (ha : a ≤ 100000000) (hb : b ≤ 100000000) (hN : 100 ≤ N) : f_H_greatestDivisor N nx D P (lN a) (lN b) = some (lN (Nat.gcd a b)) := by
  apply ok_val
  unfold f_H_greatestDivisor
  refine wk3_run (I := fun t l0 l2 i => i = nI t ∧ ∃ x y, l0 = lN x ∧ l2 = lN y ∧ x ≤ 100000000 ∧ y ≤ 100000000 ∧ Nat.gcd x y = Nat.gcd a b ∧ (t = 0 ∨ (y ≤ x ∧ x * y < 2 ^ (62 - t)))) 62 N _ _ _ (by omega) ⟨rfl, a, b, rfl, rfl, ha, hb, rfl, Or.inl rfl⟩ ?_ ?_
  · rintro t ht l0 l2 i ⟨rfl, x, y, rfl, rfl, hx, hy, hg, hI⟩ rec hrec
    have hy0 : lg_cmp (lN y) 0 = 0 ↔ y = 0 := by
      rw [lg_cmp_eq]
      exact pk_lEQ (b := 0) (by omega) (by decide)
    have hy1 : lN y = 0 ↔ y = 0 := pk_lEQ (b := 0) (by omega) (by decide)
    unfold f_H_greatestDivisor_3
    refine ok_f (by rw [lit 200, nI_le' (by decide) (by omega)]; omega) (ok_ite (fun c => ?_) (fun c => ?_))
    · have c := hy0.mp c
      refine ok_some ?_
      rw [c, Nat.gcd_zero_right] at hg
      rw [hg]
    · have c : ¬ y = 0 := fun d => c (hy0.mpr d)
      refine ok_f (fun d => c (hy1.mp d)) ?_
      rw [pk_lRem (by omega) (by omega) (by omega), nI_1]
      have hr : x % y < y := Nat.mod_lt _ (by omega)
      refine hrec _ _ _ ⟨rfl, y, x % y, rfl, rfl, hy, by omega, ?_, Or.inr ⟨by omega, ?_⟩⟩
      · rw [Nat.gcd_comm y (x % y), ← Nat.gcd_rec y x, Nat.gcd_comm y x]; exact hg
      · rcases hI with h0 | ⟨h1, h2⟩
        · subst h0
          have h3 : y * (x % y) ≤ 100000000 * 100000000 := Nat.mul_le_mul hy (by omega)
          exact Nat.lt_of_le_of_lt h3 (by decide)
        · have hd := Nat.div_add_mod x y
          have hq : 1 ≤ x / y := Nat.div_pos h1 (by omega)
          have hyq : y ≤ y * (x / y) := Nat.le_mul_of_pos_right y hq
          have h2r : 2 * (x % y) ≤ x := by omega
          have h4 : y * (2 * (x % y)) ≤ y * x := Nat.mul_le_mul_left y h2r
          have e1 : y * (2 * (x % y)) = 2 * (y * (x % y)) := by rw [← Nat.mul_assoc, Nat.mul_comm y 2, Nat.mul_assoc]
          have e2 : 2 ^ (62 - t) = 2 * 2 ^ (62 - (t + 1)) := by
            rw [show 62 - t = (62 - (t + 1)) + 1 by omega, Nat.pow_succ, Nat.mul_comm]
          rw [e1] at h4
          rw [e2, Nat.mul_comm x y] at h2
          omega
  · rintro l0 l2 i ⟨rfl, x, y, rfl, rfl, hx, hy, hg, hI⟩ rec
    have hy00 : y = 0 := by
      rcases hI with h0 | ⟨h1, h2⟩
      · cases h0
      · rcases Nat.eq_zero_or_pos y with c | c
        · exact c
        · have : 1 ≤ x * y := Nat.mul_pos (by omega) c
          have h2 : x * y < 1 := h2
          omega
    have hy0 : lg_cmp (lN y) 0 = 0 ↔ y = 0 := by
      rw [lg_cmp_eq]
      exact pk_lEQ (b := 0) (by omega) (by decide)
    unfold f_H_greatestDivisor_3
    refine ok_f (by decide) (ok_t (hy0.mpr hy00) (ok_some ?_))
    rw [hy00, Nat.gcd_zero_right] at hg
    rw [hg]
theorem H_bad (h : CR D P g) (ho : GOK g) (hn : 97 ≤ nx) (hN : 100 ≤ N) (x1 x2 x3 x4 : Int32) : OkP (fun z => z.1 = oBad g x1 x2 x3 x4 ∧ CR z.2 P g ∧ Hi D z.2) (f_H_bad N nx D P 0 x1 x2 x3 x4) := by
  have hP := h.1
  have hf := ho.1
  have hn5 := hf.2.1
  have hfa := FaA.of4 (nx := nx) hP hn
  have hsa := StA.of (nx := nx) (a := 14) hP hn (by decide)
  have hsb := StA.of (nx := nx) (a := 70) hP hn (by decide)
  have h68 : kd nx 68 = 0 := kd_at (by omega) rfl
  unfold f_H_bad oBad
  refine ok_t (kd_at (by omega) rfl) (ok_nn (hP.at (by decide) (show P0 0 1 = some 4 from rfl)) (ok_t hfa.1 (ok_call (hasPerson_i hfa h.2.2.1 hf x1) ?_)))
  by_cases q : isP (gF g) x1 = true
  · obtain ⟨p, rfl, hp⟩ := isP_up hf q
    rw [if_pos q]
    refine ok_f (by decide) ?_
    rcases isW (N := N) (nx := nx) (D := D) (P := P) (x := x2) (a := 0) (b := 8) (by decide) (by decide) with ⟨q2, n, rfl, hn1, hn8⟩ | ⟨q2, hc2⟩
    · refine ok_call q2 (ok_f (by decide) ?_)
      rcases isW (N := N) (nx := nx) (D := D) (P := P) (x := x3) (a := 0) (b := 10) (by decide) (by decide) with ⟨q3, x, rfl, hx1, hx⟩ | ⟨q3, hc3⟩
      · refine ok_call q3 (ok_f (by decide) ?_)
        rcases isW (N := N) (nx := nx) (D := D) (P := P) (x := x4) (a := 0) (b := 1) (by decide) (by decide) with ⟨q4, w, rfl, hw1, hw⟩ | ⟨q4, hc4⟩
        · rw [if_pos ⟨q, in_nI hn1 hn8 (by decide), in_nI hx1 hx (by decide), in_nI hw1 hw (by decide)⟩, cl (by omega), cl (by omega), cl (by omega)]
          refine ok_call q4 (ok_f (by decide) (ok_nn (hP.at (by decide) (show P0 0 10 = some 68 from rfl)) (ok_nn (hP.at (by decide) (show P0 0 3 = some 14 from rfl)) (ok_t h68 ?_))))
          have fr_cr : ∀ E : Dt, (∀ q, q < 68 ∨ 97 ≤ q → E q = D q) → CR E P g ∧ Hi D E := fun E hE => ⟨h.sc (fun q h1 h2 => by
            have h1 : ¬ (q = 3 ∨ (9 ≤ q ∧ q ≤ 13) ∨ (17 ≤ q ∧ q ≤ 19) ∨ 59 ≤ q) := h1
            exact hE q (by omega)) (fun k _ => by rw [hE 1 (by decide)]), fun q hq => hE q (by omega)⟩
          have hof : OkP (fun z => z.1 = lN (bw (gF g) p x n (gS g)) ∧ (∀ q, q < 68 ∨ 97 ≤ q → z.2 q = D q)) (f_B_breakingOf N nx D P 68 14 (nI p) (nI n) (nI x)) := by
            unfold f_B_breakingOf
            refine ok_t h68 (ok_pas (ok_pas (ok_pas (ok_call (rung_in (i := 0) hP hn (by decide)) (ok_orS rfl (ok_t hsb.1 ?_))))))
            have hx3 : ∀ q, q ≠ 68 → upd2 (upd2 (upd2 D 68 1 (nI p)) 68 2 (nI n)) 68 3 (nI x) q = D q := fun q hq => by rw [upd2_n hq, upd2_n hq, upd2_n hq]
            have hBR : BR (upd2 (upd2 (upd2 D 68 1 (nI p)) 68 2 (nI n)) 68 3 (nI x)) (gF g) p n x := by
              refine ⟨h.2.2.1.nn (hx3 4 (by decide)) (hx3 5 (by decide)) (hx3 6 (by decide)) (hx3 7 (by decide)), ?_, ?_, ?_⟩
              · rw [upd2_s, upd_n (by decide), upd2_s, upd_n (by decide), upd2_s, upd_s]
              · rw [upd2_s, upd_n (by decide), upd2_s, upd_s]
              · rw [upd2_s, upd_s]
            refine ok_bind (copyFrom_ok hsb hsa (by decide) (h.2.2.2.1.at1 (hx3 14 (by decide)) (hx3 15 (by decide)) (hx3 16 (by decide))) hN) (fun E hE => ?_)
            have hBE : BR E (gF g) p n x := by
              unfold BR
              rw [hE.2 68 (by decide) (by decide) (by decide)]
              exact ⟨hBR.1.fr hE.2 (by decide), hBR.2⟩
            refine ok_bind (bFrom_ok hP hn hN hf hp hx hn8 n 24 0 1 E (gS g) (by omega) (by omega) (by decide) hBE hE.1 ho.2.1) ?_
            rintro ⟨z, F⟩ ⟨hz, hF⟩
            have hF : FrB 0 E F := hF
            refine ok_some ⟨by rw [Nat.one_mul] at hz; exact hz, fun q hq => ?_⟩
            show F q = D q
            rw [hF q (by omega), hE.2 q (by omega) (by omega) (by omega)]; exact hx3 q (by omega)
          refine ok_bind hof ?_
          rintro ⟨z, E⟩ ⟨rfl, hE⟩
          have h10 : (10 : Nat) ^ n ≤ 100000000 := Nat.le_trans (Nat.pow_le_pow_right (show 10 > 0 by decide) hn8) (show 10 ^ 8 ≤ 100000000 by decide)
          have hbw := bw_le (f := gF g) (p := p) hx n (gS g)
          have hp0 : 0 < (10 : Nat) ^ n := Nat.pow_pos (by decide)
          have hE : ∀ q, q < 68 ∨ 97 ≤ q → E q = D q := hE
          refine ok_call (tenTo_eq hn8 hN) ?_
          generalize bw (gF g) p x n (gS g) = A at hbw
          generalize (10 : Nat) ^ n = B at hbw h10 hp0
          have hG0 : 0 < Nat.gcd A B := Nat.gcd_pos_of_pos_right _ hp0
          have hGB : Nat.gcd A B ≤ B := Nat.gcd_le_right A hp0
          refine ok_call (gcd_eq (by omega) h10 hN) ?_
          have hz : ¬ lN (Nat.gcd A B) = 0 := fun d => by
            have := (pk_lEQ (b := 0) (by omega) (by decide)).mp d
            omega
          refine ok_t ((lg_cmp_ge _ _).mpr ((pk_lLE (a := 1) (by decide) (by omega)).mpr hG0)) (ok_ite (fun c => ok_f hz (ok_some ⟨?_, fr_cr E hE⟩)) (fun c => ok_f hz (ok_some ⟨?_, fr_cr E hE⟩)))
          · show Int64.toInt32 (lN A / lN (Nat.gcd A B)) = if nI w = 0 then _ else _
            rw [if_pos c, pk_lDiv (by omega) hG0 (by omega), lN_i]
          · show Int64.toInt32 (lN B / lN (Nat.gcd A B)) = if nI w = 0 then _ else _
            rw [if_neg c, pk_lDiv (by omega) hG0 (by omega), lN_i]
        · rw [if_neg (fun c => hc4 c.2.2.2)]
          exact ok_call q4 (ok_t rfl (ok_some ⟨rfl, h, Hi.rf⟩))
      · rw [if_neg (fun c => hc3 c.2.2.1)]
        exact ok_call q3 (ok_t rfl (ok_some ⟨rfl, h, Hi.rf⟩))
    · rw [if_neg (fun c => hc2 c.2.1)]
      exact ok_call q2 (ok_t rfl (ok_some ⟨rfl, h, Hi.rf⟩))
  · rw [if_neg q, if_neg (fun c => q c.1)]
    exact ok_t rfl (ok_some ⟨rfl, h, Hi.rf⟩)
end OJ
