/-! the reference: a standing taken to be tried -/
section MH
variable {N nx : Nat} {D : Dt} {P : Ft} {g : Gs}
/-- only the standing that is tried has changed -/
def Fr9 (D E : Dt) : Prop := ∀ q, q ≠ 109 → E q = D q
theorem Fr9.mr {E : Dt} (hf : Fr9 D E) (h : MR D g) : MR E g ∧ Lo D E := ⟨h.sc (fun q _ _ _ a _ _ => hf q a) (fun k _ => by rw [hf 97 (by decide)]), fun q hq => hf q (by omega)⟩
theorem M_take_ok (hP : PB P) (h : MR D g) (hn : 117 ≤ nx) (hN : 100 ≤ N) : OkP (fun E => RStd (E 109) 0 (gS g) ∧ Fr9 D E) (f_M_take N nx D P 97) := by
  have hs := h.2.1
  unfold f_M_take
  refine ok_t (kd_at (by omega) rfl) ?_
  refine wk2_run (I := fun t E i => i = nI t ∧ (∀ j, j < t → E 109 j = D 106 j) ∧ Fr9 D E) 18 N _ _ (by omega) ⟨rfl, fun j hj => absurd hj (Nat.not_lt_zero j), fun q _ => rfl⟩ ?_ ?_
  · rintro t ht E i ⟨rfl, hI, hfr⟩ rec hrec
    unfold f_M_take_2
    refine ok_f (by rw [lit 18, nI_le' (by decide) (by omega)]; omega) (ok_nn (hP.at (by decide) (show P0 97 16 = some 109 from rfl)) (ok_nn (hP.at (by decide) (show P0 97 11 = some 106 from rfl)) (ok_t (ab_ok (t := 3) (N := 18) (kd_at (by omega) rfl) (by omega) (by decide)) (ok_t (ab_ok (t := 3) (N := 18) (kd_at (by omega) rfl) (by omega) (by decide)) (ok_pas ?_)))))
    rw [cl (by omega), nI_1, hfr 106 (by decide)]
    refine hrec _ _ ⟨rfl, fun j hj => ?_, fun q hq => ?_⟩
    · rw [upd2_s]
      by_cases c : j = t
      · rw [c, upd_s]
      · rw [upd_n c]; exact hI j (by omega)
    · rw [upd2_n hq]; exact hfr q hq
  · rintro E i ⟨rfl, hI, hfr⟩ rec
    unfold f_M_take_2
    refine ok_t (by decide) (ok_some ⟨fun j hj => ?_, hfr⟩)
    rw [Nat.zero_add, hI j hj]
    have := hs j hj
    rwa [Nat.zero_add] at this
end MH
