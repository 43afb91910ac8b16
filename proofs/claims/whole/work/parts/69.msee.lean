/-! the reference: what is seen -/
section MI
variable {N nx : Nat} {D : Dt} {P : Ft} {g : Gs}
theorem M_see_ok (hP : PB P) (h : MR D g) (ho : GOK g) (hn : 117 ≤ nx) (x y w : Int32) : OkP (fun z => z.1 = (oSee g x y w).1 ∧ MR z.2 (oSee g x y w).2 ∧ Lo D z.2) (f_M_see N nx D P 97 x y w) := by
  have hf := ho.1
  have hk8 := hf.2.2.1
  have hm := ho.2.2.2.2.2.1.1
  have n2 := h.2.2.2.2.2.1
  have m2 := h.2.2.2.2.2.2
  unfold f_M_see oSee
  refine ok_t (kd_at (by omega) rfl) (ok_call (M_isPin_eq hP hn h.1 hf x) ?_)
  by_cases q : isT (gF g) x = true
  · have q' : ¬ x < 0 ∧ x < nI (fK (gF g)) := of_decide_eq_true q
    obtain ⟨t, rfl, ht⟩ := isT_up hf q
    rw [if_pos q]
    refine ok_f (by decide) (ok_call M_in_eq ?_)
    show OkP _ (if (if nI 0 ≤ y ∧ y ≤ nI 20 then (1 : Int32) else 0) = 0 then _ else _)
    by_cases r : nI 0 ≤ y ∧ y ≤ nI 20
    · obtain ⟨n, rfl, hn1, hn2⟩ := up r.1 r.2 (by decide) (by decide)
      rw [if_pos r]
      refine ok_f (by decide) (ok_call M_in_eq ?_)
      show OkP _ (if (if nI 0 ≤ w ∧ w ≤ nI 40 then (1 : Int32) else 0) = 0 then _ else _)
      by_cases r2 : nI 0 ≤ w ∧ w ≤ nI 40
      · obtain ⟨v, rfl, hv1, hv2⟩ := up r2.1 r2.2 (by decide) (by decide)
        rw [if_pos r2, if_pos ⟨q', r, r2⟩, n2.1, cl (n := t) (by omega), cl (n := n) (by omega), cl (n := v) (by omega)]
        refine ok_f (by decide) ?_
        by_cases z : (gN g).1 < 8
        · rw [if_pos z]
          have ab : ∀ a, a = 112 ∨ a = 113 ∨ a = 114 → ab nx a 3 (nI (gN g).1) = true := by
            rintro a (rfl | rfl | rfl) <;> exact ab_ok (t := 3) (N := 8) (kd_at (by omega) rfl) (by omega) (by decide)
          refine ok_f (by rw [lit 8, nI_inj (by omega) (by decide)]; omega) (ok_nn (hP.at (by decide) (show P0 97 19 = some 112 from rfl)) (ok_t (ab 112 (by decide)) (ok_pas (ok_nn (hP.at (by decide) (show P0 97 20 = some 113 from rfl)) ?_))))
          rw [cl (by omega), upd2_n (show 97 ≠ 112 by decide), n2.1]
          refine ok_t (ab 113 (by decide)) (ok_pas (ok_nn (hP.at (by decide) (show P0 97 21 = some 114 from rfl)) ?_))
          rw [cl (by omega), upd2_n (show 97 ≠ 113 by decide), upd2_n (show 97 ≠ 112 by decide), n2.1]
          refine ok_t (ab 114 (by decide)) (ok_pas (ok_pas ?_))
          rw [cl (by omega), upd2_n (show 97 ≠ 114 by decide), upd2_n (show 97 ≠ 113 by decide), upd2_n (show 97 ≠ 112 by decide), n2.1, nI_1]
          have e9 : ∀ k, k ≠ 22 → upd2 (upd2 (upd2 (upd2 D 112 (gN g).1 (nI t)) 113 (gN g).1 (nI n)) 114 (gN g).1 (nI v)) 97 22 (nI ((gN g).1 + 1)) 97 k = D 97 k := fun k hk => by
            rw [upd2_s, upd_n hk, upd2_n (by decide), upd2_n (by decide), upd2_n (by decide)]
          have e1 : upd2 (upd2 (upd2 (upd2 D 112 (gN g).1 (nI t)) 113 (gN g).1 (nI n)) 114 (gN g).1 (nI v)) 97 22 (nI ((gN g).1 + 1)) 97 22 = nI ((gN g).1 + 1) := by rw [upd2_s, upd_s]
          have e : ∀ q, q ≠ 97 → q < 112 ∨ 114 < q → upd2 (upd2 (upd2 (upd2 D 112 (gN g).1 (nI t)) 113 (gN g).1 (nI n)) 114 (gN g).1 (nI v)) 97 22 (nI ((gN g).1 + 1)) q = D q := fun q a b => by
            rw [upd2_n (by omega), upd2_n (by omega), upd2_n (by omega), upd2_n (by omega)]
          refine ok_some ⟨e1, ?_, fun q hq => e q (by omega) (by omega)⟩
          refine h.nt (n := ((gN g).1 + 1, fun i => if i = (gN g).1 then (t, n, v) else (gN g).2 i)) (m := gM g) (fun q a b => e q a (by omega)) (fun k a b => e9 k a) ⟨e1, fun i hi => ?_⟩ ⟨(e9 24 (by decide)).trans m2.1, fun i hi => (congrFun (e 115 (by decide) (by decide)) i).trans (m2.2 i hi)⟩
          have hi : i < (gN g).1 + 1 := hi
          show upd2 (upd2 (upd2 (upd2 D 112 (gN g).1 (nI t)) 113 (gN g).1 (nI n)) 114 (gN g).1 (nI v)) 97 22 (nI ((gN g).1 + 1)) 112 i = nI (if i = (gN g).1 then (t, n, v) else (gN g).2 i).1 ∧ upd2 (upd2 (upd2 (upd2 D 112 (gN g).1 (nI t)) 113 (gN g).1 (nI n)) 114 (gN g).1 (nI v)) 97 22 (nI ((gN g).1 + 1)) 113 i = nI (if i = (gN g).1 then (t, n, v) else (gN g).2 i).2.1 ∧ upd2 (upd2 (upd2 (upd2 D 112 (gN g).1 (nI t)) 113 (gN g).1 (nI n)) 114 (gN g).1 (nI v)) 97 22 (nI ((gN g).1 + 1)) 114 i = nI (if i = (gN g).1 then (t, n, v) else (gN g).2 i).2.2
          rw [upd2_n (show 112 ≠ 97 by decide), upd2_n (show 112 ≠ 114 by decide), upd2_n (show 112 ≠ 113 by decide), upd2_s, upd2_n (show 113 ≠ 97 by decide), upd2_n (show 113 ≠ 114 by decide), upd2_s, upd2_n (show 114 ≠ 97 by decide), upd2_s, upd2_n (show 113 ≠ 112 by decide), upd2_n (show 114 ≠ 113 by decide), upd2_n (show 114 ≠ 112 by decide)]
          by_cases c : i = (gN g).1
          · rw [if_pos c, c, upd_s, upd_s, upd_s]; exact ⟨rfl, rfl, rfl⟩
          · rw [if_neg c, upd_n c, upd_n c, upd_n c]; exact n2.2 i (by omega)
        · rw [if_neg z]
          exact ok_t (by rw [show (gN g).1 = 8 by omega]; rfl) (ok_some ⟨rfl, h, Lo.rf⟩)
      · rw [if_neg r2, if_neg (fun c => r2 c.2.2)]
        exact ok_t rfl (ok_some ⟨rfl, h, Lo.rf⟩)
    · rw [if_neg r, if_neg (fun c => r c.2.1)]
      exact ok_t rfl (ok_some ⟨rfl, h, Lo.rf⟩)
  · rw [if_neg q, if_neg (fun c => q (decide_eq_true c.1))]
    exact ok_t rfl (ok_some ⟨rfl, h, Lo.rf⟩)
end MI
