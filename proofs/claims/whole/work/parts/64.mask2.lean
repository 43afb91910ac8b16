/-! the reference: what it answers of persons, pins, the heart, counts -/
theorem shr_ok : ∀ b, b < 256 → ∀ t, t < 8 → ((nI b) >>> (nI t &&& 31)) &&& 1 = nI (if b.testBit t = true then 1 else 0) := by decide +kernel
theorem mp_eq {f : Fam} {s : St} (hf : FamOK f) (hv : StOK f s) {t : Nat} (ht : t < fK f) : mp (sP s t) = sP s t ∧ sP s t ≤ 7 := by
  have h1 := (hv.1 t ht).1
  have h2 := hf.2.1
  unfold mp
  split <;> omega
section MC
variable {N nx : Nat} {D : Dt} {P : Ft} {g : Gs}
theorem M_bitsOf_eq {b : Nat} (hb : b < 256) (hN : 100 ≤ N) : f_M_bitsOf N nx D P (nI b) = some (nI (pc b)) := by
  apply ok_val
  unfold f_M_bitsOf
  refine wk2_run (I := fun t c i => i = nI t ∧ c = nI (ct (fun i => b.testBit i) t)) 8 N _ _ (by omega) ⟨rfl, rfl⟩ ?_ ?_
  · rintro t ht c i ⟨rfl, rfl⟩ rec hrec
    unfold f_M_bitsOf_4
    refine ok_f (le8 ht) ?_
    rw [shr_ok b hb t ht, nI_1, nI_add]
    exact hrec _ _ ⟨rfl, rfl⟩
  · rintro c i ⟨rfl, rfl⟩ rec
    unfold f_M_bitsOf_4
    exact ok_t (by decide) (ok_some rfl)
theorem k106 (hn : 117 ≤ nx) : kd nx 106 = 30018 := kd_at (by omega) rfl
theorem k109 (hn : 117 ≤ nx) : kd nx 109 = 30018 := kd_at (by omega) rfl
theorem M_person_eq (hP : PB P) (h : MR D g) (ho : GOK g) (hn : 117 ≤ nx) (hN : 100 ≤ N) (x w : Int32) : f_M_person N nx D P 97 x w = some (oPerson g x w) := by
  have hf := ho.1
  have hv := ho.2.1
  have hn5 := hf.2.1
  have hm := h.1
  have hs := h.2.1
  have hq := k106 hn
  have hP11 : P 97 11 = some 106 := hP.at (by decide) rfl
  apply ok_val
  unfold f_M_person oPerson
  refine ok_t (kd_at (by omega) rfl) (ok_call (M_isPerson_eq hP hn hm hf x) ?_)
  by_cases q : isP (gF g) x = true
  · obtain ⟨p, rfl, hp⟩ := isP_up hf q
    rw [if_pos q, if_pos q, cl (by omega)]
    refine ok_f (by decide) (ok_ite (fun e => ?_) (fun e => ok_ite (fun e1 => ?_) (fun e1 => ok_ite (fun e2 => ?_) (fun e2 => ok_ite (fun e3 => ?_) (fun e3 => ?_)))))
    · rw [if_pos e]
      refine ok_nn (hP.at (by decide) (show P0 97 5 = some 102 from rfl)) (ok_t (ab_ok (t := 3) (N := 10) (kd_at (by omega) rfl) (by omega) (by decide)) (ok_some ?_))
      exact hm.2.2.2.2.2.1 p hp
    · rw [if_neg e, if_pos e1]
      exact ok_nn hP11 (ok_call (M_load_eq hP hn hm hf hv hq hs hN (by omega)) (ok_some rfl))
    · rw [if_neg e, if_neg e1, if_pos e2]
      exact ok_nn hP11 (ok_call (M_those_eq hP hn hm hf hv hq hs hN (by omega)) (ok_some rfl))
    · rw [if_neg e, if_neg e1, if_neg e2, if_pos e3]
      refine ok_nn hP11 (ok_call (M_doesBreak_eq hP hn hm hf hv hq hs hN hp) ?_)
      unfold bI
      by_cases r : brk (gF g) (gS g) p = true
      · rw [if_pos r]; exact ok_f (by decide) (ok_some rfl)
      · rw [if_neg r]; exact ok_t rfl (ok_some rfl)
    · rw [if_neg e, if_neg e1, if_neg e2, if_neg e3]
      exact ok_some rfl
  · rw [if_neg q, if_neg q]
    exact ok_t rfl (ok_some rfl)
theorem M_heart_eq (hP : PB P) (h : MR D g) (ho : GOK g) (hn : 117 ≤ nx) (hN : 100 ≤ N) (w : Int32) : f_M_heart N nx D P 97 w = some (oHeart g w) := by
  have hf := ho.1
  have hv := ho.2.1
  have hm := h.1
  have hs := h.2.1
  have hq := k106 hn
  have hP11 : P 97 11 = some 106 := hP.at (by decide) rfl
  have hP4 : P 97 4 = some 101 := hP.at (by decide) rfl
  have k101 : kd nx 101 = 30006 := kd_at (by omega) rfl
  apply ok_val
  unfold f_M_heart oHeart
  refine ok_t (kd_at (by omega) rfl) (ok_ite (fun e => ?_) (fun e => ok_ite (fun e1 => ?_) (fun e1 => ok_ite (fun e2 => ?_) (fun e2 => ok_ite (fun e3 => ?_) (fun e3 => ok_ite (fun e4 => ?_) (fun e4 => ok_ite (fun e5 => ?_) (fun e5 => ok_ite (fun e6 => ?_) (fun e6 => ?_))))))))
  · rw [if_pos e, e]
    exact ok_nn hP4 (ok_t (ab_ok (t := 3) (N := 6) k101 (n := 0) (by decide) (by decide)) (ok_some hm.2.2.1))
  · rw [if_neg e, if_pos e1, e1]
    exact ok_nn hP4 (ok_t (ab_ok (t := 3) (N := 6) k101 (n := 1) (by decide) (by decide)) (ok_some hm.2.2.2.1))
  · rw [if_neg e, if_neg e1, if_pos e2, e2]
    exact ok_nn hP4 (ok_t (ab_ok (t := 3) (N := 6) k101 (n := 2) (by decide) (by decide)) (ok_some hm.2.2.2.2.1))
  · rw [if_neg e, if_neg e1, if_neg e2, if_pos e3]
    exact ok_nn hP11 (ok_t (ab_ok (t := 3) (N := 18) hq (n := 1) (by decide) (by decide)) (ok_some hs.wal))
  · rw [if_neg e, if_neg e1, if_neg e2, if_neg e3, if_pos e4]
    refine ok_nn hP11 (ok_call (M_those_eq hP hn hm hf hv hq hs hN (p := 5) (by decide)) (ok_call (M_sizeOf_eq hP hn hm hf hv hq hs hN (bt_lt _ 8)) (ok_some ?_)))
    rw [sz_at]
  · rw [if_neg e, if_neg e1, if_neg e2, if_neg e3, if_neg e4, if_pos e5]
    refine ok_nn hP11 (ok_call (M_isFull_eq hP hn hm hf hv hq hs hN) ?_)
    unfold bI
    by_cases r : full (gF g) (gS g) = true
    · rw [if_pos r]; exact ok_f (by decide) (ok_some rfl)
    · rw [if_neg r]; exact ok_t rfl (ok_some rfl)
  · rw [if_neg e, if_neg e1, if_neg e2, if_neg e3, if_neg e4, if_neg e5, if_pos e6]
    refine ok_nn hP11 (ok_call (M_isAtDoor_eq hP hn hm hf hv hq hs) ?_)
    unfold bI
    by_cases r : sW (gS g) = fD (gF g)
    · rw [if_pos r, if_pos (decide_eq_true r)]; exact ok_f (by decide) (ok_some rfl)
    · rw [if_neg r, if_neg (fun e => r (of_decide_eq_true e))]; exact ok_t rfl (ok_some rfl)
  · rw [if_neg e, if_neg e1, if_neg e2, if_neg e3, if_neg e4, if_neg e5, if_neg e6]; exact ok_some rfl
theorem M_pin_eq (hP : PB P) (h : MR D g) (ho : GOK g) (hn : 117 ≤ nx) (hN : 100 ≤ N) (x w : Int32) : f_M_pin N nx D P 97 x w = some (oPin g x w) := by
  have hf := ho.1
  have hv := ho.2.1
  have hk8 := hf.2.2.1
  have hm := h.1
  have hs := h.2.1
  have hq := k106 hn
  have hP11 : P 97 11 = some 106 := hP.at (by decide) rfl
  apply ok_val
  unfold f_M_pin oPin
  refine ok_t (kd_at (by omega) rfl) (ok_call (M_isPin_eq hP hn hm hf x) ?_)
  by_cases q : isT (gF g) x = true
  · obtain ⟨t, rfl, ht⟩ := isT_up hf q
    have hmp := mp_eq hf hv ht
    have hb := M_isBorne_eq (N := N) (P := P) hq hs (t := t) (by omega)
    have hpl : D 106 (2 + t) = nI (sP (gS g) t) := by rw [hs.pl (by omega), hmp.1]
    have hv4 := (hv.1 t ht).1
    have hn5 := hf.2.1
    rw [if_pos q, if_pos q, cl (by omega), ix2, ix10]
    refine ok_f (by decide) (ok_ite (fun e => ?_) (fun e => ok_ite (fun e1 => ?_) (fun e1 => ok_ite (fun e2 => ?_) (fun e2 => ok_ite (fun e3 => ?_) (fun e3 => ok_ite (fun e4 => ?_) (fun e4 => ?_))))))
    · rw [if_pos e]; exact ok_nn (hP.at (by decide) (show P0 97 6 = some 103 from rfl)) (ok_t (ab_ok (t := 3) (N := 16) (kd_at (by omega) rfl) (by omega) (by decide)) (ok_some (hm.2.2.2.2.2.2 t ht).1))
    · rw [if_neg e, if_pos e1]; exact ok_nn (hP.at (by decide) (show P0 97 7 = some 104 from rfl)) (ok_t (ab_ok (t := 3) (N := 16) (kd_at (by omega) rfl) (by omega) (by decide)) (ok_some (hm.2.2.2.2.2.2 t ht).2))
    · rw [if_neg e, if_neg e1, if_pos e2]
      refine ok_nn hP11 (ok_t (ab_ok (t := 3) (N := 18) hq (by omega) (by decide)) (ok_some ?_))
      rw [cl (by omega)]; exact hs.sz (by omega)
    · rw [if_neg e, if_neg e1, if_neg e2, if_pos e3]
      refine ok_nn hP11 (ok_call hb ?_)
      by_cases r : sP (gS g) t < 5
      · rw [if_pos r]
        exact ok_f (by decide) (ok_some (by rw [show sP (gS g) t - 4 = 0 by omega]; rfl))
      · rw [if_neg r]
        refine ok_t rfl (ok_t (ab_ok (t := 3) (N := 18) hq (by omega) (by decide)) (ok_some ?_))
        rw [cl (by omega), hpl]
        have : ∀ p, p < 8 → 5 ≤ p → (nI p - 5) + 1 = nI (p - 4) := by decide
        exact this _ (by omega) (by omega)
    · rw [if_neg e, if_neg e1, if_neg e2, if_neg e3, if_pos e4]
      refine ok_nn hP11 (ok_call hb ?_)
      by_cases r : sP (gS g) t < 5
      · rw [if_pos r, if_pos r]
        refine ok_f (by decide) (ok_t (ab_ok (t := 3) (N := 18) hq (by omega) (by decide)) (ok_some ?_))
        rw [cl (by omega)]; exact hpl
      · rw [if_neg r, if_neg r]
        exact ok_t rfl (ok_some rfl)
    · rw [if_neg e, if_neg e1, if_neg e2, if_neg e3, if_neg e4]; exact ok_some rfl
  · rw [if_neg q, if_neg q]
    exact ok_t rfl (ok_some rfl)
end MC
