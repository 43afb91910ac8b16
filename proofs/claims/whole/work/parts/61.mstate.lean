/-! the reference: where it keeps what stands -/
def mp (p : Nat) : Nat := if p < 7 then p else 7
def st18 (s : St) (j : Nat) : Int32 := if j = 0 then sD s else if j = 1 then nI (sW s) else if j < 10 then nI (mp (sP s (j - 2))) else nI (sZ s (j - 10))
def RStd (r : Nat → Int32) (o : Nat) (s : St) : Prop := ∀ j, j < 18 → r (o + j) = st18 s j
def MF (D : Dt) (f : Fam) : Prop := D 99 0 = nI (fN f) ∧ D 100 0 = nI (fK f) ∧ D 101 0 = nI (fR f) ∧ D 101 1 = nI (fD f) ∧ D 101 2 = nI (fQ f) ∧ (∀ p, p < fN f → D 102 p = nI (fC f p)) ∧ ∀ t, t < fK f → D 103 t = nI (fO f t) ∧ D 104 t = nI (fS f t)
def MR (D : Dt) (g : Gs) : Prop := MF D (gF g) ∧ RStd (D 106) 0 (gS g) ∧ (D 97 1 = nI (gT g).1 ∧ ∀ i, i < (gT g).1 → D 98 i = nI ((gT g).2 i)) ∧ (D 97 13 = nI (gP g).1 ∧ ∀ i, i < (gP g).1 → RStd (D 107) (18 * i) ((gP g).2 i)) ∧ (D 97 15 = nI (gK g).1 ∧ ∀ i, i < (gK g).1 → RStd (D 108) (18 * i) ((gK g).2 i)) ∧ (D 97 22 = nI (gN g).1 ∧ ∀ i, i < (gN g).1 → D 112 i = nI ((gN g).2 i).1 ∧ D 113 i = nI ((gN g).2 i).2.1 ∧ D 114 i = nI ((gN g).2 i).2.2) ∧ (D 97 24 = nI (gM g).1 ∧ ∀ i, i < (gM g).1 → D 115 i = nI ((gM g).2 i))
/-- the class's cells have not changed -/
def Lo (D E : Dt) : Prop := ∀ q, q < 97 → E q = D q
theorem Lo.rf {D : Dt} : Lo D D := fun _ _ => rfl
theorem Lo.tr {D E F : Dt} (h : Lo D E) (g : Lo E F) : Lo D F := fun q a => (g q a).trans (h q a)
theorem RStd.day {r : Nat → Int32} {s : St} (h : RStd r 0 s) : r 0 = sD s := by
  have := h 0 (by decide); rwa [Nat.zero_add] at this
theorem RStd.wal {r : Nat → Int32} {s : St} (h : RStd r 0 s) : r 1 = nI (sW s) := by
  have := h 1 (by decide); rwa [Nat.zero_add] at this
theorem RStd.pl {r : Nat → Int32} {s : St} (h : RStd r 0 s) {t : Nat} (ht : t < 8) : r (2 + t) = nI (mp (sP s t)) := by
  have := h (2 + t) (by omega)
  rw [Nat.zero_add] at this
  rw [this]
  unfold st18
  rw [if_neg (by omega), if_neg (by omega), if_pos (by omega), show 2 + t - 2 = t by omega]
theorem RStd.sz {r : Nat → Int32} {s : St} (h : RStd r 0 s) {t : Nat} (ht : t < 8) : r (10 + t) = nI (sZ s t) := by
  have := h (10 + t) (by omega)
  rw [Nat.zero_add] at this
  rw [this]
  unfold st18
  rw [if_neg (by omega), if_neg (by omega), if_neg (by omega), show 10 + t - 10 = t by omega]
theorem mp_le (p : Nat) : mp p ≤ 7 := by unfold mp; split <;> omega
theorem pre_up {x : Int32} {K : Nat} (hK : K < 1000) : (nI K - 1 < x) ↔ ¬ x < nI K := by
  rw [Int32.lt_iff_toInt_lt, Int32.lt_iff_toInt_lt]
  have e : (nI K - 1).toInt = (K : Int) - 1 := by
    cases K with
    | zero => decide
    | succ k => rw [nI_pred, nI_toInt (by omega)]; omega
  rw [e, nI_toInt (by omega)]
  omega
section MA
variable {N nx q : Nat} {D : Dt} {P : Ft} {f : Fam} {s : St}
theorem M_in_eq {x lo hi : Int32} : f_M_in N nx D P x lo hi = some (if lo ≤ x ∧ x ≤ hi then 1 else 0) := by
  unfold f_M_in
  by_cases c : x < lo
  · rw [if_pos c, if_neg (fun d => Int32.not_lt.mpr d.1 c)]
  · rw [if_neg c]
    by_cases d : hi < x
    · rw [if_pos d, if_neg (fun e => Int32.not_lt.mpr e.2 d)]
    · rw [if_neg d, if_pos ⟨Int32.not_lt.mp c, Int32.not_lt.mp d⟩]
theorem in_b {x : Int32} {K : Nat} (hK : K < 1000) : f_M_in N nx D P x 0 (nI K - 1) = some (if decide (¬ x < 0 ∧ x < nI K) = true then 1 else 0) := by
  unfold f_M_in
  by_cases c : x < 0
  · rw [if_pos c, if_neg (fun d => (of_decide_eq_true d).1 c)]
  · rw [if_neg c]
    by_cases d : x < nI K
    · rw [if_neg (fun e => (pre_up hK).mp e d), if_pos (decide_eq_true ⟨c, d⟩)]
    · rw [if_pos ((pre_up hK).mpr d), if_neg (fun e => d (of_decide_eq_true e).2)]
theorem M_isPerson_eq (hP : PB P) (hn : 117 ≤ nx) (hm : MF D f) (hf : FamOK f) (x : Int32) : f_M_isPerson N nx D P 97 x = some (if isP f x = true then 1 else 0) := by
  have := hf.2.1
  apply ok_val
  unfold f_M_isPerson isP
  refine ok_t (kd_at (by omega) rfl) (ok_nn (hP.at (by decide) (show P0 97 2 = some 99 from rfl)) (ok_t (ab_ok (t := 3) (N := 2) (kd_at (by omega) rfl) (n := 0) (by decide) (by decide)) ?_))
  show OkP _ ((f_M_in N nx D P x 0 (D 99 0 - 1)).bind _)
  rw [hm.1]
  refine ok_call (in_b (by omega)) (ok_t ?_ (ok_some rfl))
  split
  · exact Or.inr rfl
  · exact Or.inl rfl
theorem M_isPin_eq (hP : PB P) (hn : 117 ≤ nx) (hm : MF D f) (hf : FamOK f) (x : Int32) : f_M_isPin N nx D P 97 x = some (if isT f x = true then 1 else 0) := by
  have := hf.2.2.1
  apply ok_val
  unfold f_M_isPin isT
  refine ok_t (kd_at (by omega) rfl) (ok_nn (hP.at (by decide) (show P0 97 3 = some 100 from rfl)) (ok_t (ab_ok (t := 3) (N := 2) (kd_at (by omega) rfl) (n := 0) (by decide) (by decide)) ?_))
  show OkP _ ((f_M_in N nx D P x 0 (D 100 0 - 1)).bind _)
  rw [hm.2.1]
  refine ok_call (in_b (by omega)) (ok_t ?_ (ok_some rfl))
  split
  · exact Or.inr rfl
  · exact Or.inl rfl
theorem ix2 (t : Nat) : (2 : Int32) + nI t = nI (2 + t) := nI_add 2 t
theorem ix10 (t : Nat) : (10 : Int32) + nI t = nI (10 + t) := nI_add 10 t
theorem M_isBorne_eq (hq : kd nx q = 30018) (hs : RStd (D q) 0 s) {t : Nat} (ht : t < 8) : f_M_isBorne N nx D P q (nI t) = some (if sP s t < 5 then 1 else 0) := by
  have := mp_le (sP s t)
  apply ok_val
  unfold f_M_isBorne
  rw [ix2]
  refine ok_t (ab_ok (t := 3) (N := 18) hq (by omega) (by decide)) ?_
  rw [cl (by omega), hs.pl ht]
  by_cases c : sP s t < 5
  · rw [if_pos c]
    refine ok_f ?_ (ok_some rfl)
    rw [lit 5, nI_le' (by decide) (by omega)]
    unfold mp; split <;> omega
  · rw [if_neg c]
    refine ok_t ?_ (ok_some rfl)
    rw [lit 5, nI_le' (by decide) (by omega)]
    unfold mp; split <;> omega
theorem M_isAtDoor_eq (hP : PB P) (hn : 117 ≤ nx) (hm : MF D f) (hf : FamOK f) (hv : StOK f s) (hq : kd nx q = 30018) (hs : RStd (D q) 0 s) : f_M_isAtDoor N nx D P 97 q = some (if sW s = fD f then 1 else 0) := by
  have h1 := hf.2.2.2.2.2.1
  have h2 := hv.2.2
  apply ok_val
  unfold f_M_isAtDoor
  refine ok_t (kd_at (by omega) rfl) (ok_t (ab_ok (t := 3) (N := 18) hq (n := 1) (by decide) (by decide)) (ok_nn (hP.at (by decide) (show P0 97 4 = some 101 from rfl)) (ok_t (ab_ok (t := 3) (N := 6) (kd_at (by omega) rfl) (n := 1) (by decide) (by decide)) ?_)))
  show OkP _ (if D q 1 = D 101 1 then _ else _)
  rw [hs.wal, hm.2.2.2.1]
  by_cases c : sW s = fD f
  · rw [if_pos c]; exact ok_t (by rw [c]) (ok_some rfl)
  · rw [if_neg c]; exact ok_f (by rw [nI_inj (by omega) (by omega)]; exact c) (ok_some rfl)
theorem M_has_eq {b t : Nat} (hb : b < 256) (ht : t < 8) : f_M_has N nx D P (nI b) (nI t) = some (if b.testBit t = true then 1 else 0) := by
  have h := has_ok b hb t ht
  unfold f_M_has
  by_cases c : b.testBit t = true
  · rw [c] at h
    rw [if_pos (of_decide_eq_true h), if_pos c]
  · have h' : hasB (nI b) (nI t) = false := by rw [h]; exact Bool.eq_false_iff.mpr c
    rw [if_neg (of_decide_eq_false h'), if_neg c]
theorem orz (b : Nat) : nI b ||| 0 = nI b := Int32.or_zero
end MA
