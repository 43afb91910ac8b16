/-! where the cells are -/
def PL : List (List (Option Nat)) := [[some 1, some 4, some 9, some 14, some 17, some 20, some 46, some 54, some 59, some 62, some 68], [some 2, some 3], [], [], [some 5, some 6, some 7, some 8], [], [], [], [], [some 10, some 11, some 12, some 13], [], [], [], [], [some 4, some 15, some 16], [], [], [some 4, some 18, some 19], [], [], [some 21], [], [some 4, some 23, some 24], [], [], [some 4, some 26, some 27], [], [], [some 4, some 29, some 30], [], [], [some 4, some 32, some 33], [], [], [some 4, some 35, some 36], [], [], [some 4, some 38, some 39], [], [], [some 4, some 41, some 42], [], [], [some 4, some 44, some 45], [], [], [some 47], [some 48, some 51], [some 4, some 49, some 50], [], [], [some 4, some 52, some 53], [], [], [some 55, some 56, some 57, some 58], [], [], [], [], [some 60, some 61], [], [], [some 63, some 64, some 65, some 66, some 67], [], [], [], [], [], [some 69], [some 70, some 73, some 76, some 79, some 82, some 85, some 88, some 91, some 94], [some 4, some 71, some 72], [], [], [some 4, some 74, some 75], [], [], [some 4, some 77, some 78], [], [], [some 4, some 80, some 81], [], [], [some 4, some 83, some 84], [], [], [some 4, some 86, some 87], [], [], [some 4, some 89, some 90], [], [], [some 4, some 92, some 93], [], [], [some 4, some 95, some 96], [], [], [some 98, none, some 99, some 100, some 101, some 102, some 103, some 104, some 105, none, none, some 106, some 107, none, some 108, none, some 109, some 110, some 111, some 112, some 113, some 114, none, some 115, none, some 116], [], [], [], [], [], [], [], [], [], [], [], [], [], [], [], [], [], [], []]
def P0 (a k : Nat) : Option Nat := (PL.getD a []).getD k none
def SL : List Nat := [14, 17, 22, 25, 28, 31, 34, 37, 40, 43, 48, 51, 70, 73, 76, 79, 82, 85, 88, 91, 94]
/-- the references are as made, but the shelf's rows (21), which move -/
def PB (P : Ft) : Prop := ∀ a k, a ≠ 21 → P a k = P0 a k
theorem PB.at {P : Ft} (h : PB P) {a k : Nat} {r : Option Nat} (ha : a ≠ 21) (e : P0 a k = r) : P a k = r := (h a k ha).trans e
theorem kd_at {nx a k : Nat} (h : a < nx) (e : SH a = k) : kd nx a = k := (kd_of h).trans e
def stOK (a : Nat) : Bool := decide (a + 2 < 97) && decide (9 ≤ a) && decide (a ≠ 21) && decide (SH a = 7) && decide (SH (a + 1) = 30008) && decide (SH (a + 2) = 30008) && decide (P0 a 0 = some 4) && decide (P0 a 1 = some (a + 1)) && decide (P0 a 2 = some (a + 2))
theorem SL_ok : SL.all stOK = true := by decide +kernel
theorem StA.of {nx a : Nat} {P : Ft} (hP : PB P) (hn : 97 ≤ nx) (ha : a ∈ SL) : StA nx P a := by
  have h := List.all_eq_true.mp SL_ok a ha
  unfold stOK at h
  simp only [Bool.and_eq_true, decide_eq_true_eq] at h
  obtain ⟨⟨⟨⟨⟨⟨⟨⟨h1, h2⟩, h3⟩, h4⟩, h5⟩, h6⟩, h7⟩, h8⟩, h9⟩ := h
  exact ⟨kd_at (by omega) h4, kd_at (by omega) h5, kd_at (by omega) h6, hP.at h3 h7, hP.at h3 h8, hP.at h3 h9⟩
theorem SL_ge {a : Nat} (ha : a ∈ SL) : 9 ≤ a ∧ a + 2 < 97 := by
  have h := List.all_eq_true.mp SL_ok a ha
  unfold stOK at h
  simp only [Bool.and_eq_true, decide_eq_true_eq] at h
  obtain ⟨⟨⟨⟨⟨⟨⟨⟨h1, h2⟩, h3⟩, h4⟩, h5⟩, h6⟩, h7⟩, h8⟩, h9⟩ := h
  exact ⟨h2, h1⟩
theorem FaA.of4 {nx : Nat} {P : Ft} (hP : PB P) (hn : 97 ≤ nx) : FaA nx P 4 := ⟨kd_at (by omega) rfl, kd_at (by omega) rfl, kd_at (by omega) rfl, kd_at (by omega) rfl, kd_at (by omega) rfl, hP.at (by decide) rfl, hP.at (by decide) rfl, hP.at (by decide) rfl, hP.at (by decide) rfl⟩
theorem FaA.of9 {nx : Nat} {P : Ft} (hP : PB P) (hn : 97 ≤ nx) : FaA nx P 9 := ⟨kd_at (by omega) rfl, kd_at (by omega) rfl, kd_at (by omega) rfl, kd_at (by omega) rfl, kd_at (by omega) rfl, hP.at (by decide) rfl, hP.at (by decide) rfl, hP.at (by decide) rfl, hP.at (by decide) rfl⟩
section SC
variable {N nx a b : Nat} {D : Dt} {P : Ft} {f : Fam} {s : St}
/-- one standing copied into another -/
theorem copyFrom_ok (hs : StA nx P a) (hb : StA nx P b) (hab : a + 3 ≤ b ∨ b + 3 ≤ a) (hc : CS D b s) (hN : 100 ≤ N) : OkP (fun D' => CS D' a s ∧ Fr3 D D' a) (f_C_copyFrom N nx D P a b) := by
  obtain ⟨k1, k2, k3, p0, p1, p2⟩ := hs
  obtain ⟨m1, m2, m3, q0, q1, q2⟩ := hb
  unfold f_C_copyFrom
  refine ok_t k1 ?_
  refine wk2_run (I := fun t E i => (∀ j, j < t → E (a + 1) j = nI (sZ s j) ∧ E (a + 2) j = cw (sP s j)) ∧ Fr3 D E a ∧ i = nI t) 8 N _ _ (by omega) ⟨fun j hj => absurd hj (Nat.not_lt_zero j), Fr3.rf, rfl⟩ ?_ ?_
  · rintro t ht E i ⟨hE, hfr, rfl⟩ rec hrec
    obtain ⟨h1, h2⟩ := hc.2.2 t ht
    have e1 : E (b + 1) t = nI (sZ s t) := by rw [hfr (b + 1) (by omega) (by omega) (by omega)]; exact h1
    have e2 : E (b + 2) t = cw (sP s t) := by rw [hfr (b + 2) (by omega) (by omega) (by omega)]; exact h2
    unfold f_C_copyFrom_2
    refine ok_f (le8 ht) (ok_nn p1 (ok_t m1 (ok_nn q1 (ok_t (ab_ok m2 ht (by decide)) (ok_t (ab_ok k2 ht (by decide)) (ok_pas (ok_nn p2 (ok_nn q2 (ok_t (ab_ok m3 ht (by decide)) (ok_t (ab_ok k3 ht (by decide)) (ok_pas ?_)))))))))))
    rw [cl (by omega), e1, upd2_n (show b + 2 ≠ a + 1 by omega), e2]
    refine hrec _ _ ⟨fun j hj => ?_, (hfr.tr Fr3.u1).tr Fr3.u2, nI_1 t⟩
    rw [upd2_n (show a + 1 ≠ a + 2 by omega), upd2_s, upd2_s]
    by_cases q : j = t
    · subst q; rw [upd_s, upd_s]; exact ⟨rfl, rfl⟩
    · rw [upd_n q, upd_n q, upd2_n (show a + 2 ≠ a + 1 by omega)]; exact hE j (by omega)
  · rintro E i ⟨hE, hfr, rfl⟩ rec
    unfold f_C_copyFrom_2
    refine ok_t (by decide) (ok_t m1 (ok_pas (ok_pas (ok_some ⟨⟨?_, ?_, fun t ht => ?_⟩, (hfr.tr Fr3.u0).tr Fr3.u0⟩))))
    · rw [upd2_s, upd_n (by decide), upd2_s, upd_s, hfr b (by omega) (by omega) (by omega)]; exact hc.1
    · rw [upd2_s, upd_s, upd2_n (show b ≠ a by omega), hfr b (by omega) (by omega) (by omega)]; exact hc.2.1
    · rw [upd2_n (by omega), upd2_n (by omega), upd2_n (by omega), upd2_n (by omega)]; exact hE t ht
/-- how many would break, were a pin not there -/
theorem breakingWithout_ok (hs : StA nx P a) (hfa : FaA nx P 4) (hcf : CF D 4 f) (hc : CS D a s) (hf : FamOK f) (hv : StOK f s) (ha : 9 ≤ a) (t : Nat) (ht : t < 8) (hN : 100 ≤ N) : OkP (fun z => z.1 = nI (ct (brk f (setP s t 8)) (fN f)) ∧ CS z.2 a s ∧ Fr3 D z.2 a) (f_C_breakingWithout N nx D P a (nI t)) := by
  have h1 : CS (upd2 D (a + 2) t (-4)) a (setP s t 8) := hc.putP (q := 8)
  unfold f_C_breakingWithout
  refine ok_t hs.1 (ok_f (nI_nneg (by omega)) (ok_t (by rw [lit 8, nI_lt' (by omega) (by decide)]; exact ht) (ok_nn hs.2.2.2.2.2 (ok_t (ab_ok hs.2.2.1 ht (by decide)) (ok_t (ab_ok hs.2.2.1 ht (by decide)) (ok_pas ?_))))))
  rw [cl (by omega)]
  refine ok_call (howManyBreak_eq hs hfa (hcf.fr Fr3.u2 (by omega)) h1 hf (fun j => ?_) (fun j => hv.z40 j) hN) (ok_t (ab_ok hs.2.2.1 ht (by decide)) (ok_pas (ok_some ⟨rfl, ⟨?_, ?_, fun j hj => ⟨?_, ?_⟩⟩, Fr3.u2.tr Fr3.u2⟩)))
  · show (if j = t then 8 else sP s j) ≤ 8
    split
    · exact Nat.le_refl _
    · exact hv.p8 hf j
  · show upd2 (upd2 _ _ _ _) _ _ _ a 3 = _
    rw [upd2_n (by omega), upd2_n (by omega)]; exact hc.1
  · show upd2 (upd2 _ _ _ _) _ _ _ a 4 = _
    rw [upd2_n (by omega), upd2_n (by omega)]; exact hc.2.1
  · show upd2 (upd2 _ _ _ _) _ _ _ (a + 1) j = _
    rw [upd2_n (by omega), upd2_n (by omega)]; exact (hc.2.2 j hj).1
  · show upd2 (upd2 _ _ _ _) _ _ _ (a + 2) j = _
    rw [upd2_s]
    by_cases q : j = t
    · subst q; rw [upd_s]; exact (hc.2.2 j hj).2
    · rw [upd_n q, upd2_s, upd_n q]; exact (hc.2.2 j hj).2
/-- as the family is told -/
def iniS (f : Fam) (told : Nat → Nat) : St := (fun t => if t < fK f then fO f t else 8, fun t => if t < fK f then told t else 0, 0, 0)
theorem begin_ok (hs : StA nx P a) (hfa : FaA nx P 4) (hcf : CF D 4 f) (hf : FamOK f) (ha : 9 ≤ a) {told : Nat → Nat} (ht : ∀ t, t < fK f → D 8 t = nI (told t)) (hN : 100 ≤ N) : OkP (fun D' => CS D' a (iniS f told) ∧ Fr3 D D' a) (f_C_begin N nx D P a) := by
  obtain ⟨k1, k2, k3, p0, p1, p2⟩ := hs
  have hk := hf.2.2.1
  unfold f_C_begin
  refine ok_t k1 ?_
  refine wk2_run (I := fun t E i => (∀ j, j < t → E (a + 1) j = nI (sZ (iniS f told) j) ∧ E (a + 2) j = cw (sP (iniS f told) j)) ∧ Fr3 D E a ∧ i = nI t) 8 N _ _ (by omega) ⟨fun j hj => absurd hj (Nat.not_lt_zero j), Fr3.rf, rfl⟩ ?_ ?_
  · rintro t h8 E i ⟨hE, hfr, rfl⟩ rec hrec
    have hcfE := hcf.fr hfr (by omega)
    have h39 : ∀ (z : Int32) (v : Nat) (w : Int32), v = sZ (iniS f told) t → w = cw (sP (iniS f told) t) → (z = 0 ∧ w = -4 ∨ z ≠ 0 ∧ w = E 6 t) → OkP (fun D' => CS D' a (iniS f told) ∧ Fr3 D D' a) (f_C_begin_39 N nx rec E P a (nI t) z (a + 1) (nI t) (nI v)) := by
      intro z v w hv hw hz
      unfold f_C_begin_39
      have fin : OkP (fun D' => CS D' a (iniS f told) ∧ Fr3 D D' a) (rec (upd2 (upd2 E (a + 1) t (nI v)) (a + 2) t w) (nI t + 1)) := by
        refine hrec _ _ ⟨fun j hj => ?_, (hfr.tr Fr3.u1).tr Fr3.u2, nI_1 t⟩
        rw [upd2_n (show a + 1 ≠ a + 2 by omega), upd2_s, upd2_s]
        by_cases q : j = t
        · subst q; rw [upd_s, upd_s]; exact ⟨by rw [hv], hw⟩
        · rw [upd_n q, upd_n q, upd2_n (show a + 2 ≠ a + 1 by omega)]; exact hE j (by omega)
      refine ok_t (ab_ok k2 h8 (by decide)) (ok_pas (ok_nn p2 ?_))
      rw [cl (by omega)]
      rcases hz with ⟨hz, h4⟩ | ⟨hz, h4⟩
      · refine ok_t hz (ok_t (ab_ok k3 h8 (by decide)) (ok_pas ?_))
        rw [← h4]; exact fin
      · refine ok_f hz (ok_nn p0 (ok_t hfa.1 (ok_nn hfa.2.2.2.2.2.2.1 (ok_t (ab_ok hfa.2.2.1 h8 (by decide)) (ok_t (ab_ok k3 h8 (by decide)) (ok_pas ?_))))))
        rw [upd2_n (show 4 + 2 ≠ a + 1 by omega), ← h4]; exact fin
    unfold f_C_begin_2
    refine ok_f (le8 h8) (ok_nn p0 (ok_t hfa.1 ?_))
    rcases Nat.lt_or_ge t (fK f) with q | q
    · refine ok_call (hasPin_t hfa hcfE.2.1 hk q) (ok_nn p1 (ok_f (by decide) (ok_nn hfa.2.2.2.2.2.2.2.2 (ok_t (ab_ok hfa.2.2.2.2.1 h8 (by decide)) ?_))))
      rw [cl (by omega), hfr (4 + 4) (by omega) (by omega) (by omega), ht t q]
      refine h39 1 _ (nI (fO f t)) ?_ ?_ (Or.inr ⟨by decide, ((hcfE.2.2.2.2.2.2 t q).1).symm⟩)
      · exact (if_pos q).symm
      · have h5 := (hf.2.2.2.2.2.2.2.2.2 t q).1
        have h6 := hf.2.1
        rw [show sP (iniS f told) t = fO f t from if_pos q, cw_per (by omega)]
    · refine ok_call (hasPin_f hfa hcfE.2.1 hk q (by omega)) (ok_nn p1 (ok_t rfl ?_))
      refine h39 0 0 (-4) ?_ ?_ (Or.inl ⟨rfl, rfl⟩)
      · exact (if_neg (by omega)).symm
      · rw [show sP (iniS f told) t = 8 from if_neg (by omega)]; rfl
  · rintro E i ⟨hE, hfr, rfl⟩ rec
    unfold f_C_begin_2
    refine ok_t (by decide) (ok_pas (ok_pas (ok_some ⟨⟨?_, ?_, fun t ht => ?_⟩, (hfr.tr Fr3.u0).tr Fr3.u0⟩)))
    · rw [upd2_s, upd_n (by decide), upd2_s, upd_s]; rfl
    · rw [upd2_s, upd_s]; rfl
    · rw [upd2_n (by omega), upd2_n (by omega), upd2_n (by omega), upd2_n (by omega)]; exact hE t ht
end SC
