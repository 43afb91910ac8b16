/-! what holds of all that stands goes on holding -/
section OK2
variable {g : Gs}
theorem gok_T {m : Nat} {v : Nat → Nat} (ho : GOK g) (h : m ≤ 200 ∧ ∀ i, i < m → 32 ≤ v i ∧ v i ≤ 126) : GOK (puT g (m, v)) := ⟨ho.1, ho.2.1, h, ho.2.2.2⟩
theorem gok_S {s : St} (ho : GOK g) (h : StOK (gF g) s) : GOK (puS g s) := ⟨ho.1, h, ho.2.2⟩
theorem gok_P {m : Nat} {u : Nat → St} (ho : GOK g) (h : m ≤ 8 ∧ ∀ i, i < m → StOK (gF g) (u i)) : GOK (puP g (m, u)) := ⟨ho.1, ho.2.1, ho.2.2.1, h, ho.2.2.2.2⟩
theorem gok_K {m : Nat} {u : Nat → St} (ho : GOK g) (h : m ≤ 2 ∧ ∀ i, i < m → StOK (gF g) (u i)) : GOK (puK g (m, u)) := ⟨ho.1, ho.2.1, ho.2.2.1, ho.2.2.2.1, h, ho.2.2.2.2.2⟩
theorem gok_push (ho : GOK g) : GOK (pushG g) := by
  refine gok_P ho ⟨?_, fun i hi => ?_⟩
  · unfold pushN; split <;> omega
  · have hp := ho.2.2.2.1
    unfold pushN at hi
    unfold pushU
    by_cases q : (gP g).1 < 8
    · rw [if_pos q] at hi ⊢
      show StOK _ (if i = (gP g).1 then gS g else (gP g).2 i)
      split
      · exact ho.2.1
      · exact hp.2 i (by omega)
    · rw [if_neg q] at hi ⊢
      show StOK _ (if i = 7 then gS g else (gP g).2 (i + 1))
      split
      · exact ho.2.1
      · exact hp.2 (i + 1) (by omega)
theorem gok_write (ho : GOK g) (x : Int32) : GOK (oWrite g x).2 := by
  unfold oWrite
  by_cases q : nI 32 ≤ x ∧ x ≤ nI 126
  · rw [if_pos q]
    by_cases w : (gT g).1 = 200
    · rw [if_pos w]; exact ho
    · rw [if_neg w]
      have ht := ho.2.2.1
      obtain ⟨n, rfl, h1, h2⟩ := up q.1 q.2 (by decide) (by decide)
      refine gok_T ho ⟨by have := ht.1; omega, fun i hi => ?_⟩
      rw [cl (by omega)]
      show 32 ≤ (if i = (gT g).1 then n else (gT g).2 i) ∧ (if i = (gT g).1 then n else (gT g).2 i) ≤ 126
      split
      · exact ⟨h1, h2⟩
      · exact ht.2 i (by omega)
  · rw [if_neg q]; exact ho
theorem gok_wipe (ho : GOK g) : GOK (oWipe g).2 := gok_T ho ⟨Nat.zero_le _, fun i hi => absurd hi (Nat.not_lt_zero i)⟩
theorem gok_forget (ho : GOK g) : GOK (oForget g).2 := ⟨ho.1, ho.2.1, ho.2.2.1, ho.2.2.2.1, ho.2.2.2.2.1, ⟨Nat.zero_le _, fun i hi => absurd hi (Nat.not_lt_zero i)⟩, ⟨Nat.zero_le _, fun i hi => absurd hi (Nat.not_lt_zero i)⟩⟩
theorem gok_mark (ho : GOK g) (x : Int32) : GOK (oMark g x).2 := by
  unfold oMark
  by_cases q : nI 0 ≤ x ∧ x ≤ nI 40
  · rw [if_pos q]
    by_cases w : (gM g).1 < 8
    · rw [if_pos w]
      obtain ⟨n, rfl, h1, h2⟩ := up q.1 q.2 (by decide) (by decide)
      refine ⟨ho.1, ho.2.1, ho.2.2.1, ho.2.2.2.1, ho.2.2.2.2.1, ho.2.2.2.2.2.1, (by show (gM g).1 + 1 ≤ 8; omega), fun i hi => ?_⟩
      have hi : i < (gM g).1 + 1 := hi
      show (if i = (gM g).1 then (nI n).toNatClampNeg else (gM g).2 i) ≤ 40
      rw [cl (by omega)]
      split
      · exact h2
      · exact ho.2.2.2.2.2.2.2 i (by omega)
    · rw [if_neg w]; exact ho
  · rw [if_neg q]; exact ho
theorem gok_see (ho : GOK g) (t n v : Int32) : GOK (oSee g t n v).2 := by
  unfold oSee
  by_cases q : (¬ t < 0 ∧ t < nI (fK (gF g))) ∧ (nI 0 ≤ n ∧ n ≤ nI 20) ∧ (nI 0 ≤ v ∧ v ≤ nI 40)
  · rw [if_pos q]
    by_cases w : (gN g).1 < 8
    · rw [if_pos w]
      have hk := ho.1.2.2.1
      obtain ⟨a, rfl, ha⟩ := num_up (by omega) q.1.1 q.1.2
      obtain ⟨b, rfl, hb1, hb2⟩ := up q.2.1.1 q.2.1.2 (by decide) (by decide)
      obtain ⟨c, rfl, hc1, hc2⟩ := up q.2.2.1 q.2.2.2 (by decide) (by decide)
      refine ⟨ho.1, ho.2.1, ho.2.2.1, ho.2.2.2.1, ho.2.2.2.2.1, ⟨(by show (gN g).1 + 1 ≤ 8; omega), fun i hi => ?_⟩, ho.2.2.2.2.2.2⟩
      have hi : i < (gN g).1 + 1 := hi
      show (if i = (gN g).1 then ((nI a).toNatClampNeg, (nI b).toNatClampNeg, (nI c).toNatClampNeg) else (gN g).2 i).1 < fK (gF g) ∧ (if i = (gN g).1 then ((nI a).toNatClampNeg, (nI b).toNatClampNeg, (nI c).toNatClampNeg) else (gN g).2 i).2.1 ≤ 20 ∧ (if i = (gN g).1 then ((nI a).toNatClampNeg, (nI b).toNatClampNeg, (nI c).toNatClampNeg) else (gN g).2 i).2.2 ≤ 40
      rw [cl (by omega), cl (by omega), cl (by omega)]
      split
      · exact ⟨ha, hb2, hc2⟩
      · exact ho.2.2.2.2.2.1.2 i (by omega)
    · rw [if_neg w]; exact ho
  · rw [if_neg q]; exact ho
theorem place_ok {t q : Nat} (ho : GOK g) (ht : t < fK (gF g)) (h6 : sP (gS g) t < 6) (hq : q < fN (gF g) ∨ q = 5) : GOK (puS (pushG g) (setP (gS g) t q)) := gok_S (gok_push ho) (setP_ok ho.2.1 ht hq ((ho.2.1.1 t ht).2.2 h6))
theorem gok_stick (ho : GOK g) (x : Int32) : GOK (oStick g x).2 := by
  unfold oStick
  by_cases q : isT (gF g) x = true
  · rw [if_pos q]
    obtain ⟨t, rfl, ht⟩ := isT_up ho.1 q
    have := ho.1.2.2.1
    rw [cl (by omega)]
    by_cases w : sP (gS g) t < 5 ∧ sW (gS g) ≠ fD (gF g)
    · rw [if_pos w]; exact place_ok ho ht (by omega) (Or.inr rfl)
    · rw [if_neg w]; exact ho
  · rw [if_neg q]; exact ho
theorem gok_feel (ho : GOK g) (x y : Int32) : GOK (oFeel g x y).2 := by
  unfold oFeel
  by_cases q : isT (gF g) x = true ∧ isP (gF g) y = true
  · rw [if_pos q]
    obtain ⟨t, rfl, ht⟩ := isT_up ho.1 q.1
    obtain ⟨p, rfl, hp⟩ := isP_up ho.1 q.2
    have := ho.1.2.2.1
    have := ho.1.2.1
    rw [cl (by omega), cl (by omega)]
    by_cases w : sP (gS g) t = 5
    · rw [if_pos w]; exact place_ok ho ht (by omega) (Or.inl hp)
    · rw [if_neg w]; exact ho
  · rw [if_neg q]; exact ho
theorem gok_bear (ho : GOK g) (x y : Int32) : GOK (oBear g x y).2 := by
  unfold oBear
  by_cases q : isT (gF g) x = true ∧ isP (gF g) y = true
  · rw [if_pos q]
    obtain ⟨t, rfl, ht⟩ := isT_up ho.1 q.1
    obtain ⟨p, rfl, hp⟩ := isP_up ho.1 q.2
    have := ho.1.2.2.1
    have := ho.1.2.1
    rw [cl (by omega), cl (by omega)]
    by_cases w : sP (gS g) t < 5 ∧ sP (gS g) t ≠ p
    · rw [if_pos w]; exact place_ok ho ht (by omega) (Or.inl hp)
    · rw [if_neg w]; exact ho
  · rw [if_neg q]; exact ho
theorem gok_pass (ho : GOK g) (x : Int32) : GOK (oPass g x).2 := by
  unfold oPass
  by_cases q : nI 1 ≤ x ∧ x ≤ nI 24
  · rw [if_pos q]; exact gok_S (gok_push ho) (days_ok ho.1 _ ho.2.1)
  · rw [if_neg q]; exact ho
theorem gok_undo (ho : GOK g) : GOK (oUndo g).2 := by
  unfold oUndo
  have hp := ho.2.2.2.1
  by_cases q : (gP g).1 = 0
  · rw [if_pos q]; exact ho
  · rw [if_neg q]
    exact gok_P (gok_S ho (hp.2 _ (by omega))) ⟨by omega, fun i hi => hp.2 i (by omega)⟩
theorem gok_keep (ho : GOK g) : GOK (oKeep g).2 := by
  unfold oKeep
  have hk := ho.2.2.2.2.1
  by_cases q : (gK g).1 < 2
  · rw [if_pos q]
    refine gok_K ho ⟨by omega, fun i hi => ?_⟩
    show StOK _ (if i = (gK g).1 then gS g else (gK g).2 i)
    split
    · exact ho.2.1
    · exact hk.2 i (by omega)
  · rw [if_neg q]; exact ho
theorem gok_back (ho : GOK g) : GOK (oBack g).2 := by
  unfold oBack
  have hk := ho.2.2.2.2.1
  by_cases q : (gK g).1 = 0
  · rw [if_pos q]; exact ho
  · rw [if_neg q]
    exact gok_K (gok_P (gok_S ho (hk.2 _ (by omega))) ⟨Nat.zero_le _, fun i hi => absurd hi (Nat.not_lt_zero i)⟩) ⟨by omega, fun i hi => hk.2 i (by omega)⟩
theorem rdAll_ok {m : Nat} {v : Nat → Nat} : ∀ (n i : Nat) (d : Dr), DOK d → DOK (rdAll m v n i d).2
  | 0, i, d, hd => by
    unfold rdAll; split <;> exact hd
  | n + 1, i, d, hd => by
    unfold rdAll
    split
    · exact hd
    · cases e : rdItem m v i d with
      | none => exact hd
      | some x => exact rdAll_ok n x.2 x.1 (rdItem_ok e hd).1
theorem gok_lay (ho : GOK g) : GOK (oLay g).2 := by
  unfold oLay
  have hd := rdAll_ok (m := (gT g).1) (v := (gT g).2) 200 0 dr0 DOK.z
  generalize rdAll (gT g).1 (gT g).2 200 0 dr0 = r at hd
  by_cases q : r.1 = none ∧ 1 ≤ fN r.2.1
  · rw [if_pos q]
    refine ⟨hd.fam q.2, ⟨fun t ht => ?_, fun t ht => ?_, Nat.zero_le _⟩, ho.2.2.1, ⟨Nat.zero_le _, fun i hi => absurd hi (Nat.not_lt_zero i)⟩, ⟨Nat.zero_le _, fun i hi => absurd hi (Nat.not_lt_zero i)⟩, ⟨Nat.zero_le _, fun i hi => absurd hi (Nat.not_lt_zero i)⟩, ⟨Nat.zero_le _, fun i hi => absurd hi (Nat.not_lt_zero i)⟩⟩
    · have ht : t < fK r.2.1 := ht
      obtain ⟨a, b, c, e⟩ := hd.2.2.2.2.2.2 t ht
      show ((if t < fK r.2.1 then fO r.2.1 t else 8) < fN r.2.1 ∨ (if t < fK r.2.1 then fO r.2.1 t else 8) = 5 ∨ (if t < fK r.2.1 then fO r.2.1 t else 8) = 6 ∨ (if t < fK r.2.1 then fO r.2.1 t else 8) = 7) ∧ (if t < fK r.2.1 then r.2.2 t else 0) ≤ 40 ∧ ((if t < fK r.2.1 then fO r.2.1 t else 8) < 6 → 1 ≤ (if t < fK r.2.1 then r.2.2 t else 0))
      rw [if_pos ht, if_pos ht]
      exact ⟨Or.inl a, by omega, fun _ => c⟩
    · have ht : fK r.2.1 ≤ t := ht
      show (if t < fK r.2.1 then fO r.2.1 t else 8) = 8 ∧ (if t < fK r.2.1 then r.2.2 t else 0) = 0
      rw [if_neg (by omega), if_neg (by omega)]
      exact ⟨rfl, rfl⟩
  · rw [if_neg q]; exact ho
end OK2
