/-! the reference: what it asks of a standing -/
section MB
variable {N nx q : Nat} {D : Dt} {P : Ft} {f : Fam} {s : St}
theorem many_M (hP : PB P) (hn : 117 ≤ nx) (hm : MF D f) : P 97 3 = some 100 ∧ ab nx 100 3 0 = true ∧ D 100 (0 : Int32).toNatClampNeg = nI (fK f) := ⟨hP.at (by decide) rfl, ab_ok (t := 3) (N := 2) (kd_at (by omega) rfl) (n := 0) (by decide) (by decide), hm.2.1⟩
theorem or1 {b t : Nat} (h : b < 2 ^ t) (ht : t < 8) {c : Bool} : (nI b ||| if c = true then ((1 : Int32) <<< (nI t &&& 31)) else 0) = nI (b + if c = true then 2 ^ t else 0) := by
  by_cases q : c = true
  · rw [if_pos q, if_pos q, or_bit h ht]
  · rw [if_neg q, if_neg q, orz]; rfl
theorem M_those_eq (hP : PB P) (hn : 117 ≤ nx) (hm : MF D f) (hf : FamOK f) (hv : StOK f s) (hq : kd nx q = 30018) (hs : RStd (D q) 0 s) (hN : 100 ≤ N) {p : Nat} (hp : p ≤ 7) : f_M_those N nx D P 97 q (nI p) = some (nI (bt (at' s p) 8)) := by
  have hk := hf.2.2.1
  obtain ⟨m1, m2, m3⟩ := many_M hP hn hm
  have e8 : bt (at' s p) 8 = bt (at' s p) (fK f) := by
    have := bt_more (g := at' s p) (k := fK f) (fun t ht => decide_eq_false (by have := (hv.2.1 t ht).1; omega)) (8 - fK f)
    rwa [show fK f + (8 - fK f) = 8 by omega] at this
  rw [e8]
  apply ok_val
  unfold f_M_those
  refine ok_t (kd_at (by omega) rfl) ?_
  refine wk2_run (I := fun t b i => i = nI t ∧ b = nI (bt (at' s p) t)) (fK f) N _ _ (by omega) ⟨rfl, rfl⟩ ?_ ?_
  · rintro t ht b i ⟨rfl, rfl⟩ rec hrec
    have hv7 := (hv.1 t ht).1
    have hn5 := hf.2.1
    have hmp : mp (sP s t) = sP s t := by unfold mp; split <;> omega
    unfold f_M_those_5
    rw [ix2]
    refine ok_nn m1 (ok_t m2 ?_)
    rw [m3]
    refine ok_f (i2_lt ht (by omega)) (ok_t (ab_ok (t := 3) (N := 18) hq (by omega) (by decide)) ?_)
    rw [cl (by omega), hs.pl (by omega), hmp, nI_1]
    have hb := bt_lt (at' s p) t
    refine ok_ite (fun c => hrec _ _ ⟨rfl, ?_⟩) (fun c => hrec _ _ ⟨rfl, ?_⟩)
    · have c := (nI_inj (by omega) (by omega)).mp c
      rw [or_bit hb (by omega)]
      show _ = nI (bt (at' s p) t + if at' s p t = true then 2 ^ t else 0)
      rw [if_pos (show at' s p t = true from decide_eq_true c)]
    · have c : ¬ sP s t = p := fun d => c ((nI_inj (by omega) (by omega)).mpr d)
      rw [orz]
      show _ = nI (bt (at' s p) t + if at' s p t = true then 2 ^ t else 0)
      rw [if_neg (show ¬ at' s p t = true from fun d => c (of_decide_eq_true d))]; rfl
  · rintro b i ⟨rfl, rfl⟩ rec
    unfold f_M_those_5
    refine ok_nn m1 (ok_t m2 ?_)
    rw [m3]
    exact ok_t (i2_ge (Nat.le_refl _) (by omega)) (ok_some rfl)
theorem M_borne_eq (hP : PB P) (hn : 117 ≤ nx) (hm : MF D f) (hf : FamOK f) (hv : StOK f s) (hq : kd nx q = 30018) (hs : RStd (D q) 0 s) (hN : 100 ≤ N) : f_M_borne N nx D P 97 q = some (nI (bt (br' s) 8)) := by
  have hk := hf.2.2.1
  obtain ⟨m1, m2, m3⟩ := many_M hP hn hm
  have e8 : bt (br' s) 8 = bt (br' s) (fK f) := by
    have := bt_more (g := br' s) (k := fK f) (fun t ht => decide_eq_false (by have := (hv.2.1 t ht).1; omega)) (8 - fK f)
    rwa [show fK f + (8 - fK f) = 8 by omega] at this
  rw [e8]
  apply ok_val
  unfold f_M_borne
  refine ok_t (kd_at (by omega) rfl) ?_
  refine wk2_run (I := fun t b i => i = nI t ∧ b = nI (bt (br' s) t)) (fK f) N _ _ (by omega) ⟨rfl, rfl⟩ ?_ ?_
  · rintro t ht b i ⟨rfl, rfl⟩ rec hrec
    unfold f_M_borne_4
    refine ok_nn m1 (ok_t m2 ?_)
    rw [m3]
    refine ok_f (i2_lt ht (by omega)) (ok_call (M_isBorne_eq hq hs (by omega)) ?_)
    rw [nI_1]
    have hb := bt_lt (br' s) t
    by_cases c : sP s t < 5
    · rw [if_pos c, or_bit hb (by omega)]
      refine ok_f (by decide) (hrec _ _ ⟨rfl, ?_⟩)
      show _ = nI (bt (br' s) t + if br' s t = true then 2 ^ t else 0)
      rw [if_pos (show br' s t = true from decide_eq_true c)]
    · rw [if_neg c, orz]
      refine ok_t rfl (hrec _ _ ⟨rfl, ?_⟩)
      show _ = nI (bt (br' s) t + if br' s t = true then 2 ^ t else 0)
      rw [if_neg (show ¬ br' s t = true from fun d => c (of_decide_eq_true d))]; rfl
  · rintro b i ⟨rfl, rfl⟩ rec
    unfold f_M_borne_4
    refine ok_nn m1 (ok_t m2 ?_)
    rw [m3]
    exact ok_t (i2_ge (Nat.le_refl _) (by omega)) (ok_some rfl)
theorem M_sizeOf_eq (hP : PB P) (hn : 117 ≤ nx) (hm : MF D f) (hf : FamOK f) (hv : StOK f s) (hq : kd nx q = 30018) (hs : RStd (D q) 0 s) (hN : 100 ≤ N) {B : Nat} (hB : B < 256) : f_M_sizeOf N nx D P 97 q (nI B) = some (nI (sg (fun t => if B.testBit t = true then sZ s t else 0) 8)) := by
  have hk := hf.2.2.1
  obtain ⟨m1, m2, m3⟩ := many_M hP hn hm
  have e8 : sg (fun t => if B.testBit t = true then sZ s t else 0) 8 = sg (fun t => if B.testBit t = true then sZ s t else 0) (fK f) := by
    have := sg_more (g := fun t => if B.testBit t = true then sZ s t else 0) (k := fK f) (fun t ht => by
      show (if B.testBit t = true then sZ s t else 0) = 0
      rw [(hv.2.1 t ht).2]; split <;> rfl) (8 - fK f)
    rwa [show fK f + (8 - fK f) = 8 by omega] at this
  rw [e8]
  apply ok_val
  unfold f_M_sizeOf
  refine ok_t (kd_at (by omega) rfl) ?_
  refine wk2_run (I := fun t b i => i = nI t ∧ b = nI (sg (fun t => if B.testBit t = true then sZ s t else 0) t)) (fK f) N _ _ (by omega) ⟨rfl, rfl⟩ ?_ ?_
  · rintro t ht b i ⟨rfl, rfl⟩ rec hrec
    unfold f_M_sizeOf_5
    rw [ix10]
    refine ok_nn m1 (ok_t m2 ?_)
    rw [m3]
    refine ok_f (i2_lt ht (by omega)) (ok_call (M_has_eq hB (by omega)) ?_)
    rw [nI_1]
    by_cases c : B.testBit t = true
    · rw [if_pos c]
      refine ok_f (by decide) (ok_t (ab_ok (t := 3) (N := 18) hq (by omega) (by decide)) ?_)
      rw [cl (by omega), hs.sz (by omega), nI_add]
      refine hrec _ _ ⟨rfl, ?_⟩
      show _ = nI (sg (fun t => if B.testBit t = true then sZ s t else 0) t + if B.testBit t = true then sZ s t else 0)
      rw [if_pos c]
    · rw [if_neg c]
      refine ok_t rfl (hrec _ _ ⟨rfl, ?_⟩)
      show nI _ + nI 0 = nI (sg (fun t => if B.testBit t = true then sZ s t else 0) t + if B.testBit t = true then sZ s t else 0)
      rw [if_neg c, nI_add]
  · rintro b i ⟨rfl, rfl⟩ rec
    unfold f_M_sizeOf_5
    refine ok_nn m1 (ok_t m2 ?_)
    rw [m3]
    exact ok_t (i2_ge (Nat.le_refl _) (by omega)) (ok_some rfl)
theorem sz_at (s : St) (p : Nat) : sg (fun t => if (bt (at' s p) 8).testBit t = true then sZ s t else 0) 8 = ld s p 8 := sg_cong (fun t ht => by
  rw [bt_bit, decide_eq_true ht, Bool.true_and]
  show (if decide (sP s t = p) = true then sZ s t else 0) = _
  by_cases c : sP s t = p
  · rw [if_pos (decide_eq_true c), if_pos c]
  · rw [if_neg (fun d => c (of_decide_eq_true d)), if_neg c])
theorem sz_br (s : St) : sg (fun t => if (bt (br' s) 8).testBit t = true then sZ s t else 0) 8 = borneS s 8 := sg_cong (fun t ht => by
  rw [bt_bit, decide_eq_true ht, Bool.true_and]
  show (if decide (sP s t < 5) = true then sZ s t else 0) = _
  by_cases c : sP s t < 5
  · rw [if_pos (decide_eq_true c), if_pos c]
  · rw [if_neg (fun d => c (of_decide_eq_true d)), if_neg c])
theorem M_load_eq (hP : PB P) (hn : 117 ≤ nx) (hm : MF D f) (hf : FamOK f) (hv : StOK f s) (hq : kd nx q = 30018) (hs : RStd (D q) 0 s) (hN : 100 ≤ N) {p : Nat} (hp : p ≤ 7) : f_M_load N nx D P 97 q (nI p) = some (nI (ld s p 8)) := by
  unfold f_M_load
  rw [if_pos (show kd nx 97 = 9 from kd_at (by omega) rfl), M_those_eq hP hn hm hf hv hq hs hN hp, bnd_some, M_sizeOf_eq hP hn hm hf hv hq hs hN (bt_lt _ 8), bnd_some, sz_at]
theorem M_doesBreak_eq (hP : PB P) (hn : 117 ≤ nx) (hm : MF D f) (hf : FamOK f) (hv : StOK f s) (hq : kd nx q = 30018) (hs : RStd (D q) 0 s) (hN : 100 ≤ N) {p : Nat} (hp : p < fN f) : f_M_doesBreak N nx D P 97 q (nI p) = some (if brk f s p = true then 1 else 0) := by
  have hn5 := hf.2.1
  have hl := ld_lt hv.z40 p 8 (Nat.le_refl _)
  have hc := hf.2.2.2.2.2.2.2.2.1 p hp
  apply ok_val
  unfold f_M_doesBreak brk
  refine ok_t (kd_at (by omega) rfl) (ok_call (M_load_eq hP hn hm hf hv hq hs hN (by omega)) (ok_nn (hP.at (by decide) (show P0 97 5 = some 102 from rfl)) (ok_t (ab_ok (t := 3) (N := 10) (kd_at (by omega) rfl) (by omega) (by decide)) ?_)))
  rw [cl (by omega), hm.2.2.2.2.2.1 p hp]
  by_cases c : fC f p < ld s p 8
  · rw [if_pos (decide_eq_true c)]
    exact ok_f (by rw [nI_le' (by omega) (by omega)]; omega) (ok_some rfl)
  · rw [if_neg (fun d => c (of_decide_eq_true d))]
    exact ok_t (by rw [nI_le' (by omega) (by omega)]; omega) (ok_some rfl)
theorem M_broken_eq (hP : PB P) (hn : 117 ≤ nx) (hm : MF D f) (hf : FamOK f) (hv : StOK f s) (hq : kd nx q = 30018) (hs : RStd (D q) 0 s) (hN : 100 ≤ N) : f_M_broken N nx D P 97 q = some (nI (ct (brk f s) (fN f))) := by
  have hn5 := hf.2.1
  apply ok_val
  unfold f_M_broken
  refine ok_t (kd_at (by omega) rfl) ?_
  refine wk2_run (I := fun t b i => i = nI t ∧ b = nI (ct (brk f s) t)) (fN f) N _ _ (by omega) ⟨rfl, rfl⟩ ?_ ?_
  · rintro t ht b i ⟨rfl, rfl⟩ rec hrec
    unfold f_M_broken_4
    refine ok_nn (hP.at (by decide) (show P0 97 2 = some 99 from rfl)) (ok_t (ab_ok (t := 3) (N := 2) (kd_at (by omega) rfl) (n := 0) (by decide) (by decide)) ?_)
    show OkP _ (if D 99 0 ≤ nI t then _ else _)
    rw [hm.1]
    refine ok_f (i2_lt ht (by omega)) (ok_call (M_doesBreak_eq hP hn hm hf hv hq hs hN ht) ?_)
    rw [nI_1]
    by_cases c : brk f s t = true
    · rw [if_pos c]
      refine ok_f (by decide) (hrec _ _ ⟨rfl, ?_⟩)
      show nI _ + 1 = nI (ct (brk f s) t + if brk f s t = true then 1 else 0)
      rw [if_pos c, nI_1]
    · rw [if_neg c]
      refine ok_t rfl (hrec _ _ ⟨rfl, ?_⟩)
      show nI _ + nI 0 = nI (ct (brk f s) t + if brk f s t = true then 1 else 0)
      rw [if_neg c, nI_add]
  · rintro b i ⟨rfl, rfl⟩ rec
    unfold f_M_broken_4
    refine ok_nn (hP.at (by decide) (show P0 97 2 = some 99 from rfl)) (ok_t (ab_ok (t := 3) (N := 2) (kd_at (by omega) rfl) (n := 0) (by decide) (by decide)) ?_)
    show OkP _ (if D 99 0 ≤ nI (fN f) then _ else _)
    rw [hm.1]
    exact ok_t (i2_ge (Nat.le_refl _) (by omega)) (ok_some rfl)
theorem M_isFull_eq (hP : PB P) (hn : 117 ≤ nx) (hm : MF D f) (hf : FamOK f) (hv : StOK f s) (hq : kd nx q = 30018) (hs : RStd (D q) 0 s) (hN : 100 ≤ N) : f_M_isFull N nx D P 97 q = some (if full f s = true then 1 else 0) := by
  have hR := hf.2.2.2.1
  have hl := ld_lt hv.z40 5 8 (Nat.le_refl _)
  have h5 : f_M_those N nx D P 97 q 5 = some (nI (bt (at' s 5) 8)) := M_those_eq hP hn hm hf hv hq hs hN (p := 5) (by decide)
  apply ok_val
  unfold f_M_isFull full
  refine ok_t (kd_at (by omega) rfl) (ok_call h5 (ok_call (M_sizeOf_eq hP hn hm hf hv hq hs hN (bt_lt _ 8)) (ok_nn (hP.at (by decide) (show P0 97 4 = some 101 from rfl)) (ok_t (ab_ok (t := 3) (N := 6) (kd_at (by omega) rfl) (n := 0) (by decide) (by decide)) ?_))))
  rw [sz_at]
  show OkP _ (if nI (ld s 5 8) ≤ D 101 0 then _ else _)
  rw [hm.2.2.1]
  by_cases c : fR f < ld s 5 8
  · rw [if_pos (decide_eq_true c)]
    exact ok_f (by rw [nI_le' (by omega) (by omega)]; omega) (ok_some rfl)
  · rw [if_neg (fun d => c (of_decide_eq_true d))]
    exact ok_t (by rw [nI_le' (by omega) (by omega)]; omega) (ok_some rfl)
end MB
