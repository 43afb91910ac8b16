/-! the reference: two that are one, who is best relieved, of which kind a pin is -/
theorem fsi_no {c : Nat → Bool} {k : Nat} (h : ∀ j, k ≤ j → c j = false) : ∀ n j, k ≤ j → fsi c n j = none
  | 0, _, _ => rfl
  | n + 1, j, hj => by
    rw [fsi_s, if_neg (by rw [h j hj]; decide)]
    exact fsi_no h n (j + 1) (by omega)
theorem prO_no {s : St} {v k : Nat} (h : ∀ i j, k ≤ i → prC s v i j = false) : ∀ n i, k ≤ i → prO s v n i = -4
  | 0, _, _ => rfl
  | n + 1, i, hi => by
    rw [prO_s, fsi_no (k := 0) (fun j _ => h i j hi) n (i + 1) (Nat.zero_le _)]
    exact prO_no h n (i + 1) (by omega)
theorem rl_more {f : Fam} {s : St} {k : Nat} (h : ∀ t, k ≤ t → ¬ sP s t < 5) : ∀ m, rl f s (k + m) = rl f s k
  | 0 => rfl
  | m + 1 => by
    show rlS f s (k + m) (rl f s (k + m)) = _
    unfold rlS
    rw [if_neg (h _ (by omega))]
    exact rl_more h m
section MO
variable {N nx : Nat} {D : Dt} {P : Ft} {g : Gs}
theorem M_pair_eq (hP : PB P) (h : MR D g) (ho : GOK g) (hn : 117 ≤ nx) (hN : 200 ≤ N) (x : Int32) : f_M_pair N nx D P 97 x = some (oPair g x) := by
  have hf := ho.1
  have hk := hf.2.2.1
  have hv := ho.2.1
  obtain ⟨m1, m2, m3⟩ := many_M hP hn h.1
  have hP11 : P 97 11 = some 106 := hP.at (by decide) rfl
  have out1 : ∀ v i j, fK (gF g) ≤ i → prC (gS g) v i j = false := fun v i j hi => decide_eq_false (fun c => by have := (hv.2.1 i hi).1; omega)
  have out2 : ∀ v i j, fK (gF g) ≤ j → prC (gS g) v i j = false := fun v i j hi => decide_eq_false (fun c => by have := (hv.2.1 j hi).1; omega)
  apply ok_val
  unfold f_M_pair oPair
  refine ok_t (kd_at (by omega) rfl) (ok_call M_in_eq ?_)
  show OkP _ (if (if nI 2 ≤ x ∧ x ≤ nI 80 then (1 : Int32) else 0) = 0 then _ else _)
  by_cases q : nI 2 ≤ x ∧ x ≤ nI 80
  · obtain ⟨v, rfl, hv1, hv2⟩ := up q.1 q.2 (by decide) (by decide)
    rw [if_pos q, if_pos q, cl (n := v) (by omega)]
    refine ok_f (by decide) ?_
    refine wk1_run (I := fun t i => i = nI t ∧ prO (gS g) v (8 - t) t = prO (gS g) v 8 0) (fK (gF g)) N _ (by omega) ⟨rfl, rfl⟩ ?_ ?_
    · rintro t ht i ⟨rfl, heq⟩ rec hrec
      have hz1 := hv.z40 t
      have hmp := mp_eq hf hv ht
      unfold f_M_pair_14
      refine ok_nn m1 (ok_t m2 ?_)
      rw [m3]
      refine ok_f (i2_lt ht (by omega)) ?_
      rw [nI_1]
      rw [show 8 - t = (7 - t) + 1 by omega] at heq
      rw [prO_s] at heq
      refine wk1_run (I := fun u i => i = nI (t + 1 + u) ∧ t + 1 + u ≤ fK (gF g) ∧ fsi (prC (gS g) v t) (7 - t - u) (t + 1 + u) = fsi (prC (gS g) v t) (7 - t) (t + 1)) (fK (gF g) - 1 - t) N _ (by omega) ⟨rfl, by omega, rfl⟩ ?_ ?_
      · rintro u hu i ⟨rfl, h88, hfs⟩ rec2 hrec2
        have hw : t + 1 + u < fK (gF g) := by omega
        have hmp2 := mp_eq hf hv hw
        have hz2 := hv.z40 (t + 1 + u)
        have ab : ∀ j, j < 18 → ab nx 106 3 (nI j) = true := fun j hj => ab_ok (t := 3) (N := 18) (k106 hn) hj (by decide)
        rw [show 7 - t - u = (7 - t - (u + 1)) + 1 by omega, fsi_s] at hfs
        have next : prC (gS g) v t (t + 1 + u) = false → OkP (fun z => z = prO (gS g) v 8 0) (rec2 (nI (t + 1 + u) + 1)) := by
          intro hf
          rw [if_neg (by rw [hf]; decide)] at hfs
          rw [nI_1]
          exact hrec2 _ ⟨rfl, by omega, hfs⟩
        have no : prC (gS g) v t (t + 1 + u) = false → OkP (fun z => z = prO (gS g) v 8 0) (f_M_pair_69 N nx rec rec2 D P 97 (nI v) (nI t) (nI (t + 1 + u)) 0) := by
          intro hf
          unfold f_M_pair_69
          exact ok_t rfl (next hf)
        unfold f_M_pair_28
        refine ok_nn m1 (ok_t m2 ?_)
        rw [m3]
        refine ok_f (i2_lt hw (by omega)) (ok_nn hP11 ?_)
        rw [ix2 t, ix2 (t + 1 + u), cl (n := 2 + t) (by omega), cl (n := 2 + (t + 1 + u)) (by omega), h.2.1.pl (t := t) (by omega), h.2.1.pl (t := t + 1 + u) (by omega), hmp.1, hmp2.1]
        refine ok_t (ab _ (by omega)) ?_
        by_cases c1 : sP (gS g) t < 6
        · refine ok_f (by rw [lit 6, nI_le' (by decide) (by omega)]; omega) (ok_t (ab _ (by omega)) ?_)
          by_cases c2 : sP (gS g) (t + 1 + u) < 6
          · refine ok_f (by rw [lit 6, nI_le' (by decide) (by omega)]; omega) ?_
            unfold f_M_pair_69
            rw [ix10 t, ix10 (t + 1 + u), cl (n := 10 + t) (by omega), cl (n := 10 + (t + 1 + u)) (by omega)]
            refine ok_f (by decide) (ok_nn hP11 (ok_t (ab _ (by omega)) (ok_t (ab _ (by omega)) ?_)))
            rw [h.2.1.sz (t := t) (by omega), h.2.1.sz (t := t + 1 + u) (by omega), nI_add]
            refine ok_ite (fun e => ?_) (fun e => ?_)
            · have e := (nI_inj (by omega) (by omega)).mp e
              have hp : prC (gS g) v t (t + 1 + u) = true := decide_eq_true ⟨c1, c2, e⟩
              rw [if_pos hp] at hfs
              rw [← hfs] at heq
              refine ok_some ?_
              rw [← heq, lit 10, pk_mul, nI_add]
            · refine next (decide_eq_false (fun c => e ?_))
              rw [c.2.2]
          · exact ok_t (by rw [lit 6, nI_le' (by decide) (by omega)]; omega) (no (decide_eq_false (fun c => c2 c.2.1)))
        · exact ok_t (by rw [lit 6, nI_le' (by decide) (by omega)]; omega) (no (decide_eq_false (fun c => c1 c.1)))
      · rintro i ⟨rfl, h88, hfs⟩ rec2
        unfold f_M_pair_28
        refine ok_nn m1 (ok_t m2 ?_)
        rw [m3]
        rw [fsi_no (out2 v t) _ _ (by omega)] at hfs
        rw [← hfs] at heq
        refine ok_t (i2_ge (by omega) (by omega)) ?_
        rw [nI_1]
        exact hrec _ ⟨rfl, by rw [show 8 - (t + 1) = 7 - t by omega]; exact heq⟩
    · rintro i ⟨rfl, heq⟩ rec
      unfold f_M_pair_14
      refine ok_nn m1 (ok_t m2 ?_)
      rw [m3]
      refine ok_t (i2_ge (Nat.le_refl _) (by omega)) (ok_some ?_)
      rw [← heq]
      exact (prO_no (out1 v) _ _ (Nat.le_refl _)).symm
  · rw [if_neg q, if_neg q]
    exact ok_t rfl (ok_some rfl)
theorem gone_ok {f : Fam} {s : St} (hv : StOK f s) {t : Nat} (ht : t < fK f) : StOK f (setP s t 7) := by
  refine ⟨fun j hj => ?_, fun j hj => ?_, hv.2.2⟩
  · show ((if j = t then 7 else sP s j) < fN f ∨ (if j = t then 7 else sP s j) = 5 ∨ (if j = t then 7 else sP s j) = 6 ∨ (if j = t then 7 else sP s j) = 7) ∧ sZ s j ≤ 40 ∧ ((if j = t then 7 else sP s j) < 6 → 1 ≤ sZ s j)
    obtain ⟨a, b, c⟩ := hv.1 j hj
    by_cases w : j = t
    · rw [if_pos w]
      exact ⟨by omega, b, fun e => by omega⟩
    · rw [if_neg w]; exact ⟨a, b, c⟩
  · show (if j = t then 7 else sP s j) = 8 ∧ sZ s j = 0
    rw [if_neg (by omega)]; exact hv.2.1 j hj
theorem ld78 {s : St} {t p : Nat} (hp : p < 7) (T : Nat) : ld (setP s t 7) p T = ld (setP s t 8) p T := sg_cong (fun j _ => by
  show (if (if j = t then 7 else sP s j) = p then sZ s j else 0) = (if (if j = t then 8 else sP s j) = p then sZ s j else 0)
  by_cases c : j = t
  · rw [if_pos c, if_pos c, if_neg (by omega), if_neg (by omega)]
  · rw [if_neg c, if_neg c])
theorem M_brokenWithout_ok (hP : PB P) (h : MR D g) (ho : GOK g) (hn : 117 ≤ nx) (hN : 200 ≤ N) {t : Nat} (ht : t < fK (gF g)) : OkP (fun z => z.1 = nI (ct (brk (gF g) (setP (gS g) t 8)) (fN (gF g))) ∧ Fr9 D z.2) (f_M_brokenWithout N nx D P 97 (nI t)) := by
  have hf := ho.1
  have hk := hf.2.2.1
  have hn5 := hf.2.1
  unfold f_M_brokenWithout
  rw [ix2]
  refine ok_t (kd_at (by omega) rfl) (ok_bind (M_take_ok hP h hn (by omega)) (fun E hE => ok_nn (hP.at (by decide) (show P0 97 16 = some 109 from rfl)) (ok_t (ab_ok (t := 3) (N := 18) (k109 hn) (by omega) (by decide)) (ok_pas ?_))))
  rw [cl (n := 2 + t) (by omega)]
  have hfr : Fr9 D (upd2 E 109 (2 + t) 7) := FrO.tr (q := 109) hE.2 FrO.up
  have h7 : RStd (upd2 E 109 (2 + t) 7 109) 0 (setP (gS g) t 7) := by rw [upd2_s]; exact hE.1.putP (p := 7) (by omega)
  refine ok_call (M_broken_eq hP hn (h.1.fo (q := 109) hfr (by decide)) hf (gone_ok ho.2.1 ht) (k109 hn) h7 (by omega)) (ok_some ⟨?_, hfr⟩)
  show nI _ = nI _
  rw [ct_cong (g := brk (gF g) (setP (gS g) t 7)) (h := brk (gF g) (setP (gS g) t 8)) (fun p hp => by
    unfold brk
    rw [ld78 (by omega)])]
theorem M_relief_ok (hP : PB P) (h : MR D g) (ho : GOK g) (hn : 117 ≤ nx) (hN : 200 ≤ N) (x : Int32) : OkP (fun z => z.1 = oRelief g x ∧ MR z.2 g ∧ Lo D z.2) (f_M_relief N nx D P 97 x) := by
  have hf := ho.1
  have hk := hf.2.2.1
  have hn5 := hf.2.1
  have hv := ho.2.1
  have hP11 : P 97 11 = some 106 := hP.at (by decide) rfl
  have e8 : rl (gF g) (gS g) 8 = rl (gF g) (gS g) (fK (gF g)) := by
    have := rl_more (f := gF g) (s := gS g) (k := fK (gF g)) (fun t ht => by rw [(hv.2.1 t ht).1]; decide) (8 - fK (gF g))
    rwa [show fK (gF g) + (8 - fK (gF g)) = 8 by omega] at this
  unfold f_M_relief oRelief
  rw [e8]
  refine ok_t (kd_at (by omega) rfl) (ok_call M_in_eq ?_)
  show OkP _ (if (if nI 0 ≤ x ∧ x ≤ nI 1 then (1 : Int32) else 0) = 0 then _ else _)
  by_cases q : nI 0 ≤ x ∧ x ≤ nI 1
  · obtain ⟨w, rfl, hw1, hw2⟩ := up q.1 q.2 (by decide) (by decide)
    rw [if_pos q, if_pos q]
    refine ok_f (by decide) ?_
    refine wk4_run (I := fun t E i2 i3 i => i = nI t ∧ Fr9 D E ∧ match rl (gF g) (gS g) t with | none => i2 = (-4 : Int32) | some u => i2 = nI u.1 ∧ i3 = nI u.2 ∧ u.1 < 8 ∧ u.2 ≤ 5) (fK (gF g)) N _ _ _ _ (by omega) ⟨rfl, fun _ _ => rfl, rfl⟩ ?_ ?_
    · rintro t ht E i2 i3 i ⟨rfl, hfr, hb⟩ rec hrec
      have hE := hfr.mr h
      obtain ⟨m1, m2, m3⟩ := many_M hP hn hE.1.1
      have hc5 : ct (brk (gF g) (setP (gS g) t 8)) (fN (gF g)) ≤ 5 := Nat.le_trans (ct_le _ _) hn5
      unfold f_M_relief_19
      refine ok_nn m1 (ok_t m2 ?_)
      rw [m3]
      refine ok_f (i2_lt ht (by omega)) (ok_nn hP11 (ok_call (M_isBorne_eq (k106 hn) hE.1.2.1 (by omega)) ?_))
      by_cases c1 : sP (gS g) t < 5
      · rw [if_pos c1]
        refine ok_f (by decide) (ok_bind (M_brokenWithout_ok hP hE.1 ho hn hN ht) ?_)
        rintro ⟨z, F⟩ ⟨hz1, hz2⟩
        have hz1 : z = nI (ct (brk (gF g) (setP (gS g) t 8)) (fN (gF g))) := hz1
        have hF : Fr9 D F := FrO.tr (q := 109) hfr hz2
        have hs := (hF.mr h).1.2.1
        subst hz1
        cases e : rl (gF g) (gS g) t with
        | none =>
          rw [e] at hb
          have hb : i2 = -4 := hb
          refine ok_t hb ?_
          unfold f_M_relief_90
          rw [nI_1]
          refine hrec _ _ _ _ ⟨rfl, hF, ?_⟩
          have : rl (gF g) (gS g) (t + 1) = some (t, ct (brk (gF g) (setP (gS g) t 8)) (fN (gF g))) := by
            show rlS _ _ t (rl (gF g) (gS g) t) = _
            rw [e]; exact if_pos c1
          rw [this]
          exact ⟨rfl, rfl, by omega, hc5⟩
        | some u =>
          rw [e] at hb
          obtain ⟨rfl, rfl, hu1, hu2⟩ : i2 = nI u.1 ∧ i3 = nI u.2 ∧ u.1 < 8 ∧ u.2 ≤ 5 := hb
          have er : rl (gF g) (gS g) (t + 1) = if ct (brk (gF g) (setP (gS g) t 8)) (fN (gF g)) < u.2 then some (t, ct (brk (gF g) (setP (gS g) t 8)) (fN (gF g))) else if ct (brk (gF g) (setP (gS g) t 8)) (fN (gF g)) = u.2 ∧ sZ (gS g) u.1 < sZ (gS g) t then some (t, ct (brk (gF g) (setP (gS g) t 8)) (fN (gF g))) else some u := by
            show rlS _ _ t (rl (gF g) (gS g) t) = _
            rw [e]; exact if_pos c1
          have hne : ∀ a, a < 8 → ¬ nI a = (-4 : Int32) := by decide
          refine ok_f (hne _ hu1) ?_
          unfold f_M_relief_90
          refine ok_ite (fun c2 => ?_) (fun c2 => ok_ite (fun c3 => ?_) (fun c3 => ?_))
          · have c2 := (nI_lt' (by omega) (by omega)).mp c2
            rw [nI_1]
            refine hrec _ _ _ _ ⟨rfl, hF, ?_⟩
            rw [er, if_pos c2]
            exact ⟨rfl, rfl, by omega, hc5⟩
          · have c2 : ¬ _ < u.2 := fun c => c2 ((nI_lt' (by omega) (by omega)).mpr c)
            have c3 := (nI_inj (by omega) (by omega)).mp c3
            have hz1 := hv.z40 t
            have hz2 := hv.z40 u.1
            rw [ix10, ix10, nI_1]
            refine ok_t (ab_ok (t := 3) (N := 18) (k106 hn) (by omega) (by decide)) (ok_t (ab_ok (t := 3) (N := 18) (k106 hn) (by omega) (by decide)) ?_)
            rw [cl (n := 10 + t) (by omega)]
            show OkP _ (if F 106 (10 + t) ≤ F 106 (nI (10 + u.1)).toNatClampNeg then _ else _)
            rw [hs.sz (t := t) (by omega), cl (n := 10 + u.1) (by omega), hs.sz (t := u.1) (by omega)]
            refine ok_ite (fun c4 => ?_) (fun c4 => ?_)
            · have c4 := (nI_le' (by omega) (by omega)).mp c4
              refine hrec _ _ _ _ ⟨rfl, hF, ?_⟩
              rw [er, if_neg c2, if_neg (fun c => by omega)]
              exact ⟨rfl, rfl, hu1, hu2⟩
            · have c4 : ¬ _ ≤ sZ (gS g) u.1 := fun c => c4 ((nI_le' (by omega) (by omega)).mpr c)
              refine hrec _ _ _ _ ⟨rfl, hF, ?_⟩
              rw [er, if_neg c2, if_pos ⟨c3, by omega⟩]
              exact ⟨rfl, rfl, by omega, hc5⟩
          · have c2 : ¬ _ < u.2 := fun c => c2 ((nI_lt' (by omega) (by omega)).mpr c)
            have c3 : ¬ _ = u.2 := fun c => c3 ((nI_inj (by omega) (by omega)).mpr c)
            rw [nI_1]
            refine hrec _ _ _ _ ⟨rfl, hF, ?_⟩
            rw [er, if_neg c2, if_neg (fun c => c3 c.1)]
            exact ⟨rfl, rfl, hu1, hu2⟩
      · rw [if_neg c1]
        refine ok_t rfl ?_
        rw [nI_1]
        refine hrec _ _ _ _ ⟨rfl, hfr, ?_⟩
        have : rl (gF g) (gS g) (t + 1) = rl (gF g) (gS g) t := if_neg c1
        rw [this]; exact hb
    · rintro E i2 i3 i ⟨rfl, hfr, hb⟩ rec
      have hE := hfr.mr h
      obtain ⟨m1, m2, m3⟩ := many_M hP hn hE.1.1
      unfold f_M_relief_19
      refine ok_nn m1 (ok_t m2 ?_)
      rw [m3]
      refine ok_t (i2_ge (Nat.le_refl _) (by omega)) ?_
      cases e : rl (gF g) (gS g) (fK (gF g)) with
      | none =>
        rw [e] at hb
        have hb : i2 = -4 := hb
        exact ok_t hb (ok_some ⟨hb, hE⟩)
      | some u =>
        rw [e] at hb
        obtain ⟨rfl, rfl, hu1, hu2⟩ : i2 = nI u.1 ∧ i3 = nI u.2 ∧ u.1 < 8 ∧ u.2 ≤ 5 := hb
        have hne : ∀ a, a < 8 → ¬ nI a = (-4 : Int32) := by decide
        refine ok_f (hne _ hu1) (ok_ite (fun c => ok_some ⟨?_, hE⟩) (fun c => ok_some ⟨?_, hE⟩))
        · show nI u.1 = if nI w = 0 then _ else _
          rw [if_pos c]
        · show nI u.2 = if nI w = 0 then _ else _
          rw [if_neg c]
  · rw [if_neg q, if_neg q]
    exact ok_t rfl (ok_some ⟨rfl, h, Lo.rf⟩)
theorem M_sizeBy_eq (hP : PB P) (h : MR D g) (ho : GOK g) (hn : 117 ≤ nx) (hN : 200 ≤ N) {t k n : Nat} (ht : t < 8) (hk : k ≤ 3) (hn60 : n ≤ 60) : f_M_sizeBy N nx D P 97 (nI t) (nI k) (nI n) = some (nI (lbN k (sD (gS g)) n 0 (sZ (gS g) t))) := by
  have hz := ho.2.1.z40 t
  have hP11 : P 97 11 = some 106 := hP.at (by decide) rfl
  apply ok_val
  unfold f_M_sizeBy
  rw [ix10]
  refine ok_t (kd_at (by omega) rfl) (ok_nn hP11 (ok_t (ab_ok (t := 3) (N := 18) (k106 hn) (by omega) (by decide)) ?_))
  rw [cl (n := 10 + t) (by omega), h.2.1.sz (by omega)]
  generalize sZ (gS g) t = z0 at hz
  refine wk2_run (I := fun t i4 i5 => i5 = nI t ∧ ∃ y, y ≤ 40 ∧ i4 = nI y ∧ lbN k (sD (gS g)) (n - t) t y = lbN k (sD (gS g)) n 0 z0) n N _ _ (by omega) ?_ ?_ ?_
  · exact ⟨rfl, _, hz, rfl, rfl⟩
  · rintro t ht i4 i5 ⟨rfl, y, hy, rfl, heq⟩ rec hrec
    unfold f_M_sizeBy_14
    rw [show n - t = (n - (t + 1)) + 1 by omega] at heq
    rw [lbN_s] at heq
    refine ok_f (i2_lt ht (by omega)) (ok_ite (fun c => ?_) (fun c => ?_))
    · rw [lit 0, nI_le' (by omega) (by decide)] at c
      rw [if_pos (by omega)] at heq
      refine ok_some ?_
      rw [← heq, show y = 0 by omega]
    · rw [lit 0, nI_le' (by omega) (by decide)] at c
      rw [if_neg (by omega)] at heq
      refine ok_nn hP11 (ok_t (ab_ok (t := 3) (N := 18) (k106 hn) (n := 0) (by decide) (by decide)) ?_)
      show OkP _ ((f_M_grown N nx D P (nI y) (nI k) (D 106 0 + nI t)).bind _)
      rw [h.2.1.day]
      refine ok_call (M_grown_eq hk ⟨by omega, hy⟩) ?_
      rw [nI_1]
      exact hrec _ _ ⟨rfl, _, gr_le hy, rfl, heq⟩
  · rintro i4 i5 ⟨rfl, y, hy, rfl, heq⟩ rec
    unfold f_M_sizeBy_14
    rw [show n - n = 0 by omega] at heq
    exact ok_t (i2_ge (Nat.le_refl _) (by omega)) (ok_some (by rw [← heq]; rfl))
theorem M_kinds_eq (hP : PB P) (h : MR D g) (ho : GOK g) (hn : 117 ≤ nx) (hN : 200 ≤ N) (x : Int32) : f_M_kinds N nx D P 97 x = some (oKinds g x) := by
  have hf := ho.1
  have hk8 := hf.2.2.1
  have hm := ho.2.2.2.2.2.1
  obtain ⟨s0, s1⟩ := h.2.2.2.2.2.1
  apply ok_val
  unfold f_M_kinds oKinds
  refine ok_t (kd_at (by omega) rfl) (ok_call (M_isPin_eq hP hn h.1 hf x) ?_)
  by_cases q : isT (gF g) x = true
  · obtain ⟨t, rfl, ht⟩ := isT_up hf q
    rw [if_pos q, if_pos q, cl (n := t) (by omega)]
    refine ok_f (by decide) ?_
    refine wk2_run (I := fun k i2 i3 => i3 = nI k ∧ i2 = nI (bt (fit g t) k)) 4 N _ _ (by omega) ⟨rfl, rfl⟩ ?_ ?_
    · rintro k hk i2 i3 ⟨rfl, rfl⟩ rec hrec
      unfold f_M_kinds_14
      refine ok_f (by rw [lit 3, nI_lt' (by decide) (by omega)]; omega) ?_
      refine wk2_run (I := fun j i4 i5 => i5 = nI j ∧ ((i4 = 1 ∧ ∀ i, i < j → ((gN g).2 i).1 = t → lbN k (sD (gS g)) ((gN g).2 i).2.1 0 (sZ (gS g) t) = ((gN g).2 i).2.2) ∨ (i4 = 0 ∧ fit g t k = false))) (gN g).1 N _ _ (by omega) ⟨rfl, Or.inl ⟨rfl, fun i hi => absurd hi (Nat.not_lt_zero i)⟩⟩ ?_ ?_
      · rintro j hj i4 i5 ⟨rfl, hI⟩ rec2 hrec2
        obtain ⟨b1, b2, b3⟩ := hm.2 j hj
        obtain ⟨v1, v2, v3⟩ := s1 j hj
        have ab : ∀ a, a = 112 ∨ a = 113 ∨ a = 114 → ab nx a 3 (nI j) = true := by
          rintro a (rfl | rfl | rfl) <;> exact ab_ok (t := 3) (N := 8) (kd_at (by omega) rfl) (by omega) (by decide)
        unfold f_M_kinds_25
        rw [s0, nI_1 j]
        refine ok_f (i2_lt hj (by omega)) ?_
        rcases hI with ⟨rfl, hI⟩ | ⟨rfl, hI⟩
        · have next : (((gN g).2 j).1 = t → lbN k (sD (gS g)) ((gN g).2 j).2.1 0 (sZ (gS g) t) = ((gN g).2 j).2.2) → OkP (fun z => z = nI (bt (fit g t) 4)) (rec2 1 (nI (j + 1))) := by
            intro hj'
            refine hrec2 _ _ ⟨rfl, Or.inl ⟨rfl, fun i hi => ?_⟩⟩
            rcases Nat.lt_or_ge i j with w | w
            · exact hI i w
            · rw [show i = j by omega]; exact hj'
          refine ok_f (by decide) (ok_nn (hP.at (by decide) (show P0 97 19 = some 112 from rfl)) (ok_t (ab 112 (by decide)) ?_))
          rw [cl (n := j) (by omega), v1]
          refine ok_ite (fun c => ?_) (fun c => ?_)
          · have c := (nI_inj (by omega) (by omega)).mp c
            refine ok_nn (hP.at (by decide) (show P0 97 20 = some 113 from rfl)) (ok_t (ab 113 (by decide)) ?_)
            rw [v2]
            refine ok_call (M_sizeBy_eq hP h ho hn hN (by omega) (by omega) (by omega)) (ok_nn (hP.at (by decide) (show P0 97 21 = some 114 from rfl)) (ok_t (ab 114 (by decide)) ?_))
            rw [v3]
            have hl := lbN_le (k := k) (d := sD (gS g)) ((gN g).2 j).2.1 0 (sZ (gS g) t) (ho.2.1.z40 t)
            refine ok_ite (fun c2 => next (fun _ => (nI_inj (by omega) (by omega)).mp c2)) (fun c2 => hrec2 _ _ ⟨rfl, Or.inr ⟨rfl, ?_⟩⟩)
            exact decide_eq_false (fun hfit => c2 (by rw [hfit j hj c]))
          · exact next (fun c2 => absurd (by rw [c2]) c)
        · exact ok_t rfl (hrec2 _ _ ⟨rfl, Or.inr ⟨rfl, hI⟩⟩)
      · rintro i4 i5 ⟨rfl, hI⟩ rec2
        unfold f_M_kinds_25
        rw [s0]
        refine ok_t (i2_ge (Nat.le_refl _) (by omega)) ?_
        rw [nI_1]
        rcases hI with ⟨rfl, hI⟩ | ⟨rfl, hI⟩
        · have hft : fit g t k = true := decide_eq_true hI
          rw [or_bit (bt_lt _ k) (by omega)]
          refine ok_f (by decide) (hrec _ _ ⟨rfl, ?_⟩)
          show _ = nI (bt (fit g t) k + if fit g t k = true then 2 ^ k else 0)
          rw [if_pos hft]
        · rw [orz]
          refine ok_t rfl (hrec _ _ ⟨rfl, ?_⟩)
          show _ = nI (bt (fit g t) k + if fit g t k = true then 2 ^ k else 0)
          rw [if_neg (by rw [hI]; decide)]; rfl
    · rintro i2 i3 ⟨rfl, rfl⟩ rec
      unfold f_M_kinds_14
      exact ok_t (by decide) (ok_some rfl)
  · rw [if_neg q, if_neg q]
    exact ok_t rfl (ok_some rfl)
end MO
