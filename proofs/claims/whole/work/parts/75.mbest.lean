/-! the reference: the best set -/
theorem subB_ok : ∀ t, t < 256 → ∀ B, B < 256 → subB (nI t) (nI B) = true → t &&& B = t := by decide +kernel
theorem subB_le {t B : Nat} (ht : t < 256) (hB : B < 256) (h : subB (nI t) (nI B) = true) : t ≤ B := by
  have := subB_ok t ht B hB h
  rw [← this]; exact Nat.and_le_right
theorem subB_bit {t B : Nat} (ht : t < 256) (hB : B < 256) (h : subB (nI t) (nI B) = true) (j : Nat) (hj : t.testBit j = true) : B.testBit j = true := by
  have := subB_ok t ht B hB h
  rw [← this, Nat.testBit_and] at hj
  exact (Bool.and_eq_true_iff.mp hj).2
theorem bsN_s {f : Fam} {s : St} {n b t : Nat} : bsN f s n b (t + 1) = if subB (nI t) (nI b) = true ∧ (match bsN f s n b t with | none => true | some u => decide (pc t < pc u)) = true ∧ calmN f n (stkN f t s 8) = true then some t else bsN f s n b t := rfl
theorem bsN_more {f : Fam} {s : St} {n B : Nat} (hB : B < 256) : ∀ m, B + 1 + m ≤ 256 → bsN f s n B (B + 1 + m) = bsN f s n B (B + 1)
  | 0, _ => rfl
  | m + 1, h => by
    rw [show B + 1 + (m + 1) = (B + 1 + m) + 1 by omega, bsN_s, if_neg (fun c => by have := subB_le (by omega) hB c.1; omega)]
    exact bsN_more hB m (by omega)
def bigS (b t : Nat) (s : St) : St := (fun j => if j < t ∧ b.testBit j = true then 5 else sP s j, sZ s, sW s, sD s)
theorem bigS_ok {f : Fam} {s : St} (hv : StOK f s) {b : Nat} (hb : ∀ j, j < 8 → b.testBit j = true → sP s j < 5) (t : Nat) (ht : t ≤ 8) : StOK f (bigS b t s) := by
  refine ⟨fun j hj => ?_, fun j hj => ?_, hv.2.2⟩
  · obtain ⟨h1, h2, h3⟩ := hv.1 j hj
    show ((if j < t ∧ b.testBit j = true then 5 else sP s j) < fN f ∨ (if j < t ∧ b.testBit j = true then 5 else sP s j) = 5 ∨ (if j < t ∧ b.testBit j = true then 5 else sP s j) = 6 ∨ (if j < t ∧ b.testBit j = true then 5 else sP s j) = 7) ∧ sZ s j ≤ 40 ∧ ((if j < t ∧ b.testBit j = true then 5 else sP s j) < 6 → 1 ≤ sZ s j)
    by_cases c : j < t ∧ b.testBit j = true
    · rw [if_pos c]
      have := hb j (by omega) c.2
      exact ⟨Or.inr (Or.inl rfl), h2, fun _ => h3 (by omega)⟩
    · rw [if_neg c]; exact ⟨h1, h2, h3⟩
  · obtain ⟨h1, h2⟩ := hv.2.1 j hj
    show (if j < t ∧ b.testBit j = true then 5 else sP s j) = 8 ∧ sZ s j = 0
    rw [if_neg (fun c => by have := hb j (by omega) c.2; omega)]
    exact ⟨h1, h2⟩
theorem calmN_f {f : Fam} {s : St} (h : calm f s = false) : ∀ n, calmN f n s = false
  | 0 => h
  | n + 1 => by
    show (if calm f s = true then calmN f n (day f s) else false) = false
    rw [h]; rfl
theorem calm_d {f : Fam} {s : St} (h : sW s = fD f) : calm f s = false := decide_eq_false (fun c => c.1 h)
theorem stkN_W {f : Fam} {b : Nat} {s : St} : ∀ t, sW (stkN f b s t) = sW s
  | 0 => rfl
  | t + 1 => by
    show sW (stkS f b (stkN f b s t) t) = _
    unfold stkS
    split
    · split
      · exact stkN_W t
      · exact stkN_W t
    · exact stkN_W t
theorem stkN_big {f : Fam} {b : Nat} {s : St} (hb : ∀ j, j < 8 → b.testBit j = true → sP s j < 5) (hw : sW s ≠ fD f) : ∀ t, t ≤ 8 → stkN f b s t = bigS b t s
  | 0, _ => by
    show s = bigS b 0 s
    unfold bigS
    have : (fun j => if j < 0 ∧ b.testBit j = true then 5 else sP s j) = sP s := funext fun j => if_neg (fun c => absurd c.1 (Nat.not_lt_zero j))
    rw [this]; rfl
  | t + 1, ht => by
    show stkS f b (stkN f b s t) t = _
    rw [stkN_big hb hw t (by omega)]
    unfold stkS
    have eP : sP (bigS b t s) t = sP s t := if_neg (fun c => absurd c.1 (Nat.lt_irrefl t))
    by_cases c : b.testBit t = true
    · rw [if_pos c, if_pos ⟨by rw [eP]; exact hb t (by omega) c, hw⟩]
      unfold setP bigS
      have : (fun j => if j = t then 5 else sP ((fun j => if j < t ∧ b.testBit j = true then 5 else sP s j, sZ s, sW s, sD s) : St) j) = (fun j => if j < t + 1 ∧ b.testBit j = true then 5 else sP s j) := funext fun j => by
        show (if j = t then 5 else if j < t ∧ b.testBit j = true then 5 else sP s j) = _
        by_cases d : j = t
        · rw [if_pos d, if_pos ⟨by omega, by rw [d]; exact c⟩]
        · rw [if_neg d]
          by_cases e : j < t ∧ b.testBit j = true
          · rw [if_pos e, if_pos ⟨by omega, e.2⟩]
          · rw [if_neg e, if_neg (fun k => e ⟨by omega, k.2⟩)]
      rw [this]; rfl
    · rw [if_neg c]
      unfold bigS
      have : (fun j => if j < t ∧ b.testBit j = true then 5 else sP s j) = (fun j => if j < t + 1 ∧ b.testBit j = true then 5 else sP s j) := funext fun j => by
        by_cases e : j < t ∧ b.testBit j = true
        · rw [if_pos e, if_pos ⟨by omega, e.2⟩]
        · rw [if_neg e, if_neg (fun k => e ⟨by
            rcases Nat.lt_or_ge j t with w | w
            · exact w
            · exact absurd (show b.testBit t = true by rw [show t = j by omega]; exact k.2) c, k.2⟩)]
      rw [this]
theorem calm_big {f : Fam} {b n : Nat} {s : St} (hb : ∀ j, j < 8 → b.testBit j = true → sP s j < 5) : calmN f n (stkN f b s 8) = calmN f n (bigS b 8 s) := by
  by_cases hw : sW s = fD f
  · rw [calmN_f (calm_d (by rw [stkN_W]; exact hw)), calmN_f (calm_d (show sW (bigS b 8 s) = fD f from hw))]
  · rw [stkN_big hb hw 8 (Nat.le_refl _)]
section MP
variable {N nx : Nat} {D : Dt} {P : Ft} {g : Gs}
theorem M_isWellBy_ok (hP : PB P) (h : MR D g) (ho : GOK g) (hn : 117 ≤ nx) (hN : 200 ≤ N) {b n : Nat} (hb : b < 256) (hbp : ∀ j, j < 8 → b.testBit j = true → sP (gS g) j < 5) (hn20 : n ≤ 60) : OkP (fun z => z.1 = (if calmN (gF g) n (bigS b 8 (gS g)) = true then (1 : Int32) else 0) ∧ Fr9 D z.2) (f_M_isWellBy N nx D P 97 (nI b) (nI n)) := by
  have hf := ho.1
  have hk := hf.2.2.1
  have hn5 := hf.2.1
  have hP16 : P 97 16 = some 109 := hP.at (by decide) rfl
  unfold f_M_isWellBy
  refine ok_t (kd_at (by omega) rfl) (ok_bind (M_take_ok hP h hn (by omega)) (fun E hE => ?_))
  refine wk2_run (I := fun t E i => i = nI t ∧ Fr9 D E ∧ RStd (E 109) 0 (bigS b t (gS g))) (fK (gF g)) N _ _ (by omega) ⟨rfl, hE.2, hE.1.cong (fun t _ => ⟨by show mp (if t < 0 ∧ b.testBit t = true then 5 else sP (gS g) t) = _; rw [if_neg (fun c => absurd c.1 (Nat.not_lt_zero t))], rfl⟩) rfl rfl⟩ ?_ ?_
  · rintro t ht F i ⟨rfl, hfr, hF⟩ rec hrec
    have hmF := (hfr.mr h).1.1
    obtain ⟨m1, m2, m3⟩ := many_M hP hn hmF
    have ab2 : ab nx 109 3 (nI (2 + t)) = true := ab_ok (t := 3) (N := 18) (k109 hn) (by omega) (by decide)
    unfold f_M_isWellBy_6
    rw [ix2, nI_1]
    refine ok_nn m1 (ok_t m2 ?_)
    rw [m3]
    refine ok_f (i2_lt ht (by omega)) (ok_nn hP16 (ok_call (M_has_eq hb (by omega)) ?_))
    rw [cl (n := 2 + t) (by omega)]
    have eP : sP (bigS b t (gS g)) t = sP (gS g) t := if_neg (fun c => absurd c.1 (Nat.lt_irrefl t))
    have fin : ∀ p, (p = if b.testBit t = true then 5 else sP (gS g) t) → RStd (upd2 F 109 (2 + t) (nI (mp p)) 109) 0 (bigS b (t + 1) (gS g)) := by
      intro p hp
      rw [upd2_s]
      refine (hF.putP (t := t) (p := p) (by omega)).cong (fun j hj => ⟨?_, rfl⟩) rfl rfl
      show mp (if j < t + 1 ∧ b.testBit j = true then 5 else sP (gS g) j) = mp (if j = t then p else if j < t ∧ b.testBit j = true then 5 else sP (gS g) j)
      by_cases d : j = t
      · rw [if_pos d, hp, d]
        by_cases e : b.testBit t = true
        · rw [if_pos ⟨by omega, e⟩, if_pos e]
        · rw [if_neg (fun k => e k.2), if_neg e]
      · rw [if_neg d]
        by_cases e : j < t ∧ b.testBit j = true
        · rw [if_pos e, if_pos ⟨by omega, e.2⟩]
        · rw [if_neg e, if_neg (fun k => e ⟨by omega, k.2⟩)]
    by_cases c : b.testBit t = true
    · rw [if_pos c]
      refine ok_f (by decide) (ok_t ab2 (ok_pas (hrec _ _ ⟨rfl, FrO.tr (q := 109) hfr FrO.up, ?_⟩)))
      exact fin 5 (if_pos c).symm
    · rw [if_neg c]
      refine ok_t rfl (ok_t ab2 (ok_t ab2 (ok_pas (hrec _ _ ⟨rfl, FrO.tr (q := 109) hfr FrO.up, ?_⟩))))
      have e : F 109 (2 + t) = nI (mp (sP (gS g) t)) := by rw [hF.pl (by omega), eP]
      rw [e]
      exact fin _ (if_neg c).symm
  · rintro F i ⟨rfl, hfr, hF0⟩ rec
    have hmF := (hfr.mr h).1.1
    obtain ⟨m1, m2, m3⟩ := many_M hP hn hmF
    have hF : RStd (F 109) 0 (bigS b 8 (gS g)) := by
      refine hF0.cong (fun j hj => ⟨?_, rfl⟩) rfl rfl
      show mp (if j < 8 ∧ b.testBit j = true then 5 else sP (gS g) j) = mp (if j < fK (gF g) ∧ b.testBit j = true then 5 else sP (gS g) j)
      by_cases d : j < fK (gF g) ∧ b.testBit j = true
      · rw [if_pos d, if_pos ⟨hj, d.2⟩]
      · rw [if_neg d, if_neg (fun k => d ⟨by
          have h1 := hbp j hj k.2
          rcases Nat.lt_or_ge j (fK (gF g)) with w | w
          · exact w
          · have := (ho.2.1.2.1 j w).1; omega, k.2⟩)]
    have hv := bigS_ok ho.2.1 hbp 8 (Nat.le_refl _)
    generalize bigS b 8 (gS g) = S at hF hv
    have loop : ∀ (i3 : Int32) (E : Dt), Fr9 D E → (∀ s', RStd (E 109) 0 s' → StOK (gF g) s' → s' = S → (i3 = 1 ∧ calm (gF g) S = true) ∨ (i3 = 0 ∧ calm (gF g) S = false)) → RStd (E 109) 0 S → OkP (fun z => z.1 = (if calmN (gF g) n S = true then (1 : Int32) else 0) ∧ Fr9 D z.2) (wk3 N (f_M_isWellBy_81 N nx P 97 (nI n)) E i3 0) := by
      intro i3 E hE2 hi hS
      have hi := hi S hS hv rfl
      refine wk3_run (I := fun t F i3 i4 => i4 = nI t ∧ Fr9 D F ∧ ((i3 = 0 ∧ calmN (gF g) n S = false) ∨ (i3 = 1 ∧ ∃ s', RStd (F 109) 0 s' ∧ StOK (gF g) s' ∧ calm (gF g) s' = true ∧ calmN (gF g) n S = calmN (gF g) (n - t) s'))) n N _ _ _ (by omega) ⟨rfl, hE2, ?_⟩ ?_ ?_
      · rcases hi with ⟨h1, h2⟩ | ⟨h1, h2⟩
        · exact Or.inr ⟨h1, S, hS, hv, h2, rfl⟩
        · exact Or.inl ⟨h1, calmN_f h2 n⟩
      · rintro t ht F i3 i4 ⟨rfl, hfr, hI⟩ rec hrec
        unfold f_M_isWellBy_81
        refine ok_f (i2_lt ht (by omega)) ?_
        rcases hI with ⟨rfl, hI⟩ | ⟨rfl, s', h1, h2, h3, h4⟩
        · refine ok_t rfl (ok_t (Or.inl rfl) (ok_some ⟨?_, hfr⟩))
          rw [hI]; rfl
        · have hmF := (hfr.mr h).1.1
          rw [nI_1]
          refine ok_f (by decide) (ok_nn hP16 (ok_bind (M_passOn_ok hP hn hmF hf h2 (k109 hn) (by decide) h1 (by omega)) (fun E3 hE3 => ?_)))
          have hfr3 : Fr9 D E3 := FrO.tr (q := 109) hfr hE3.2
          have hm3 := (hfr3.mr h).1.1
          have hv3 := day_ok hf h2
          have e4 : calmN (gF g) (n - t) s' = calmN (gF g) (n - (t + 1)) (day (gF g) s') := by
            rw [show n - t = (n - (t + 1)) + 1 by omega]
            show (if calm (gF g) s' = true then calmN (gF g) (n - (t + 1)) (day (gF g) s') else false) = _
            rw [if_pos h3]
          rw [e4] at h4
          have bad : calm (gF g) (day (gF g) s') = false → OkP (fun z => z.1 = (if calmN (gF g) n S = true then (1 : Int32) else 0) ∧ Fr9 D z.2) (rec E3 0 (nI (t + 1))) := fun hc => hrec _ _ _ ⟨rfl, hfr3, Or.inl ⟨rfl, by rw [h4]; exact calmN_f hc _⟩⟩
          have hct := ct_le (brk (gF g) (day (gF g) s')) (fN (gF g))
          refine ok_call (M_broken_eq hP hn hm3 hf hv3 (k109 hn) hE3.1 (by omega)) (ok_ite (fun c => ok_call (M_isAtDoor_eq hP hn hm3 hf hv3 (k109 hn) hE3.1) ?_) (fun c => bad ?_))
          · rw [lit 0, nI_inj (by omega) (by decide)] at c
            by_cases d : sW (day (gF g) s') = fD (gF g)
            · rw [if_pos d]
              exact ok_f (by decide) (bad (calm_d d))
            · rw [if_neg d]
              exact ok_t rfl (hrec _ _ _ ⟨rfl, hfr3, Or.inr ⟨rfl, _, hE3.1, hv3, decide_eq_true ⟨d, c⟩, h4⟩⟩)
          · rw [lit 0, nI_inj (by omega) (by decide)] at c
            exact decide_eq_false (fun k => c k.2)
      · rintro F i3 i4 ⟨rfl, hfr, hI⟩ rec
        unfold f_M_isWellBy_81
        refine ok_t (i2_ge (Nat.le_refl _) (by omega)) ?_
        rcases hI with ⟨rfl, hI⟩ | ⟨rfl, s', h1, h2, h3, h4⟩
        · refine ok_t (Or.inl rfl) (ok_some ⟨?_, hfr⟩)
          rw [hI]; rfl
        · refine ok_t (Or.inr rfl) (ok_some ⟨?_, hfr⟩)
          rw [h4, Nat.sub_self, show calmN (gF g) 0 s' = calm (gF g) s' from rfl, h3]; rfl
    have hct := ct_le (brk (gF g) S) (fN (gF g))
    unfold f_M_isWellBy_6
    refine ok_nn m1 (ok_t m2 ?_)
    rw [m3]
    refine ok_t (i2_ge (Nat.le_refl _) (by omega)) (ok_nn hP16 (ok_call (M_broken_eq hP hn hmF hf hv (k109 hn) hF (by omega)) (ok_ite (fun c => ok_call (M_isAtDoor_eq hP hn hmF hf hv (k109 hn) hF) ?_) (fun c => loop 0 F hfr (fun _ _ _ _ => Or.inr ⟨rfl, ?_⟩) hF))))
    · rw [lit 0, nI_inj (by omega) (by decide)] at c
      by_cases d : sW S = fD (gF g)
      · rw [if_pos d]
        exact ok_f (by decide) (loop 0 F hfr (fun _ _ _ _ => Or.inr ⟨rfl, calm_d d⟩) hF)
      · rw [if_neg d]
        exact ok_t rfl (loop 1 F hfr (fun _ _ _ _ => Or.inl ⟨rfl, decide_eq_true ⟨d, c⟩⟩) hF)
    · rw [lit 0, nI_inj (by omega) (by decide)] at c
      exact decide_eq_false (fun k => c k.2)
theorem M_best_ok (hP : PB P) (h : MR D g) (ho : GOK g) (hn : 117 ≤ nx) (hN : 500 ≤ N) (x y : Int32) : OkP (fun z => z.1 = oBest g x y ∧ MR z.2 g ∧ Lo D z.2) (f_M_best N nx D P 97 x y) := by
  have hf := ho.1
  have hB : bt (br' (gS g)) 8 < 256 := bt_lt _ 8
  have hBp : ∀ j, j < 8 → (bt (br' (gS g)) 8).testBit j = true → sP (gS g) j < 5 := fun j hj h1 => by
    rw [bt_bit, decide_eq_true hj, Bool.true_and] at h1
    exact of_decide_eq_true h1
  unfold f_M_best oBest
  refine ok_t (kd_at (by omega) rfl) (ok_call M_in_eq ?_)
  show OkP _ (if (if nI 0 ≤ x ∧ x ≤ nI 20 then (1 : Int32) else 0) = 0 then _ else _)
  by_cases q : nI 0 ≤ x ∧ x ≤ nI 20
  · rw [if_pos q]
    refine ok_f (by decide) (ok_call M_in_eq ?_)
    show OkP _ (if (if nI 0 ≤ y ∧ y ≤ nI 1 then (1 : Int32) else 0) = 0 then _ else _)
    by_cases r : nI 0 ≤ y ∧ y ≤ nI 1
    · obtain ⟨n, rfl, hn1, hn2⟩ := up q.1 q.2 (by decide) (by decide)
      obtain ⟨w, rfl, hw1, hw2⟩ := up r.1 r.2 (by decide) (by decide)
      rw [if_pos r, if_pos ⟨q, r⟩, cl (n := n) (by omega)]
      refine ok_f (by decide) (ok_nn (hP.at (by decide) (show P0 97 11 = some 106 from rfl)) (ok_call (M_borne_eq hP hn h.1 hf ho.2.1 (k106 hn) h.2.1 (by omega)) ?_))
      generalize bt (br' (gS g)) 8 = B at hB hBp
      have e256 : bsN (gF g) (gS g) n B 256 = bsN (gF g) (gS g) n B (B + 1) := by
        have := bsN_more (f := gF g) (s := gS g) (n := n) hB (255 - B) (by omega)
        rwa [show B + 1 + (255 - B) = 256 by omega] at this
      rw [e256]
      have hne : ∀ u : Nat, u < 256 → ¬ nI u = (-4 : Int32) := by decide +kernel
      refine wk3_run (I := fun t E i4 i => i = nI t ∧ Fr9 D E ∧ match bsN (gF g) (gS g) n B t with | none => i4 = (-4 : Int32) | some u => i4 = nI u ∧ u < 256) (B + 1) N _ _ _ (by omega) ⟨rfl, fun _ _ => rfl, rfl⟩ ?_ ?_
      · rintro t ht E i4 i ⟨rfl, hfr, hb⟩ rec hrec
        have hE := (hfr.mr h).1
        have hpt := pc_le t
        unfold f_M_best_37
        rw [nI_1]
        refine ok_f (by rw [nI_lt' (by omega) (by omega)]; omega) ?_
        have keep : bsN (gF g) (gS g) n B (t + 1) = bsN (gF g) (gS g) n B t → ∀ F, Fr9 D F → OkP (fun z => z.1 = (match bsN (gF g) (gS g) n B (B + 1) with | none => -4 | some u => if nI w = 0 then nI (pc u) else nI u) ∧ MR z.2 g ∧ Lo D z.2) (rec F i4 (nI (t + 1))) := by
          intro e F hF
          exact hrec _ _ _ ⟨rfl, hF, by rw [e]; exact hb⟩
        have tryit : subB (nI t) (nI B) = true → (match bsN (gF g) (gS g) n B t with | none => true | some u => decide (pc t < pc u)) = true → OkP (fun z => z.1 = (match bsN (gF g) (gS g) n B (B + 1) with | none => -4 | some u => if nI w = 0 then nI (pc u) else nI u) ∧ MR z.2 g ∧ Lo D z.2) (f_M_best_72 N nx rec E P 97 (nI n) (nI w) (nI B) i4 (nI t)) := by
          intro c1 c2
          have hbp : ∀ j, j < 8 → t.testBit j = true → sP (gS g) j < 5 := fun j hj h1 => hBp j hj (subB_bit (by omega) hB c1 j h1)
          unfold f_M_best_72
          rw [nI_1]
          refine ok_bind (M_isWellBy_ok hP hE ho hn (by omega) (by omega) hbp (by omega)) ?_
          rintro ⟨z, F⟩ ⟨hz1, hz2⟩
          have hz1 : z = if calmN (gF g) n (bigS t 8 (gS g)) = true then (1 : Int32) else 0 := hz1
          have hF : Fr9 D F := FrO.tr (q := 109) hfr hz2
          rw [← calm_big hbp] at hz1
          by_cases c3 : calmN (gF g) n (stkN (gF g) t (gS g) 8) = true
          · rw [if_pos c3] at hz1
            refine ok_f (by show ¬ z = 0; rw [hz1]; decide) (hrec _ _ _ ⟨rfl, hF, ?_⟩)
            rw [bsN_s, if_pos ⟨c1, c2, c3⟩]
            exact ⟨rfl, by omega⟩
          · rw [if_neg c3] at hz1
            exact ok_t hz1 (keep (by rw [bsN_s, if_neg (fun d => c3 d.2.2)]) F hF)
        refine ok_ite (fun c1 => ?_) (fun c1 => keep (by rw [bsN_s, if_neg (fun d => c1 (of_decide_eq_true d.1))]) E hfr)
        have c1 : subB (nI t) (nI B) = true := decide_eq_true c1
        cases e : bsN (gF g) (gS g) n B t with
        | none =>
          rw [e] at hb
          have hb : i4 = -4 := hb
          exact ok_t hb (tryit c1 (by rw [e]))
        | some u =>
          rw [e] at hb
          obtain ⟨h4, hu⟩ : i4 = nI u ∧ u < 256 := hb
          have hpu := pc_le u
          refine ok_f (by rw [h4]; exact hne u hu) (ok_call (M_bitsOf_eq (by omega) (by omega)) ?_)
          rw [h4]
          refine ok_call (M_bitsOf_eq hu (by omega)) (ok_ite (fun c2 => ?_) (fun c2 => ?_))
          · have c2 := (nI_le' (by omega) (by omega)).mp c2
            rw [← h4]
            exact keep (by rw [bsN_s, e, if_neg (fun d => by have := of_decide_eq_true d.2.1; omega)]) E hfr
          · have c2 : ¬ pc u ≤ pc t := fun c => c2 ((nI_le' (by omega) (by omega)).mpr c)
            rw [← h4]
            exact tryit c1 (by rw [e]; exact decide_eq_true (by omega))
      · rintro E i4 i ⟨rfl, hfr, hb⟩ rec
        unfold f_M_best_37
        refine ok_t (by rw [nI_lt' (by omega) (by omega)]; omega) ?_
        cases e : bsN (gF g) (gS g) n B (B + 1) with
        | none =>
          rw [e] at hb
          have hb : i4 = -4 := hb
          exact ok_t hb (ok_some ⟨hb, hfr.mr h⟩)
        | some u =>
          rw [e] at hb
          obtain ⟨rfl, hu⟩ : i4 = nI u ∧ u < 256 := hb
          refine ok_f (hne u hu) (ok_ite (fun c => ok_some ⟨?_, hfr.mr h⟩) (fun c => ok_call (M_bitsOf_eq hu (by omega)) (ok_some ⟨?_, hfr.mr h⟩)))
          · show nI u = if nI w = 0 then _ else _
            rw [if_neg (by rw [c]; decide)]
          · show nI (pc u) = if nI w = 0 then _ else _
            have : w = 0 := by
              rcases (show w = 0 ∨ w = 1 by omega) with d | d
              · exact d
              · exact absurd (by rw [d]; rfl) c
            rw [if_pos (by rw [this]; rfl)]
    · rw [if_neg r, if_neg (fun c => r c.2)]
      exact ok_t rfl (ok_some ⟨rfl, h, Lo.rf⟩)
  · rw [if_neg q, if_neg (fun c => q c.1)]
    exact ok_t rfl (ok_some ⟨rfl, h, Lo.rf⟩)
end MP
