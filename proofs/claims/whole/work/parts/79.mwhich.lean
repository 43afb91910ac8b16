/-! the reference: which was which -/
theorem dn_s {c : Nat → Bool} {T : Nat} : dn c (T + 1) = if c (7 - T) = true then ((dn c T).1 + 1, some (7 - T)) else dn c T := rfl
theorem nI_dn (S : Nat) : nI S + (-1) = nI S - 1 := (Int32.sub_eq_add_neg _ _).symm
section MS
variable {N nx : Nat} {D : Dt} {P : Ft} {g : Gs}
theorem FrO.mr116 {E : Dt} (hf : FrO 116 D E) (h : MR D g) : MR E g ∧ Lo D E := ⟨h.sc (fun q _ _ _ _ _ _ => hf q (by omega)) (fun k _ => by rw [hf 97 (by decide)]), fun q hq => hf q (by omega)⟩
theorem tellWays_ok (hP : PB P) (h : MR D g) (ho : GOK g) (hn : 117 ≤ nx) (hN : 500 ≤ N) {n A : Nat} (hn20 : n ≤ 20) (hA : A < 256) (hAk : ∀ t, A.testBit t = true → t < fK (gF g)) (hAM : pc A = (gM g).1) : OkP (fun E => FrO 116 D E ∧ ∀ B, B < 256 → Sb B A → E 116 B = nI (VB g n A B)) (f_M_tellWays N nx D P 97 (nI A) (nI n)) := by
  have hf := ho.1
  have hk8 := hf.2.2.1
  have hM8 := ho.2.2.2.2.2.2.1
  have hP25 : P 97 25 = some 116 := hP.at (by decide) rfl
  have abS : ∀ B, B < 256 → ab nx 116 3 (nI B) = true := fun B hB => ab_ok (t := 3) (N := 256) (kd_at (by omega) rfl) hB (by decide)
  unfold f_M_tellWays
  refine ok_t (kd_at (by omega) rfl) ?_
  refine wk2_run (I := fun t E i3 => i3 = nI (256 - t) - 1 ∧ FrO 116 D E ∧ ∀ B, B < 256 → 256 - t ≤ B → Sb B A → E 116 B = nI (VB g n A B)) 256 N _ _ (by omega) ⟨by decide, fun _ _ => rfl, fun B hB h2 => by omega⟩ ?_ ?_
  · rintro t ht E i3 ⟨rfl, hfr, hI⟩ rec hrec
    obtain ⟨S, hS⟩ : ∃ S, 256 - t = S + 1 := ⟨255 - t, by omega⟩
    rw [hS] at hI
    have hS256 : S < 256 := by omega
    have hE := (hfr.mr116 h).1
    have eS : nI (256 - t) - 1 = nI S := by rw [hS]; exact nI_pred S
    rw [eS]
    have go : ∀ F : Dt, FrO 116 E F → (∀ B, B ≠ S → F 116 B = E 116 B) → (Sb S A → F 116 S = nI (VB g n A S)) → OkP (fun E => FrO 116 D E ∧ ∀ B, B < 256 → Sb B A → E 116 B = nI (VB g n A B)) (rec F (nI S + (-1))) := by
      intro F h1 h2 h3
      rw [nI_dn]
      refine hrec _ _ ⟨by rw [show 256 - (t + 1) = S by omega], hfr.tr h1, fun B hB hB2 hs => ?_⟩
      by_cases c : B = S
      · rw [c] at hs ⊢; exact h3 hs
      · rw [h2 B c]; exact hI B hB (by omega) hs
    have hpS := pc_le S
    have main : ∀ w : Nat, w = (if S = A then 1 else 0) → OkP (fun E => FrO 116 D E ∧ ∀ B, B < 256 → Sb B A → E 116 B = nI (VB g n A B)) (f_M_tellWays_23 N nx rec E P 97 (nI A) (nI n) (nI S) 116 (nI S) (nI w)) := by
      intro w hw
      unfold f_M_tellWays_23
      refine ok_t (abS S hS256) (ok_pas ?_)
      rw [cl (n := S) (by omega)]
      refine ok_call (M_bitsOf_eq hS256 (by omega)) ?_
      have f1 : FrO 116 E (upd2 E 116 S (nI w)) := FrO.up
      have f2 : ∀ B, B ≠ S → upd2 E 116 S (nI w) 116 B = E 116 B := fun B hB => by rw [upd2_s, upd_n hB]
      have f3 : upd2 E 116 S (nI w) 116 S = nI w := by rw [upd2_s, upd_s]
      revert f1 f2 f3
      generalize upd2 E 116 S (nI w) = E1
      intro f1 f2 f3
      have hE1 := (f1.mr116 hE).1
      rcases Nat.lt_or_ge (pc S) (gM g).1 with c | c
      · have hne : S ≠ A := fun e => by rw [e] at c; omega
        rw [if_neg hne] at hw
        subst hw
        refine wk2_run (I := fun u F i5 => i5 = nI u ∧ FrO 116 E F ∧ (∀ B, B ≠ S → F 116 B = E 116 B) ∧ (Sb S A → F 116 S = nI (sg (fun t => if mayB g n A S ((gM g).2 (pc S)) t = true then VB g n A (S ||| 2 ^ t) else 0) u))) (fK (gF g)) N _ _ (by omega) ⟨rfl, f1, f2, fun _ => f3⟩ ?_ ?_
        · rintro u hu F i5 ⟨rfl, g1, g2, g3⟩ rec2 hrec2
          have hF := (g1.mr116 hE).1
          obtain ⟨m1, m2, m3⟩ := many_M hP hn hF.1
          have a24 : F 97 24 = nI (gM g).1 := hF.2.2.2.2.2.2.1
          unfold f_M_tellWays_33
          refine ok_nn m1 (ok_t m2 ?_)
          rw [m3]
          refine ok_f (i2_lt hu (by omega)) ?_
          rw [a24]
          refine ok_f (i2_lt c (by omega)) (ok_call (M_has_eq hA (by omega)) ?_)
          have no : mayB g n A S ((gM g).2 (pc S)) u = false → OkP (fun E => FrO 116 D E ∧ ∀ B, B < 256 → Sb B A → E 116 B = nI (VB g n A B)) (f_M_tellWays_100 N nx rec rec2 F P 97 (nI A) (nI n) (nI S) (nI (pc S)) (nI u) 0) := by
            intro hmay
            unfold f_M_tellWays_100
            rw [nI_1]
            refine ok_nn hP25 (ok_t (abS S hS256) (ok_t rfl (ok_t (abS S hS256) (ok_pas ?_))))
            rw [cl (n := S) (by omega)]
            refine hrec2 _ _ ⟨rfl, g1.tr FrO.up, fun B hB => by rw [upd2_s, upd_n hB]; exact g2 B hB, fun hs => ?_⟩
            rw [upd2_s, upd_s, g3 hs]
            show _ = nI (sg (fun t => if mayB g n A S ((gM g).2 (pc S)) t = true then VB g n A (S ||| 2 ^ t) else 0) u + (if mayB g n A S ((gM g).2 (pc S)) u = true then VB g n A (S ||| 2 ^ u) else 0))
            rw [if_neg (by rw [hmay]; decide)]
            exact nI_add _ 0
          by_cases d1 : A.testBit u = true
          · rw [if_pos d1]
            refine ok_f (by decide) (ok_call (M_has_eq hS256 (by omega)) ?_)
            by_cases d2 : S.testBit u = true
            · rw [if_pos d2]
              exact ok_f (by decide) (no (by unfold mayB; rw [d2, Bool.not_true, Bool.and_false, Bool.false_and]))
            · rw [if_neg d2]
              have d2 : S.testBit u = false := Bool.eq_false_iff.mpr d2
              have hkind := (hF.1.2.2.2.2.2.2 u hu).2
              have hk3 := (hf.2.2.2.2.2.2.2.2.2 u hu).2
              refine ok_t rfl (ok_nn (hP.at (by decide) (show P0 97 7 = some 104 from rfl)) (ok_t (ab_ok (t := 3) (N := 16) (kd_at (by omega) rfl) (by omega) (by decide)) ?_))
              rw [cl (n := u) (by omega), hkind]
              refine ok_call (M_sizeBy_eq hP hF ho hn (by omega) (by omega) hk3 (by omega)) (ok_nn (hP.at (by decide) (show P0 97 23 = some 115 from rfl)) (ok_t (ab_ok (t := 3) (N := 8) (kd_at (by omega) rfl) (by omega) (by decide)) ?_))
              rw [cl (n := pc S) (by omega), hF.2.2.2.2.2.2.2 _ c]
              have h40 := ho.2.2.2.2.2.2.2 _ c
              have hz40 := lbN_le (k := fS (gF g) u) (d := sD (gS g)) n 0 (sZ (gS g) u) (ho.2.1.z40 u)
              refine ok_ite (fun e => ?_) (fun e => no ?_)
              · have e := (nI_inj (by omega) (by omega)).mp e
                have hmay : mayB g n A S ((gM g).2 (pc S)) u = true := by
                  unfold mayB
                  rw [d1, d2, show decide (mz g n u = (gM g).2 (pc S)) = true from decide_eq_true e]; rfl
                unfold f_M_tellWays_100
                rw [nI_1, or_set (by omega)]
                have hlt := or_lt hS256 (show u < 8 by omega)
                have hgt := or_gt d2
                refine ok_nn hP25 (ok_t (abS S hS256) (ok_f (by decide) (ok_t (abS _ hlt) (ok_t (abS S hS256) (ok_pas ?_)))))
                rw [cl (n := S) (by omega), cl (n := S ||| 2 ^ u) (by omega)]
                refine hrec2 _ _ ⟨rfl, g1.tr FrO.up, fun B hB => by rw [upd2_s, upd_n hB]; exact g2 B hB, fun hs => ?_⟩
                rw [upd2_s, upd_s, g3 hs, g2 _ (by omega), hI _ hlt (by omega) (Sb_or hs d1), nI_add]
                show _ = nI (sg (fun t => if mayB g n A S ((gM g).2 (pc S)) t = true then VB g n A (S ||| 2 ^ t) else 0) u + (if mayB g n A S ((gM g).2 (pc S)) u = true then VB g n A (S ||| 2 ^ u) else 0))
                rw [if_pos hmay]
              · unfold mayB
                rw [show decide (mz g n u = (gM g).2 (pc S)) = false from decide_eq_false (fun k => e (by
                  show nI (mz g n u) = _
                  rw [k])), Bool.and_false]
          · rw [if_neg d1]
            exact ok_t rfl (no (by unfold mayB; rw [Bool.eq_false_iff.mpr d1, Bool.false_and, Bool.false_and]))
        · rintro F i5 ⟨rfl, g1, g2, g3⟩ rec2
          have hF := (g1.mr116 hE).1
          obtain ⟨m1, m2, m3⟩ := many_M hP hn hF.1
          unfold f_M_tellWays_33
          refine ok_nn m1 (ok_t m2 ?_)
          rw [m3]
          refine ok_t (i2_ge (Nat.le_refl _) (by omega)) (go F g1 g2 (fun hs => ?_))
          rw [g3 hs, ← VB_step c]
          have := sg_more (g := fun t => if mayB g n A S ((gM g).2 (pc S)) t = true then VB g n A (S ||| 2 ^ t) else 0) (k := fK (gF g)) (fun t ht => if_neg (fun e => by have := hAk t (may_sp e).1; omega)) (8 - fK (gF g))
          rw [show fK (gF g) + (8 - fK (gF g)) = 8 by omega] at this
          rw [this]
      · refine wk2_run (I := fun u F i5 => i5 = nI 0 ∧ F = E1) 0 N _ _ (by omega) ⟨rfl, rfl⟩ (fun u hu => absurd hu (Nat.not_lt_zero u)) ?_
        rintro F i5 ⟨rfl, rfl⟩ rec2
        obtain ⟨m1, m2, m3⟩ := many_M hP hn hE1.1
        have a24 : F 97 24 = nI (gM g).1 := hE1.2.2.2.2.2.2.1
        have last := go F f1 f2 (fun hs => by
          have e : S = A := Sb_eq hS256 hA hs (by omega)
          rw [f3, hw, if_pos e, e]
          show nI 1 = nI (ww (gM g).2 ((gM g).1 - pc A) (pc A) (cntB g n A A))
          rw [hAM, Nat.sub_self]; rfl)
        unfold f_M_tellWays_33
        refine ok_nn m1 (ok_t m2 (ok_ite (fun _ => last) (fun _ => ?_)))
        rw [a24]
        exact ok_t (i2_ge c (by omega)) last
    unfold f_M_tellWays_4
    refine ok_f (nI_nneg (by omega)) (ok_nn hP25 (ok_ite (fun e => ?_) (fun e => ?_)))
    · have e := (nI_inj (by omega) (by omega)).mp e
      exact main 1 (if_pos e).symm
    · have e : S ≠ A := fun k => e (by rw [k])
      exact main 0 (if_neg e).symm
  · rintro E i3 ⟨rfl, hfr, hI⟩ rec
    unfold f_M_tellWays_4
    exact ok_t (by decide) (ok_some ⟨hfr, fun B hB hs => hI B hB (by omega) hs⟩)
theorem which125_ok (hP : PB P) (h : MR D g) (ho : GOK g) (hn : 117 ≤ nx) (hN : 500 ≤ N) {Q : Int32 × Dt → Prop} {rec : Int32 → Int32 → Int32 → Option (Int32 × Dt)} {n k A B i : Nat} {f0 : Int32} (hn20 : n ≤ 20) (hA : A < 256) (hAk : ∀ t, A.testBit t = true → t < fK (gF g)) (hAM : pc A = (gM g).1) (hV : ∀ B, B < 256 → Sb B A → D 116 B = nI (VB g n A B)) (hi : i < (gM g).1) (hB : B < 256) (hs : Sb B A) (hp : pc B = i) (hr : ∀ t, t < 8 → wR g n i t = if A.testBit t = true ∧ B.testBit t = false then mz g n t else 1000) (hpos : 0 < VB g n A B) (hrec : ∀ u, u < 8 → (dn (eqv (wR g n i) ((gM g).2 i)) 8).2 = some u → OkP Q (rec (nI (B ||| 2 ^ u)) (nI u) (nI (i + 1)))) : OkP Q (wk2 N (f_M_which_125 N nx rec D P 97 (nI n) (nI k) (nI A) (nI B) (nI i)) f0 (nI (fK (gF g)) - 1)) := by
  have hf := ho.1
  have hk8 := hf.2.2.1
  have hM8 := ho.2.2.2.2.2.2.1
  have h40 := ho.2.2.2.2.2.2.2 _ hi
  have hmay : ∀ t, t < 8 → eqv (wR g n i) ((gM g).2 i) t = mayB g n A B ((gM g).2 i) t := fun t ht => by
    unfold eqv mayB
    rw [hr t ht]
    by_cases c : A.testBit t = true ∧ B.testBit t = false
    · rw [if_pos c, c.1, c.2]; rfl
    · rw [if_neg c, decide_eq_false (show ¬ 1000 = (gM g).2 i by omega)]
      cases e1 : A.testBit t with
      | false => rfl
      | true =>
        cases e2 : B.testBit t with
        | false => exact absurd ⟨e1, e2⟩ c
        | true => rfl
  have hc : ∀ T, T ≤ 8 - fK (gF g) → dn (eqv (wR g n i) ((gM g).2 i)) T = (0, none) := by
    intro T
    induction T with
    | zero => intro _; rfl
    | succ T ih =>
      intro hT
      rw [dn_s, hmay _ (by omega), if_neg (fun e => by have := hAk _ (may_sp e).1; omega)]
      exact ih (by omega)
  refine wk2_run (I := fun u i5 i7 => i7 = nI (fK (gF g) - u) - 1 ∧ match (dn (eqv (wR g n i) ((gM g).2 i)) (8 - fK (gF g) + u)).2 with | none => True | some v => i5 = nI v) (fK (gF g)) N _ _ (by omega) ⟨rfl, by rw [Nat.add_zero, hc _ (Nat.le_refl _)]; exact trivial⟩ ?_ ?_
  · rintro u hu i5 i7 ⟨rfl, hI⟩ rec2 hrec2
    obtain ⟨t, ht⟩ : ∃ t, fK (gF g) - u = t + 1 := ⟨fK (gF g) - u - 1, by omega⟩
    have et : nI (fK (gF g) - u) - 1 = nI t := by rw [ht]; exact nI_pred t
    rw [et]
    have e7 : 7 - (8 - fK (gF g) + u) = t := by omega
    have es : dn (eqv (wR g n i) ((gM g).2 i)) (8 - fK (gF g) + (u + 1)) = if mayB g n A B ((gM g).2 i) t = true then ((dn (eqv (wR g n i) ((gM g).2 i)) (8 - fK (gF g) + u)).1 + 1, some t) else dn (eqv (wR g n i) ((gM g).2 i)) (8 - fK (gF g) + u) := by
      rw [show 8 - fK (gF g) + (u + 1) = (8 - fK (gF g) + u) + 1 by omega, dn_s, e7, hmay t (by omega)]
    have no : mayB g n A B ((gM g).2 i) t = false → OkP Q (rec2 i5 (nI t + (-1))) := by
      intro hm
      rw [nI_dn]
      refine hrec2 _ _ ⟨by rw [show fK (gF g) - (u + 1) = t by omega], ?_⟩
      rw [es, if_neg (by rw [hm]; decide)]; exact hI
    have no1 : mayB g n A B ((gM g).2 i) t = false → OkP Q (f_M_which_178 N nx rec rec2 D P 97 (nI n) (nI k) (nI A) (nI B) i5 (nI i) (nI t) 0) := by
      intro hm
      unfold f_M_which_178
      exact ok_t rfl (no hm)
    unfold f_M_which_125
    refine ok_f (nI_nneg (by omega)) (ok_call (M_has_eq hA (by omega)) ?_)
    by_cases d1 : A.testBit t = true
    · rw [if_pos d1]
      refine ok_f (by decide) (ok_call (M_has_eq hB (by omega)) ?_)
      by_cases d2 : B.testBit t = true
      · rw [if_pos d2]
        exact ok_f (by decide) (no1 (by unfold mayB; rw [d2, Bool.not_true, Bool.and_false, Bool.false_and]))
      · rw [if_neg d2]
        have d2 : B.testBit t = false := Bool.eq_false_iff.mpr d2
        have htk := hAk t d1
        have hkind := (h.1.2.2.2.2.2.2 t htk).2
        have hk3 := (hf.2.2.2.2.2.2.2.2.2 t htk).2
        refine ok_t rfl (ok_nn (hP.at (by decide) (show P0 97 7 = some 104 from rfl)) (ok_t (ab_ok (t := 3) (N := 16) (kd_at (by omega) rfl) (by omega) (by decide)) ?_))
        rw [cl (n := t) (by omega), hkind]
        refine ok_call (M_sizeBy_eq hP h ho hn (by omega) (by omega) hk3 (by omega)) (ok_nn (hP.at (by decide) (show P0 97 23 = some 115 from rfl)) (ok_t (ab_ok (t := 3) (N := 8) (kd_at (by omega) rfl) (by omega) (by decide)) ?_))
        rw [cl (n := i) (by omega), h.2.2.2.2.2.2.2 _ hi]
        have hz40 := lbN_le (k := fS (gF g) t) (d := sD (gS g)) n 0 (sZ (gS g) t) (ho.2.1.z40 t)
        refine ok_ite (fun e => ?_) (fun e => no1 ?_)
        · have e := (nI_inj (by omega) (by omega)).mp e
          have hm : mayB g n A B ((gM g).2 i) t = true := by
            unfold mayB
            rw [d1, d2, show decide (mz g n t = (gM g).2 i) = true from decide_eq_true e]; rfl
          have hlt := or_lt hB (show t < 8 by omega)
          have hv := VB_or (g := g) (n := n) (A := A) (B := B) (t := t) (by omega) (by omega) (by rw [hp]; exact hm)
          have hv0 : 0 < VB g n A (B ||| 2 ^ t) := by
            rcases Nat.eq_zero_or_pos (VB g n A (B ||| 2 ^ t)) with z | z
            · rw [z, Nat.mul_zero] at hv; omega
            · exact z
          have hvl := VB_le (g := g) (n := n) (A := A) (B := B ||| 2 ^ t) hM8
          unfold f_M_which_178
          rw [or_set (by omega)]
          refine ok_f (by decide) (ok_nn (hP.at (by decide) (show P0 97 25 = some 116 from rfl)) (ok_t (ab_ok (t := 3) (N := 256) (kd_at (by omega) rfl) hlt (by decide)) ?_))
          rw [cl (n := B ||| 2 ^ t) (by omega), hV _ hlt (Sb_or hs d1)]
          refine ok_f (by rw [lit 0, nI_le' (by omega) (by decide)]; omega) ?_
          rw [nI_dn]
          refine hrec2 _ _ ⟨by rw [show fK (gF g) - (u + 1) = t by omega], ?_⟩
          rw [es, if_pos hm]
        · unfold mayB
          rw [show decide (mz g n t = (gM g).2 i) = false from decide_eq_false (fun k => e (by
            show nI (mz g n t) = _
            rw [k])), Bool.and_false]
    · rw [if_neg d1]
      exact ok_t rfl (no1 (by unfold mayB; rw [Bool.eq_false_iff.mpr d1, Bool.false_and, Bool.false_and]))
  · rintro i5 i7 ⟨rfl, hI⟩ rec2
    rw [show 8 - fK (gF g) + fK (gF g) = 8 by omega] at hI
    unfold f_M_which_125
    refine ok_t (by rw [Nat.sub_self]; decide) ?_
    cases e : (dn (eqv (wR g n i) ((gM g).2 i)) 8).2 with
    | none =>
      have h0 : cntB g n A B ((gM g).2 (pc B)) = 0 := by
        show ct (mayB g n A B ((gM g).2 (pc B))) 8 = 0
        rw [hp, ct_cong (h := fun _ => false) (fun t ht => by rw [← hmay t ht]; exact dn_none e t ht)]
        rfl
      have : VB g n A B = 0 := by
        show ww (gM g).2 ((gM g).1 - pc B) (pc B) (cntB g n A B) = 0
        rw [show (gM g).1 - pc B = ((gM g).1 - (pc B + 1)) + 1 by omega, ww_s, h0, Nat.zero_mul]
      omega
    | some v =>
      rw [e] at hI
      have hI : i5 = nI v := hI
      obtain ⟨v7, -⟩ := dn_lt _ _ _ e
      rw [hI, or_set (by omega), nI_1]
      exact hrec v (by omega) e
theorem M_which_ok (hP : PB P) (h : MR D g) (ho : GOK g) (hn : 117 ≤ nx) (hN : 500 ≤ N) (x y : Int32) : OkP (fun z => z.1 = oWhich g x y ∧ MR z.2 g ∧ Lo D z.2) (f_M_which N nx D P 97 x y) := by
  have hf := ho.1
  have hk8 := hf.2.2.1
  have hM8 := ho.2.2.2.2.2.2.1
  have h40 := ho.2.2.2.2.2.2.2
  unfold f_M_which oWhich
  refine ok_t (kd_at (by omega) rfl) (ok_call M_in_eq ?_)
  show OkP _ (if (if nI 0 ≤ x ∧ x ≤ nI 20 then (1 : Int32) else 0) = 0 then _ else _)
  by_cases q : nI 0 ≤ x ∧ x ≤ nI 20
  · rw [if_pos q]
    refine ok_f (by decide) (ok_call M_in_eq ?_)
    show OkP _ (if (if (-1) ≤ y ∧ y ≤ nI 7 then (1 : Int32) else 0) = 0 then _ else _)
    by_cases r : (-1) ≤ y ∧ y ≤ nI 7
    · obtain ⟨n, rfl, hn1, hn2⟩ := up q.1 q.2 (by decide) (by decide)
      rw [if_pos r, if_pos ⟨q, r⟩, cl (n := n) (by omega)]
      have a24 : D 97 24 = nI (gM g).1 := h.2.2.2.2.2.2.1
      have hP25 : P 97 25 = some 116 := hP.at (by decide) rfl
      have ab0 : ab nx 116 3 0 = true := ab_ok (t := 3) (N := 256) (kd_at (by omega) rfl) (n := 0) (by decide) (by decide)
      refine ok_f (by decide) (ok_nn (hP.at (by decide) (show P0 97 11 = some 106 from rfl)) (ok_call (M_borne_eq hP hn h.1 hf ho.2.1 (k106 hn) h.2.1 (by omega)) (ok_call (M_bitsOf_eq (bt_lt _ 8) (by omega)) ?_)))
      rw [a24]
      have hA : bt (br' (gS g)) 8 < 256 := bt_lt _ 8
      have hApc : pc (bt (br' (gS g)) 8) = ct (br' (gS g)) 8 := pc_bt _
      have hAb : ∀ t, t < 8 → (bt (br' (gS g)) 8).testBit t = br' (gS g) t := fun t ht => by rw [bt_bit, decide_eq_true ht, Bool.true_and]
      have hAk : ∀ t, (bt (br' (gS g)) 8).testBit t = true → t < fK (gF g) := fun t ht => by
        rw [bt_bit, Bool.and_eq_true] at ht
        have h5 : sP (gS g) t < 5 := of_decide_eq_true ht.2
        rcases Nat.lt_or_ge t (fK (gF g)) with w | w
        · exact w
        · have := (ho.2.1.2.1 t w).1; omega
      have w0 : wP g n 0 = if pc (bt (br' (gS g)) 8) = (gM g).1 then 1 else 0 := by rw [hApc]; rfl
      have hww := wP_ww (g := g) (n := n) h40 (gM g).1 0 (Nat.zero_add _)
      have hc0 : ∀ v, v ≤ 40 → cR g n 0 v = cntB g n (bt (br' (gS g)) 8) 0 v := fun v hv => ct_cong (fun t ht => by
        unfold mayB
        rw [hAb t ht, Nat.zero_testBit]
        show decide ((if sP (gS g) t < 5 then mz g n t else 1000) = v) = (decide (sP (gS g) t < 5) && !false && decide (mz g n t = v))
        by_cases c : sP (gS g) t < 5
        · rw [if_pos c, decide_eq_true c]; rfl
        · rw [if_neg c, decide_eq_false c, decide_eq_false (show ¬ 1000 = v by omega)]; rfl)
      rw [ww_cong h40 (gM g).1 0 _ _ (by omega) hc0] at hww
      have hr0 : ∀ t, t < 8 → wR g n 0 t = if (bt (br' (gS g)) 8).testBit t = true ∧ (0 : Nat).testBit t = false then mz g n t else 1000 := fun t ht => by
        rw [hAb t ht, Nat.zero_testBit]
        show (if sP (gS g) t < 5 then mz g n t else 1000) = _
        by_cases c : sP (gS g) t < 5
        · rw [if_pos c, if_pos ⟨decide_eq_true c, rfl⟩]
        · rw [if_neg c, if_neg (fun e => c (of_decide_eq_true e.1))]
      generalize bt (br' (gS g)) 8 = A at hA hApc hAk w0 hww hr0
      have hpA := pc_le A
      by_cases c : pc A = (gM g).1
      · rw [if_pos c] at w0
        have eV : wP g n (gM g).1 = VB g n A 0 := by
          rw [← hww, w0, Nat.one_mul]
          show _ = ww (gM g).2 ((gM g).1 - pc 0) (pc 0) (cntB g n A 0)
          rw [show pc 0 = 0 from rfl]; rfl
        rw [eV]
        have hVl := VB_le (g := g) (n := n) (A := A) (B := 0) hM8
        refine ok_t (by rw [c]) (ok_bind (tellWays_ok hP h ho hn hN hn2 hA hAk c) ?_)
        rintro E ⟨hfr, hV⟩
        have hE := hfr.mr116 h
        have hSb0 : Sb 0 A := fun j hj => by
          rw [Nat.zero_testBit] at hj; cases hj
        have hV0 : E 116 0 = nI (VB g n A 0) := hV 0 (by decide) hSb0
        by_cases e : y = -1
        · refine ok_t e ?_
          unfold f_M_which_82
          rw [if_pos e]
          exact ok_t e (ok_nn hP25 (ok_t ab0 (ok_some ⟨hV0, hE⟩)))
        · rw [if_neg e]
          have none82 : ¬ (0 < VB g n A 0 ∧ y.toNatClampNeg < (gM g).1) → OkP (fun z => z.1 = (if 0 < VB g n A 0 ∧ y.toNatClampNeg < (gM g).1 then wL g n y.toNatClampNeg else -4) ∧ MR z.2 g ∧ Lo D z.2) (f_M_which_82 N nx E P 97 y) := by
            intro hne
            unfold f_M_which_82
            rw [if_neg hne]
            exact ok_f e (ok_some ⟨rfl, hE⟩)
          have hy0 : nI 0 ≤ y := by
            have h1 := Int32.le_iff_toInt_le.mp r.1
            have h2 : y.toInt ≠ -1 := fun k => e (Int32.toInt_inj.mp (by rw [k]; decide))
            rw [Int32.le_iff_toInt_le]
            have h3 : (-1 : Int32).toInt = -1 := by decide
            have h4 : (nI 0).toInt = 0 := by decide
            omega
          obtain ⟨k, rfl, hk1, hk2⟩ := up hy0 r.2 (by decide) (by decide)
          refine ok_f e (ok_nn hP25 (ok_t ab0 ?_))
          show OkP _ (if E 116 0 = 0 then _ else _)
          rw [hV0, hE.1.2.2.2.2.2.2.1]
          refine ok_ite (fun d => none82 ?_) (fun d => ok_ite (fun d2 => ?_) (fun d2 => none82 ?_))
          · rw [lit 0, nI_inj (by omega) (by decide)] at d
            omega
          · rw [lit 0, nI_inj (by omega) (by decide)] at d
            have d2 := (nI_lt' (by omega) (by omega)).mp d2
            rw [cl (n := k) (by omega), if_pos ⟨by omega, d2⟩]
            refine wk3_run (I := fun i i4 i5 i6 => i6 = nI i ∧ ∃ B, i4 = nI B ∧ B < 256 ∧ Sb B A ∧ pc B = i ∧ (∀ t, t < 8 → wR g n i t = if A.testBit t = true ∧ B.testBit t = false then mz g n t else 1000) ∧ 0 < VB g n A B ∧ (i = k + 1 → i5 = wL g n k)) (k + 1) N _ _ _ (by omega) ⟨rfl, 0, rfl, by decide, hSb0, rfl, hr0, by omega, fun w => by omega⟩ ?_ ?_
            · rintro i hi i4 i5 i6 ⟨rfl, B, rfl, b1, b2, b3, b4, b5, b6⟩ rec hrec
              obtain ⟨m1, m2, m3⟩ := many_M hP hn hE.1.1
              unfold f_M_which_109
              refine ok_f (by rw [nI_lt' (by omega) (by omega)]; omega) (ok_nn m1 (ok_t m2 ?_))
              rw [m3]
              refine which125_ok hP hE.1 ho hn hN hn2 hA hAk c hV (by omega) b1 b2 b3 b4 b5 (fun u hu hdn => hrec _ _ _ ⟨rfl, B ||| 2 ^ u, rfl, or_lt b1 hu, ?_, ?_, ?_, ?_, ?_⟩)
              all_goals
                obtain ⟨-, hcu⟩ := dn_lt _ _ _ hdn
                have hcu : wR g n i u = (gM g).2 i := of_decide_eq_true hcu
                have hmi := h40 i (by omega)
                have hru := b4 u hu
                have hab : A.testBit u = true ∧ B.testBit u = false := Decidable.byContradiction (fun w => by rw [if_neg w] at hru; omega)
                rw [if_pos hab] at hru
              · exact Sb_or b2 hab.1
              · rw [pc_or hu hab.2, b3]
              · intro t ht
                rw [wR_s]
                unfold tk
                rw [hdn]
                show (if t = u then 1000 else wR g n i t) = _
                rw [b4 t ht, tb_or]
                by_cases w : t = u
                · rw [if_pos w, decide_eq_true w.symm, Bool.or_true, if_neg (fun z => by cases z.2)]
                · rw [if_neg w, decide_eq_false (fun z => w z.symm), Bool.or_false]
              · have hv := VB_or (g := g) (n := n) (A := A) (B := B) (t := u) hu (by omega) (by
                  unfold mayB
                  rw [hab.1, hab.2, b3, decide_eq_true (show mz g n u = (gM g).2 i by omega)]; rfl)
                rcases Nat.eq_zero_or_pos (VB g n A (B ||| 2 ^ u)) with z | z
                · rw [z, Nat.mul_zero] at hv; omega
                · exact z
              · intro w
                have : i = k := by omega
                subst this
                unfold wL
                rw [hdn]
            · rintro i4 i5 i6 ⟨rfl, B, rfl, b1, b2, b3, b4, b5, b6⟩ rec
              unfold f_M_which_109
              exact ok_t (by rw [nI_lt' (by omega) (by omega)]; omega) (ok_some ⟨b6 rfl, hE⟩)
          · have d2 : ¬ k < (gM g).1 := fun w => d2 ((nI_lt' (by omega) (by omega)).mpr w)
            rw [cl (n := k) (by omega)]
            exact fun w => d2 w.2
      · rw [if_neg c] at w0
        rw [w0, Nat.zero_mul] at hww
        rw [← hww]
        refine ok_f (by rw [nI_inj (by omega) (by omega)]; exact c) (ok_ite (fun e => ?_) (fun e => ?_))
        · rw [if_pos e]; exact ok_some ⟨rfl, h, Lo.rf⟩
        · rw [if_neg e, if_neg (fun w => absurd w.1 (Nat.lt_irrefl 0))]; exact ok_some ⟨rfl, h, Lo.rf⟩
    · rw [if_neg r, if_neg (fun c => r c.2)]
      exact ok_t rfl (ok_some ⟨rfl, h, Lo.rf⟩)
  · rw [if_neg q, if_neg (fun c => q c.1)]
    exact ok_t rfl (ok_some ⟨rfl, h, Lo.rf⟩)
end MS
