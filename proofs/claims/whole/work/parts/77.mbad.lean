/-! the reference: how likely somebody breaks -/
def bb (f : Fam) (p : Nat) : Nat → Nat → St → Bool
  | 0, _, _ => false
  | m + 1, B, s => brk f (day f (if B % 2 = 1 then badS s else s)) p || bb f p m (B / 2) (day f (if B % 2 = 1 then badS s else s))
theorem bb_s {f : Fam} {p m B : Nat} {s : St} : bb f p (m + 1) B s = (brk f (day f (if B % 2 = 1 then badS s else s)) p || bb f p m (B / 2) (day f (if B % 2 = 1 then badS s else s))) := rfl
def wt (x : Nat) : Nat → Nat → Nat
  | 0, _ => 1
  | m + 1, B => (if B % 2 = 1 then x else 10 - x) * wt x m (B / 2)
theorem wt_s {x m B : Nat} : wt x (m + 1) B = (if B % 2 = 1 then x else 10 - x) * wt x m (B / 2) := rfl
theorem wt_le {x : Nat} (hx : x ≤ 10) : ∀ m B, wt x m B ≤ 10 ^ m
  | 0, _ => Nat.le_refl _
  | m + 1, B => by
    rw [wt_s, Nat.pow_succ, Nat.mul_comm (10 ^ m) 10]
    exact Nat.mul_le_mul (by split <;> omega) (wt_le hx m _)
theorem sg_double (F : Nat → Nat) : ∀ T, sg F (2 * T) = sg (fun t => F (2 * t) + F (2 * t + 1)) T
  | 0 => rfl
  | T + 1 => by
    show sg F (2 * T + 1 + 1) = sg (fun t => F (2 * t) + F (2 * t + 1)) T + (F (2 * T) + F (2 * T + 1))
    rw [← sg_double F T]
    show sg F (2 * T) + F (2 * T) + F (2 * T + 1) = _
    omega
theorem sg_add (F G : Nat → Nat) : ∀ T, sg (fun t => F t + G t) T = sg F T + sg G T
  | 0 => rfl
  | T + 1 => by
    show sg (fun t => F t + G t) T + (F T + G T) = sg F T + F T + (sg G T + G T)
    rw [sg_add F G T]; omega
theorem sg_mul (c : Nat) (F : Nat → Nat) : ∀ T, sg (fun t => c * F t) T = c * sg F T
  | 0 => rfl
  | T + 1 => by
    show sg (fun t => c * F t) T + c * F T = c * (sg F T + F T)
    rw [sg_mul c F T, Nat.mul_add]
theorem dbl0 (t : Nat) : (2 * t) % 2 = 0 ∧ (2 * t) / 2 = t := by omega
theorem dbl1 (t : Nat) : (2 * t + 1) % 2 = 1 ∧ (2 * t + 1) / 2 = t := by omega
theorem wt_sum {x : Nat} (hx : x ≤ 10) : ∀ m, sg (fun B => wt x m B) (2 ^ m) = 10 ^ m
  | 0 => rfl
  | m + 1 => by
    rw [Nat.pow_succ, Nat.mul_comm (2 ^ m) 2, sg_double, sg_add]
    rw [sg_cong (h := fun t => (10 - x) * wt x m t) (fun t _ => by rw [wt_s, (dbl0 t).1, (dbl0 t).2, if_neg (by decide)]), sg_cong (g := fun t => wt x (m + 1) (2 * t + 1)) (h := fun t => x * wt x m t) (fun t _ => by
      show wt x (m + 1) (2 * t + 1) = _
      rw [wt_s, (dbl1 t).1, (dbl1 t).2, if_pos rfl])]
    rw [sg_mul, sg_mul, wt_sum hx m, ← Nat.add_mul, Nat.pow_succ, Nat.mul_comm (10 ^ m) 10, show 10 - x + x = 10 by omega]
theorem bw_sum {f : Fam} {p x : Nat} (hx : x ≤ 10) : ∀ m s, sg (fun B => if bb f p m B s = true then wt x m B else 0) (2 ^ m) = bw f p x m s
  | 0, _ => rfl
  | m + 1, s => by
    have half : ∀ (c : Nat) (s1 : St), sg (fun B => if (brk f s1 p || bb f p m B s1) = true then c * wt x m B else 0) (2 ^ m) = c * (if brk f s1 p = true then 10 ^ m else bw f p x m s1) := by
      intro c s1
      by_cases k : brk f s1 p = true
      · rw [if_pos k, sg_cong (h := fun B => c * wt x m B) (fun t _ => by rw [k, Bool.true_or, if_pos rfl]), sg_mul, wt_sum hx m]
      · have k : brk f s1 p = false := Bool.eq_false_iff.mpr k
        rw [k, if_neg (by decide), ← bw_sum hx m s1, ← sg_mul]
        refine sg_cong (fun t _ => ?_)
        show (if (false || bb f p m t s1) = true then c * wt x m t else 0) = c * (if bb f p m t s1 = true then wt x m t else 0)
        rw [Bool.false_or]
        split
        · rfl
        · rw [Nat.mul_zero]
    have a0 : sg (fun t => if bb f p (m + 1) (2 * t) s = true then wt x (m + 1) (2 * t) else 0) (2 ^ m) = (10 - x) * (if brk f (day f s) p = true then 10 ^ m else bw f p x m (day f s)) := by
      rw [← half (10 - x) (day f s)]
      refine sg_cong (fun t _ => ?_)
      show (if bb f p (m + 1) (2 * t) s = true then wt x (m + 1) (2 * t) else 0) = _
      rw [bb_s, wt_s, (dbl0 t).1, (dbl0 t).2, if_neg (show ¬ (0 : Nat) = 1 by decide), if_neg (show ¬ (0 : Nat) = 1 by decide)]
    have a1 : sg (fun t => if bb f p (m + 1) (2 * t + 1) s = true then wt x (m + 1) (2 * t + 1) else 0) (2 ^ m) = x * (if brk f (day f (badS s)) p = true then 10 ^ m else bw f p x m (day f (badS s))) := by
      rw [← half x (day f (badS s))]
      refine sg_cong (fun t _ => ?_)
      show (if bb f p (m + 1) (2 * t + 1) s = true then wt x (m + 1) (2 * t + 1) else 0) = _
      rw [bb_s, wt_s, (dbl1 t).1, (dbl1 t).2, if_pos (show (1 : Nat) = 1 from rfl), if_pos (show (1 : Nat) = 1 from rfl)]
    rw [show 2 ^ (m + 1) = 2 * 2 ^ m by rw [Nat.pow_succ, Nat.mul_comm], sg_double, sg_add, a0, a1, bw_s, Nat.add_comm]
theorem sh9 : ∀ t, t < 9 → (1 : Int32) <<< (nI t &&& 31) = nI (2 ^ t) := by decide
theorem tb_mod (B k : Nat) : B.testBit k = decide (B / 2 ^ k % 2 = 1) := by
  rw [Nat.testBit_eq_decide_div_mod_eq]
theorem div_step (B k : Nat) : B / 2 ^ k / 2 = B / 2 ^ (k + 1) := by
  rw [Nat.div_div_eq_div_mul, Nat.pow_succ]
theorem rmixZ {r : Nat → Int32} {s s' : St} {t : Nat} (h : RStd r 0 (setZ (mixS t s s') t (sZ s' t))) (hp : sP s' t = sP s t) : RStd r 0 (mixS (t + 1) s s') := by
  refine rmix (h.cong (fun j _ => ⟨?_, rfl⟩) rfl rfl)
  show mp (if j = t then sP s' t else sP (mixS t s s') j) = mp (sP (mixS t s s') j)
  by_cases c : j = t
  · rw [if_pos c, c, hp, mix_at.1]
  · rw [if_neg c]
section MR2
variable {N nx : Nat} {D : Dt} {P : Ft} {g : Gs}
theorem M_breaksBy_ok (hP : PB P) (h : MR D g) (ho : GOK g) (hn : 117 ≤ nx) (hN : 200 ≤ N) {p B n : Nat} (hp : p < fN (gF g)) (hB : B < 256) (hn8 : n ≤ 8) : OkP (fun z => z.1 = (if bb (gF g) p n B (gS g) = true then (1 : Int32) else 0) ∧ Fr9 D z.2) (f_M_breaksBy N nx D P 97 (nI p) (nI B) (nI n)) := by
  have hf := ho.1
  have hk := hf.2.2.1
  have hP16 : P 97 16 = some 109 := hP.at (by decide) rfl
  unfold f_M_breaksBy
  refine ok_t (kd_at (by omega) rfl) (ok_bind (M_take_ok hP h hn (by omega)) (fun E hE => ?_))
  obtain ⟨A, hA⟩ : ∃ A, A = bb (gF g) p n B (gS g) := ⟨_, rfl⟩
  rw [← hA]
  refine wk3_run (I := fun k F i4 i5 => i5 = nI k ∧ Fr9 D F ∧ ∃ s', RStd (F 109) 0 s' ∧ StOK (gF g) s' ∧ ((i4 = 1 ∧ A = true) ∨ (i4 = 0 ∧ A = bb (gF g) p (n - k) (B / 2 ^ k) s'))) n N _ _ _ (by omega) ⟨rfl, hE.2, gS g, hE.1, ho.2.1, Or.inr ⟨rfl, by rw [hA, Nat.pow_zero, Nat.div_one]; rfl⟩⟩ ?_ ?_
  · rintro k hk8 F i4 i5 ⟨rfl, hfr, s', h1, h2, hI⟩ rec hrec
    unfold f_M_breaksBy_10
    refine ok_f (i2_lt hk8 (by omega)) ?_
    obtain ⟨s2, hs2⟩ : ∃ s2, s2 = if B / 2 ^ k % 2 = 1 then badS s' else s' := ⟨_, rfl⟩
    have q1 : ∀ j, sP s2 j = sP s' j := fun j => by rw [hs2]; split <;> rfl
    have q2 : ∀ j, sZ s2 j = if B.testBit k = true ∧ sP s' j < 5 then (if sZ s' j + 1 < 40 then sZ s' j + 1 else 40) else sZ s' j := fun j => by
      rw [hs2, tb_mod]
      by_cases c : B / 2 ^ k % 2 = 1
      · rw [if_pos c, decide_eq_true c]
        show (if sP s' j < 5 then (if sZ s' j + 1 < 40 then sZ s' j + 1 else 40) else sZ s' j) = _
        by_cases d : sP s' j < 5
        · have e : true = true ∧ sP s' j < 5 := ⟨rfl, d⟩
          rw [if_pos d, if_pos e]
        · rw [if_neg d, if_neg (fun e => d e.2)]
      · rw [if_neg c, if_neg (fun e => c (of_decide_eq_true e.1))]
    have q3 : sW s2 = sW s' := by rw [hs2]; split <;> rfl
    have q4 : sD s2 = sD s' := by rw [hs2]; split <;> rfl
    have hv2 : StOK (gF g) s2 := by
      rw [hs2]; split
      · exact badS_ok h2
      · exact h2
    refine wk2_run (I := fun t F i => i = nI t ∧ Fr9 D F ∧ RStd (F 109) 0 (mixS t s' s2)) (fK (gF g)) N _ _ (by omega) ⟨rfl, hfr, h1.cong (fun t _ => ⟨by show mp (if t < 0 then sP s2 t else sP s' t) = _; rw [if_neg (by omega)], by show (if t < 0 then sZ s2 t else sZ s' t) = _; rw [if_neg (by omega)]⟩) rfl rfl⟩ ?_ ?_
    · rintro t ht F i ⟨rfl, hfr, hF⟩ rec2 hrec2
      have hmF := (hfr.mr h).1.1
      obtain ⟨m1, m2, m3⟩ := many_M hP hn hmF
      have ab10 : ab nx 109 3 (nI (10 + t)) = true := ab_ok (t := 3) (N := 18) (k109 hn) (by omega) (by decide)
      have eZ : F 109 (10 + t) = nI (sZ s' t) := by rw [hF.sz (by omega), mix_at.2]
      have hz := h2.z40 t
      unfold f_M_breaksBy_19
      rw [ix10, nI_1 t]
      refine ok_nn m1 (ok_t m2 ?_)
      rw [m3]
      refine ok_f (i2_lt ht (by omega)) (ok_nn hP16 (ok_t ab10 (ok_call (M_has_eq hB (by omega)) ?_)))
      rw [cl (n := 10 + t) (by omega), eZ]
      have fin : ∀ z, z = sZ s2 t → ∀ w : Int32, w = nI z → OkP (fun z => z.1 = (if A = true then (1 : Int32) else 0) ∧ Fr9 D z.2) (rec2 (upd2 F 109 (10 + t) w) (nI (t + 1))) := by
        rintro z rfl w rfl
        refine hrec2 _ _ ⟨rfl, FrO.tr (q := 109) hfr FrO.up, ?_⟩
        rw [upd2_s]
        exact rmixZ hF.putZ (q1 t)
      have z0 : nI (sZ s' t) + 0 = nI (sZ s' t) := nI_add _ 0
      by_cases c : B.testBit k = true
      · rw [if_pos c]
        refine ok_f (by decide) (ok_call (M_isBorne_eq (k109 hn) hF (by omega)) ?_)
        rw [mix_at.1]
        by_cases d : sP s' t < 5
        · rw [if_pos d]
          refine ok_f (by decide) (ok_t ab10 (ok_ite (fun e => ?_) (fun e => ?_)))
          · have e := (nI_le' (a := 40) (by decide) (by omega)).mp e
            refine ok_t ab10 (ok_pas (fin (sZ s' t) ?_ _ z0))
            rw [q2, if_pos ⟨c, d⟩, if_neg (by omega)]; omega
          · have e : ¬ 40 ≤ sZ s' t := fun w => e ((nI_le' (a := 40) (by decide) (by omega)).mpr w)
            refine ok_t ab10 (ok_pas (fin (sZ s' t + 1) ?_ _ (nI_1 _)))
            rw [q2, if_pos ⟨c, d⟩]; split <;> omega
        · rw [if_neg d]
          refine ok_t rfl (ok_t ab10 (ok_pas (fin (sZ s' t) ?_ _ z0)))
          rw [q2, if_neg (fun w => d w.2)]
      · rw [if_neg c]
        refine ok_t rfl (ok_t ab10 (ok_pas (fin (sZ s' t) ?_ _ z0)))
        rw [q2, if_neg (fun w => c w.1)]
    · rintro F i ⟨rfl, hfr, hF0⟩ rec2
      have hmF := (hfr.mr h).1.1
      obtain ⟨m1, m2, m3⟩ := many_M hP hn hmF
      have hF : RStd (F 109) 0 s2 := by
        refine hF0.cong (fun j hj => ⟨?_, ?_⟩) q3 q4
        · show mp (sP s2 j) = mp (if j < fK (gF g) then sP s2 j else sP s' j)
          split
          · rfl
          · rw [q1]
        · show sZ s2 j = (if j < fK (gF g) then sZ s2 j else sZ s' j)
          by_cases d : j < fK (gF g)
          · rw [if_pos d]
          · have := (h2.2.1 j (by omega)).1
            rw [if_neg d, q2, if_neg (fun e => by have := e.2; omega)]
      unfold f_M_breaksBy_19
      refine ok_nn m1 (ok_t m2 ?_)
      rw [m3]
      refine ok_t (i2_ge (Nat.le_refl _) (by omega)) (ok_nn hP16 (ok_bind (M_passOn_ok hP hn hmF hf hv2 (k109 hn) (by decide) hF (by omega)) (fun F3 hF3 => ?_)))
      rw [nI_1]
      have hfr3 : Fr9 D F3 := FrO.tr (q := 109) hfr hF3.2
      have hv3 := day_ok hf hv2
      rcases hI with ⟨rfl, hI⟩ | ⟨rfl, hI⟩
      · exact ok_f (by decide) (hrec _ _ _ ⟨rfl, hfr3, _, hF3.1, hv3, Or.inl ⟨rfl, hI⟩⟩)
      · rw [show n - k = (n - (k + 1)) + 1 by omega, bb_s, ← hs2, div_step] at hI
        refine ok_t rfl (ok_call (M_doesBreak_eq hP hn (hfr3.mr h).1.1 hf hv3 (k109 hn) hF3.1 (by omega) hp) ?_)
        by_cases d : brk (gF g) (day (gF g) s2) p = true
        · rw [if_pos d]
          rw [d, Bool.true_or] at hI
          exact ok_f (by decide) (hrec _ _ _ ⟨rfl, hfr3, _, hF3.1, hv3, Or.inl ⟨rfl, hI⟩⟩)
        · rw [if_neg d]
          rw [Bool.eq_false_iff.mpr d, Bool.false_or] at hI
          exact ok_t rfl (hrec _ _ _ ⟨rfl, hfr3, _, hF3.1, hv3, Or.inr ⟨rfl, hI⟩⟩)
  · rintro F i4 i5 ⟨rfl, hfr, s', h1, h2, hI⟩ rec
    unfold f_M_breaksBy_10
    refine ok_t (i2_ge (Nat.le_refl _) (by omega)) ?_
    rcases hI with ⟨rfl, hI⟩ | ⟨rfl, hI⟩
    · refine ok_t (Or.inr rfl) (ok_some ⟨?_, hfr⟩)
      rw [hI]; rfl
    · rw [Nat.sub_self] at hI
      have hI : A = false := hI
      refine ok_t (Or.inl rfl) (ok_some ⟨?_, hfr⟩)
      rw [hI]; rfl
theorem gcdM_ok {Q : Int32 × Dt → Prop} {i4 i5 i6 : Int32} {a b : Nat} (ha : a ≤ 100000000) (hb : b ≤ 100000000) (hb1 : 1 ≤ b) (hN : 100 ≤ N) (hq : OkP Q (if i4 = 0 then some (i5 / nI (Nat.gcd a b), D) else some (i6 / nI (Nat.gcd a b), D))) : OkP Q (wk2 N (f_M_bad_161 N nx D P i4 i5 i6) (nI a) (nI b)) := by
  have hg1 : 1 ≤ Nat.gcd a b := Nat.gcd_pos_of_pos_right a hb1
  have hg2 : Nat.gcd a b ≤ b := Nat.gcd_le_right a hb1
  refine wk2_run (I := fun t i7 i8 => ∃ x y, i7 = nI x ∧ i8 = nI y ∧ x ≤ 100000000 ∧ y ≤ 100000000 ∧ Nat.gcd x y = Nat.gcd a b ∧ (t = 0 ∨ (y ≤ x ∧ x * y < 2 ^ (62 - t)))) 62 N _ _ (by omega) ⟨a, b, rfl, rfl, ha, hb, rfl, Or.inl rfl⟩ ?_ ?_
  · rintro t ht i7 i8 ⟨x, y, rfl, rfl, hx, hy, hg, hI⟩ rec hrec
    unfold f_M_bad_161
    have hy0 : nI y = 0 ↔ y = 0 := nI_inj (b := 0) (by omega) (by decide)
    refine ok_ite (fun c => ?_) (fun c => ?_)
    · have c := hy0.mp c
      rw [c, Nat.gcd_zero_right] at hg
      have hne : ¬ nI x = 0 := by rw [lit 0, nI_inj (by omega) (by decide)]; omega
      rw [← hg] at hq
      by_cases e : i4 = 0
      · rw [if_pos e] at hq ⊢
        exact ok_f hne hq
      · rw [if_neg e] at hq ⊢
        exact ok_f hne hq
    · have c' : ¬ y = 0 := fun d => c (hy0.mpr d)
      refine ok_f c ?_
      rw [pk_rem (by omega) (by omega) (by omega)]
      have hr : x % y < y := Nat.mod_lt _ (by omega)
      refine hrec _ _ ⟨y, x % y, rfl, rfl, hy, by omega, ?_, Or.inr ⟨by omega, ?_⟩⟩
      · rw [Nat.gcd_comm y (x % y), ← Nat.gcd_rec y x, Nat.gcd_comm y x]; exact hg
      · rcases hI with h0 | ⟨h1, h2⟩
        · subst h0
          have h3 : y * (x % y) ≤ 100000000 * 100000000 := Nat.mul_le_mul hy (by omega)
          exact Nat.lt_of_le_of_lt h3 (by decide)
        · have hd := Nat.div_add_mod x y
          have hq : 1 ≤ x / y := Nat.div_pos h1 (by omega)
          have hyq : y ≤ y * (x / y) := Nat.le_mul_of_pos_right y hq
          have h2r : 2 * (x % y) ≤ x := by omega
          have h4 : y * (2 * (x % y)) ≤ y * x := Nat.mul_le_mul_left y h2r
          have e1 : y * (2 * (x % y)) = 2 * (y * (x % y)) := by rw [← Nat.mul_assoc, Nat.mul_comm y 2, Nat.mul_assoc]
          have e2 : 2 ^ (62 - t) = 2 * 2 ^ (62 - (t + 1)) := by
            rw [show 62 - t = (62 - (t + 1)) + 1 by omega, Nat.pow_succ, Nat.mul_comm]
          rw [e1] at h4
          rw [e2, Nat.mul_comm x y] at h2
          omega
  · rintro i7 i8 ⟨x, y, rfl, rfl, hx, hy, hg, hI⟩ rec
    have hy00 : y = 0 := by
      rcases hI with h0 | ⟨h1, h2⟩
      · cases h0
      · rcases Nat.eq_zero_or_pos y with c | c
        · exact c
        · have : 1 ≤ x * y := Nat.mul_pos (by omega) c
          have h2 : x * y < 1 := h2
          omega
    unfold f_M_bad_161
    rw [hy00, Nat.gcd_zero_right] at hg
    have hne : ¬ nI x = 0 := by rw [lit 0, nI_inj (by omega) (by decide)]; omega
    rw [← hg] at hq
    refine ok_t (by rw [hy00]; rfl) ?_
    by_cases e : i4 = 0
    · rw [if_pos e] at hq ⊢
      exact ok_f hne hq
    · rw [if_neg e] at hq ⊢
      exact ok_f hne hq
theorem M_bad_ok (hP : PB P) (h : MR D g) (ho : GOK g) (hn : 117 ≤ nx) (hN : 500 ≤ N) (x1 x2 x3 x4 : Int32) : OkP (fun z => z.1 = oBad g x1 x2 x3 x4 ∧ MR z.2 g ∧ Lo D z.2) (f_M_bad N nx D P 97 x1 x2 x3 x4) := by
  have hf := ho.1
  have hn5 := hf.2.1
  unfold f_M_bad oBad
  refine ok_t (kd_at (by omega) rfl) (ok_call (M_isPerson_eq hP hn h.1 hf x1) ?_)
  by_cases q1 : isP (gF g) x1 = true
  · obtain ⟨p, rfl, hp⟩ := isP_up hf q1
    rw [if_pos q1]
    refine ok_f (by decide) (ok_call M_in_eq ?_)
    show OkP _ (if (if nI 0 ≤ x2 ∧ x2 ≤ nI 8 then (1 : Int32) else 0) = 0 then _ else _)
    by_cases q2 : nI 0 ≤ x2 ∧ x2 ≤ nI 8
    · rw [if_pos q2]
      refine ok_f (by decide) (ok_call M_in_eq ?_)
      show OkP _ (if (if nI 0 ≤ x3 ∧ x3 ≤ nI 10 then (1 : Int32) else 0) = 0 then _ else _)
      by_cases q3 : nI 0 ≤ x3 ∧ x3 ≤ nI 10
      · rw [if_pos q3]
        refine ok_f (by decide) (ok_call M_in_eq ?_)
        show OkP _ (if (if nI 0 ≤ x4 ∧ x4 ≤ nI 1 then (1 : Int32) else 0) = 0 then _ else _)
        by_cases q4 : nI 0 ≤ x4 ∧ x4 ≤ nI 1
        · obtain ⟨n, rfl, hn1, hn2⟩ := up q2.1 q2.2 (by decide) (by decide)
          obtain ⟨x, rfl, hx1, hx⟩ := up q3.1 q3.2 (by decide) (by decide)
          obtain ⟨w, rfl, hw1, hw2⟩ := up q4.1 q4.2 (by decide) (by decide)
          rw [if_pos q4, if_pos ⟨q1, q2, q3, q4⟩, cl (n := p) (by omega), cl (n := n) (by omega), cl (n := x) (by omega)]
          refine ok_f (by decide) ?_
          have h10n : 10 ^ n ≤ 100000000 := Nat.le_trans (Nat.pow_le_pow_right (by decide) hn2) (by decide)
          have h10p : 1 ≤ 10 ^ n := by
            have := Nat.pow_le_pow_left (show 1 ≤ 10 by decide) n
            rwa [Nat.one_pow] at this
          have h2n : 2 ^ n ≤ 256 := Nat.le_trans (Nat.pow_le_pow_right (by decide) hn2) (by decide)
          have hbw := bw_le (f := gF g) (p := p) hx n (gS g)
          have hsum := bw_sum (f := gF g) (p := p) hx n (gS g)
          have part : ∀ T, T ≤ 2 ^ n → sg (fun B => if bb (gF g) p n B (gS g) = true then wt x n B else 0) T ≤ 10 ^ n := by
            intro T hT
            have mono : ∀ m, sg (fun B => if bb (gF g) p n B (gS g) = true then wt x n B else 0) T ≤ sg (fun B => if bb (gF g) p n B (gS g) = true then wt x n B else 0) (T + m) := by
              intro m
              induction m with
              | zero => exact Nat.le_refl _
              | succ m ih => exact Nat.le_trans ih (Nat.le_add_right _ _)
            have := mono (2 ^ n - T)
            rw [show T + (2 ^ n - T) = 2 ^ n by omega, hsum] at this
            omega
          obtain ⟨U, hU⟩ : ∃ U, U = bw (gF g) p x n (gS g) := ⟨_, rfl⟩
          rw [← hU] at hsum hbw
          rw [← hU]
          have last : ∀ E, Fr9 D E → OkP (fun z => z.1 = (if nI w = 0 then nI (U / Nat.gcd U (10 ^ n)) else nI (10 ^ n / Nat.gcd U (10 ^ n))) ∧ MR z.2 g ∧ Lo D z.2) (wk2 N (f_M_bad_134 N nx E P (nI n) (nI w) (nI U)) 1 0) := by
            intro E hE
            refine wk2_run (I := fun t i6 i7 => i7 = nI t ∧ i6 = nI (10 ^ t)) n N _ _ (by omega) ⟨rfl, rfl⟩ ?_ ?_
            · rintro t ht i6 i7 ⟨rfl, rfl⟩ rec hrec
              unfold f_M_bad_134
              rw [nI_1, lit 10, pk_mul, ← Nat.pow_succ]
              exact ok_f (i2_lt ht (by omega)) (hrec _ _ ⟨rfl, rfl⟩)
            · rintro i6 i7 ⟨rfl, rfl⟩ rec
              unfold f_M_bad_134
              have hg1 : 1 ≤ Nat.gcd U (10 ^ n) := Nat.gcd_pos_of_pos_right U h10p
              have hg2 : Nat.gcd U (10 ^ n) ≤ 10 ^ n := Nat.gcd_le_right U h10p
              refine ok_t (i2_ge (Nat.le_refl _) (by omega)) (gcdM_ok (by omega) h10n h10p (by omega) (ok_ite (fun c => ok_some ⟨?_, hE.mr h⟩) (fun c => ok_some ⟨?_, hE.mr h⟩)))
              · show nI U / nI (Nat.gcd U (10 ^ n)) = _
                rw [if_pos c, pk_div (by omega) (by omega) (by omega)]
              · show nI (10 ^ n) / nI (Nat.gcd U (10 ^ n)) = _
                rw [if_neg c, pk_div (by omega) (by omega) (by omega)]
          refine wk3_run (I := fun t E i5 i7 => i7 = nI t ∧ Fr9 D E ∧ i5 = nI (sg (fun B => if bb (gF g) p n B (gS g) = true then wt x n B else 0) t)) (2 ^ n) N _ _ _ (by omega) ⟨rfl, fun _ _ => rfl, rfl⟩ ?_ ?_
          · rintro B hB E i5 i7 ⟨rfl, hfr, rfl⟩ rec hrec
            have hE := (hfr.mr h).1
            unfold f_M_bad_49
            rw [sh9 n (by omega)]
            refine ok_f (i2_lt hB (by omega)) ?_
            refine wk2_run (I := fun k i8 i9 => i9 = nI k ∧ ∃ v, i8 = nI v ∧ v ≤ 10 ^ k ∧ v * wt x (n - k) (B / 2 ^ k) = wt x n B) n N _ _ (by omega) ⟨rfl, 1, rfl, Nat.le_refl _, by rw [Nat.one_mul, Nat.pow_zero, Nat.div_one]; rfl⟩ ?_ ?_
            · rintro k hk i8 i9 ⟨rfl, v, rfl, hv1, hv2⟩ rec2 hrec2
              unfold f_M_bad_63
              have e10 : (10 : Int32) - nI x = nI (10 - x) := pk_sub (a := 10) (by omega)
              rw [nI_1 k, e10, pk_mul, pk_mul]
              refine ok_f (i2_lt hk (by omega)) (ok_call (M_has_eq (by omega) (by omega)) ?_)
              rw [show n - k = (n - (k + 1)) + 1 by omega, wt_s, div_step, ← Nat.mul_assoc] at hv2
              rw [tb_mod]
              by_cases c : B / 2 ^ k % 2 = 1
              · rw [if_pos (decide_eq_true c)]
                rw [if_pos c] at hv2
                refine ok_f (by decide) (hrec2 _ _ ⟨rfl, v * x, rfl, ?_, hv2⟩)
                rw [Nat.pow_succ]; exact Nat.mul_le_mul hv1 hx
              · rw [if_neg (fun e => c (of_decide_eq_true e))]
                rw [if_neg c] at hv2
                refine ok_t rfl (hrec2 _ _ ⟨rfl, v * (10 - x), rfl, ?_, hv2⟩)
                rw [Nat.pow_succ]; exact Nat.mul_le_mul hv1 (by omega)
            · rintro i8 i9 ⟨rfl, v, rfl, hv1, hv2⟩ rec2
              rw [Nat.sub_self, show wt x 0 (B / 2 ^ n) = 1 from rfl, Nat.mul_one] at hv2
              subst hv2
              have pT := part (B + 1) (by omega)
              have pT0 := part B (by omega)
              unfold f_M_bad_63
              rw [nI_1 B]
              refine ok_t (i2_ge (Nat.le_refl _) (by omega)) ?_
              have fin : ∀ F, Fr9 D F → ∀ i : Int32, i = nI (sg (fun B => if bb (gF g) p n B (gS g) = true then wt x n B else 0) (B + 1)) → OkP (fun z => z.1 = (if nI w = 0 then nI (U / Nat.gcd U (10 ^ n)) else nI (10 ^ n / Nat.gcd U (10 ^ n))) ∧ MR z.2 g ∧ Lo D z.2) (rec F i (nI (B + 1))) := fun F hF i hi => hrec _ _ _ ⟨rfl, hF, hi⟩
              have eS : sg (fun B => if bb (gF g) p n B (gS g) = true then wt x n B else 0) (B + 1) = sg (fun B => if bb (gF g) p n B (gS g) = true then wt x n B else 0) B + (if bb (gF g) p n B (gS g) = true then wt x n B else 0) := rfl
              refine ok_ite (fun c => ?_) (fun c => ok_bind (M_breaksBy_ok hP hE ho hn (by omega) hp (by omega) hn2) ?_)
              · rw [lit 0, nI_le' (by omega) (by decide)] at c
                refine fin E hfr _ ?_
                rw [eS, show (if bb (gF g) p n B (gS g) = true then wt x n B else 0) = 0 by split <;> omega]
                exact nI_add _ 0
              · rintro ⟨z, F⟩ ⟨hz1, hz2⟩
                have hz1 : z = if bb (gF g) p n B (gS g) = true then (1 : Int32) else 0 := hz1
                have hF : Fr9 D F := FrO.tr (q := 109) hfr hz2
                by_cases d : bb (gF g) p n B (gS g) = true
                · rw [if_pos d] at hz1
                  refine ok_f (by show ¬ z = 0; rw [hz1]; decide) (fin F hF _ ?_)
                  rw [eS, if_pos d, nI_add]
                · rw [if_neg d] at hz1
                  refine ok_t hz1 (fin F hF _ ?_)
                  rw [eS, if_neg d]
                  exact nI_add _ 0
          · rintro E i5 i7 ⟨rfl, hfr, rfl⟩ rec
            unfold f_M_bad_49
            rw [sh9 n (by omega), hsum]
            exact ok_t (i2_ge (Nat.le_refl _) (by omega)) (last E hfr)
        · rw [if_neg q4, if_neg (fun c => q4 c.2.2.2)]
          exact ok_t rfl (ok_some ⟨rfl, h, Lo.rf⟩)
      · rw [if_neg q3, if_neg (fun c => q3 c.2.2.1)]
        exact ok_t rfl (ok_some ⟨rfl, h, Lo.rf⟩)
    · rw [if_neg q2, if_neg (fun c => q2 c.2.1)]
      exact ok_t rfl (ok_some ⟨rfl, h, Lo.rf⟩)
  · rw [if_neg q1, if_neg (fun c => q1 c.1)]
    exact ok_t rfl (ok_some ⟨rfl, h, Lo.rf⟩)
end MR2
