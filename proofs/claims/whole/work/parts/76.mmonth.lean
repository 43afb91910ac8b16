/-! the reference: a month by draws -/
theorem rd_same {r : Nat → Int32} {s : St} (h : RStd r 0 s) (k : Nat) : RStd (upd r k (r k)) 0 s := by
  intro j hj
  by_cases c : 0 + j = k
  · rw [c, upd_s, ← c]; exact h j hj
  · rw [upd_n c]; exact h j hj
section MQ
variable {N nx : Nat} {D : Dt} {P : Ft} {g : Gs}
theorem M_turn_ok {f : Fam} {s : St} (hP : PB P) (hn : 117 ≤ nx) (hm : MF D f) (hf : FamOK f) (hv : StOK f s) (hs : RStd (D 109) 0 s) (hk1 : 1 ≤ fK f) {d : Nat} (hd : d < 65521) : OkP (fun E => RStd (E 109) 0 (tn f d s) ∧ FrO 109 D E) (f_M_turn N nx D P 97 (nI d)) := by
  have hk := hf.2.2.1
  have hn1 := hf.1
  have hn5 := hf.2.1
  obtain ⟨m1, m2, m3⟩ := many_M hP hn hm
  have p1 : P 97 2 = some 99 := hP.at (by decide) rfl
  have p2 : ab nx 99 3 0 = true := ab_ok (t := 3) (N := 2) (kd_at (by omega) rfl) (n := 0) (by decide) (by decide)
  have p3 : D 99 (0 : Int32).toNatClampNeg = nI (fN f) := hm.1
  have ht : d / 8 % fK f < fK f := Nat.mod_lt _ (by omega)
  have hp : d / 64 % fN f < fN f := Nat.mod_lt _ (by omega)
  have hr : d % 8 < 8 := Nat.mod_lt _ (by decide)
  have e1 : nI d / 8 = nI (d / 8) := pk_div (d := 8) (by omega) (by decide) (by decide)
  have e2 : nI d / 64 = nI (d / 64) := pk_div (d := 64) (by omega) (by decide) (by decide)
  have e8 : nI d - nI d / 8 * 8 = nI (d % 8) := pk_rem (d := 8) (by omega) (by decide) (by decide)
  unfold f_M_turn tn
  rw [e8, e1, e2, if_neg (by omega)]
  refine ok_t (kd_at (by omega) rfl) (ok_nn m1 (ok_t m2 ?_))
  rw [m3]
  refine ok_f (by rw [lit 0, nI_inj (by omega) (by decide)]; omega) (ok_pas' (fun v5 hv5 => ?_))
  rw [pk_rem (by omega) (by omega) (by omega)] at hv5
  subst hv5
  refine ok_nn p1 (ok_t p2 ?_)
  rw [p3]
  refine ok_f (by rw [lit 0, nI_inj (by omega) (by decide)]; omega) (ok_pas' (fun v10 hv10 => ?_))
  rw [pk_rem (by omega) (by omega) (by omega)] at hv10
  subst hv10
  refine ok_nn (hP.at (by decide) (show P0 97 16 = some 109 from rfl)) ?_
  generalize d / 8 % fK f = t at ht
  generalize d / 64 % fN f = p at hp
  generalize d % 8 = r at hr
  have ab2 : ab nx 109 3 (nI (2 + t)) = true := ab_ok (t := 3) (N := 18) (k109 hn) (by omega) (by decide)
  have hmp := mp_eq hf hv ht
  rw [ix2]
  refine ok_t ab2 ?_
  rw [cl (n := 2 + t) (by omega)]
  have same : RStd (upd2 D 109 (2 + t) (D 109 (2 + t)) 109) 0 s := by rw [upd2_s]; exact rd_same hs _
  have pin : RStd (upd2 D 109 (2 + t) 5 109) 0 (setP s t 5) := by rw [upd2_s]; exact hs.putP (p := 5) (by omega)
  have pip : RStd (upd2 D 109 (2 + t) (nI p) 109) 0 (setP s t p) := by
    have := hs.putP (t := t) (p := p) (by omega)
    rw [mp5 (by omega)] at this
    rw [upd2_s]; exact this
  have blk : OkP (fun E => RStd (E 109) 0 (if sP s t < 5 ∧ sW s ≠ fD f then setP s t 5 else s) ∧ FrO 109 D E) ((f_M_isBorne N nx D P 109 (nI t)).bind fun z14 =>
    if z14 = 0 then
      if ab nx 109 3 (nI (2 + t)) = true then
      pas (upd2 D 109 (2 + t) (D 109 (2 + t))) fun D15 =>
      some D15
      else none
    else
      (f_M_isAtDoor N nx D P 97 109).bind fun z16 =>
      if z16 = 0 then
        if ab nx 109 3 (nI (2 + t)) = true then
        pas (upd2 D 109 (2 + t) 5) fun D18 =>
        some D18
        else none
      else
        if ab nx 109 3 (nI (2 + t)) = true then
        pas (upd2 D 109 (2 + t) (D 109 (2 + t))) fun D17 =>
        some D17
        else none) := by
    refine ok_call (M_isBorne_eq (k109 hn) hs (by omega)) ?_
    by_cases c : sP s t < 5
    · rw [if_pos c]
      refine ok_f (by decide) (ok_call (M_isAtDoor_eq hP hn hm hf hv (k109 hn) hs) ?_)
      by_cases w : sW s = fD f
      · rw [if_pos w, if_neg (fun e => e.2 w)]
        exact ok_f (by decide) (ok_t ab2 (ok_pas (ok_some ⟨same, FrO.up⟩)))
      · rw [if_neg w, if_pos ⟨c, w⟩]
        exact ok_t rfl (ok_t ab2 (ok_pas (ok_some ⟨pin, FrO.up⟩)))
    · rw [if_neg c, if_neg (fun e => c e.1)]
      exact ok_t rfl (ok_t ab2 (ok_pas (ok_some ⟨same, FrO.up⟩)))
  rcases (show r = 0 ∨ r = 1 ∨ r = 2 ∨ r = 3 ∨ r = 4 ∨ 5 ≤ r by omega) with rfl | rfl | rfl | rfl | rfl | h5
  · rw [if_pos (by omega)]
    exact ok_t rfl blk
  · rw [if_pos (by omega)]
    exact ok_f (by decide) (ok_t rfl blk)
  · rw [if_pos (by omega)]
    exact ok_f (by decide) (ok_f (by decide) (ok_t rfl blk))
  · rw [if_neg (by omega), if_pos (by omega)]
    refine ok_f (by decide) (ok_f (by decide) (ok_f (by decide) (ok_t rfl ?_)))
    rw [hs.pl (t := t) (by omega), hmp.1]
    by_cases c : sP s t = 5
    · rw [if_pos c]
      exact ok_t (by rw [c]; rfl) (ok_t ab2 (ok_pas (ok_some ⟨pip, FrO.up⟩)))
    · rw [if_neg c]
      refine ok_f (by rw [lit 5, nI_inj (by omega) (by decide)]; exact c) (ok_t ab2 (ok_pas (ok_some ⟨?_, FrO.up⟩)))
      rw [← hmp.1, ← hs.pl (t := t) (by omega)]; exact same
  · rw [if_neg (by omega), if_neg (by omega), if_pos (by omega)]
    refine ok_f (by decide) (ok_f (by decide) (ok_f (by decide) (ok_f (by decide) (ok_t rfl (ok_call (M_isBorne_eq (k109 hn) hs (by omega)) ?_)))))
    by_cases c : sP s t < 5
    · rw [if_pos c]
      refine ok_f (by decide) (ok_t ab2 (ok_pas (ok_some ⟨?_, FrO.up⟩)))
      by_cases w : sP s t = p
      · rw [if_neg (fun e => e.2 w)]
        refine pip.cong (fun j _ => ⟨?_, rfl⟩) rfl rfl
        show mp (sP s j) = mp (if j = t then p else sP s j)
        by_cases k : j = t
        · rw [if_pos k, k, w]
        · rw [if_neg k]
      · rw [if_pos ⟨c, w⟩]; exact pip
    · rw [if_neg c, if_neg (fun e => c e.1)]
      exact ok_t rfl (ok_t ab2 (ok_pas (ok_some ⟨same, FrO.up⟩)))
  · rw [if_neg (by omega), if_neg (by omega), if_neg (by omega)]
    refine ok_f ?_ (ok_f ?_ (ok_f ?_ (ok_f ?_ (ok_f ?_ (ok_some ⟨hs, fun _ _ => rfl⟩)))))
    · rw [lit 0, nI_inj (by omega) (by decide)]; omega
    · rw [lit 1, nI_inj (by omega) (by decide)]; omega
    · rw [lit 2, nI_inj (by omega) (by decide)]; omega
    · rw [lit 3, nI_inj (by omega) (by decide)]; omega
    · rw [lit 4, nI_inj (by omega) (by decide)]; omega
theorem monN_s {f : Fam} {z n i : Nat} {s : St} : monN f z (n + 1) i s = monN f z n (i + 1) (day f (tn f (drw z i) s)) := rfl
theorem M_month_ok (hP : PB P) (h : MR D g) (ho : GOK g) (hn : 117 ≤ nx) (hN : 200 ≤ N) (x y v : Int32) : OkP (fun z => z.1 = oMonth g x y v ∧ MR z.2 g ∧ Lo D z.2) (f_M_month N nx D P 97 x y v) := by
  have hf := ho.1
  have hk8 := hf.2.2.1
  have hP16 : P 97 16 = some 109 := hP.at (by decide) rfl
  unfold f_M_month oMonth
  refine ok_t (kd_at (by omega) rfl) (ok_call M_in_eq ?_)
  show OkP _ (if (if nI 0 ≤ x ∧ x ≤ nI 9999 then (1 : Int32) else 0) = 0 then _ else _)
  by_cases q : nI 0 ≤ x ∧ x ≤ nI 9999
  · rw [if_pos q]
    refine ok_f (by decide) (ok_call M_in_eq ?_)
    show OkP _ (if (if nI 1 ≤ y ∧ y ≤ nI 60 then (1 : Int32) else 0) = 0 then _ else _)
    by_cases r : nI 1 ≤ y ∧ y ≤ nI 60
    · rw [if_pos r]
      refine ok_f (by decide) (ok_call M_in_eq ?_)
      show OkP _ (if (if nI 0 ≤ v ∧ v ≤ nI 1 then (1 : Int32) else 0) = 0 then _ else _)
      by_cases u : nI 0 ≤ v ∧ v ≤ nI 1
      · obtain ⟨z, rfl, hz1, hz2⟩ := up2 q.1 q.2 (by decide) (by decide)
        obtain ⟨n, rfl, hn1, hn2⟩ := up r.1 r.2 (by decide) (by decide)
        obtain ⟨w, rfl, hw1, hw2⟩ := up u.1 u.2 (by decide) (by decide)
        rw [if_pos u, if_pos ⟨q, r, u⟩, cl (n := z) (by omega), cl (n := n) (by omega)]
        refine ok_f (by decide) (ok_bind (M_take_ok hP h hn (by omega)) (fun E hE => ?_))
        obtain ⟨A, hA⟩ : ∃ A, A = monN (gF g) z n 0 (gS g) := ⟨_, rfl⟩
        rw [← hA]
        refine wk2_run (I := fun t F i => i = nI t ∧ Fr9 D F ∧ ∃ s', RStd (F 109) 0 s' ∧ StOK (gF g) s' ∧ A = monN (gF g) z (n - t) t s') n N _ _ (by omega) ⟨rfl, hE.2, gS g, hE.1, ho.2.1, hA⟩ ?_ ?_
        · rintro t ht F i ⟨rfl, hfr, s', h1, h2, h3⟩ rec hrec
          have hmF := (hfr.mr h).1.1
          obtain ⟨m1, m2, m3⟩ := many_M hP hn hmF
          rw [show n - t = (n - (t + 1)) + 1 by omega, monN_s] at h3
          have fin : ∀ F2, RStd (F2 109) 0 (tn (gF g) (drw z t) s') → Fr9 D F2 → OkP (fun z => z.1 = (if nI w = 0 then nI (borneS A 8) else nI (sW A)) ∧ MR z.2 g ∧ Lo D z.2) (f_M_month_86 N nx rec F2 P 97 (nI z) (nI n) (nI w) (nI t)) := by
            intro F2 g1 g2
            have hv2 := tn_ok hf h2 (drw z t)
            unfold f_M_month_86
            rw [nI_1]
            refine ok_nn hP16 (ok_bind (M_passOn_ok hP hn (g2.mr h).1.1 hf hv2 (k109 hn) (by decide) g1 (by omega)) (fun F3 hF3 => hrec _ _ ⟨rfl, FrO.tr (q := 109) g2 hF3.2, _, hF3.1, day_ok hf hv2, h3⟩))
          unfold f_M_month_39
          refine ok_f (i2_lt ht (by omega)) (ok_pas ?_)
          rw [draw_val hz2 (by omega)]
          refine ok_nn m1 (ok_t m2 ?_)
          rw [m3]
          refine ok_ite (fun c => fin F ?_ hfr) (fun c => ?_)
          · rw [lit 0, nI_le' (by omega) (by decide)] at c
            rw [show tn (gF g) (drw z t) s' = s' from if_pos (by omega)]; exact h1
          · rw [lit 0, nI_le' (by omega) (by decide)] at c
            exact ok_bind (M_turn_ok hP hn hmF hf h2 h1 (by omega) (drw_lt z t)) (fun F2 hF2 => fin F2 hF2.1 (FrO.tr (q := 109) hfr hF2.2))
        · rintro F i ⟨rfl, hfr, s', h1, h2, h3⟩ rec
          have hmF := (hfr.mr h).1.1
          rw [Nat.sub_self] at h3
          have h3 : A = s' := h3
          subst h3
          unfold f_M_month_39
          refine ok_t (i2_ge (Nat.le_refl _) (by omega)) (ok_ite (fun c => ?_) (fun c => ?_))
          · rw [if_pos c]
            refine ok_nn hP16 (ok_call (M_borne_eq hP hn hmF hf h2 (k109 hn) h1 (by omega)) (ok_call (M_sizeOf_eq hP hn hmF hf h2 (k109 hn) h1 (by omega) (bt_lt _ 8)) (ok_some ⟨?_, hfr.mr h⟩)))
            rw [sz_br]
          · rw [if_neg c]
            exact ok_nn hP16 (ok_t (ab_ok (t := 3) (N := 18) (k109 hn) (n := 1) (by decide) (by decide)) (ok_some ⟨h1.wal, hfr.mr h⟩))
      · rw [if_neg u, if_neg (fun c => u c.2.2)]
        exact ok_t rfl (ok_some ⟨rfl, h, Lo.rf⟩)
    · rw [if_neg r, if_neg (fun c => r c.2.1)]
      exact ok_t rfl (ok_some ⟨rfl, h, Lo.rf⟩)
  · rw [if_neg q, if_neg (fun c => q c.1)]
    exact ok_t rfl (ok_some ⟨rfl, h, Lo.rf⟩)
end MQ
