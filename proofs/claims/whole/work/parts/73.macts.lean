/-! the reference: acts, ways back, what is kept -/
section MM
variable {N nx : Nat} {D : Dt} {P : Ft} {g : Gs}
theorem MR.gen {E : Dt} {s' : St} {p k : Nat × (Nat → St)} (h : MR D g) (hE : ∀ q, 98 ≤ q → (q ≤ 104 ∨ (112 ≤ q ∧ q ≤ 115)) → E q = D q) (h9 : ∀ j, j = 1 ∨ j = 22 ∨ j = 24 → E 97 j = D 97 j) (hs : RStd (E 106) 0 s') (hp : E 97 13 = nI p.1 ∧ ∀ i, i < p.1 → RStd (E 107) (18 * i) (p.2 i)) (hk : E 97 15 = nI k.1 ∧ ∀ i, i < k.1 → RStd (E 108) (18 * i) (k.2 i)) : MR E (puK (puP (puS g s') p) k) := by
  obtain ⟨hf, -, t, -, -, n, m⟩ := h
  refine ⟨hf.nn (fun q a b => hE q (by omega) (by omega)), hs, ⟨(h9 1 (by decide)).trans t.1, ?_⟩, hp, hk, ⟨(h9 22 (by decide)).trans n.1, ?_⟩, (h9 24 (by decide)).trans m.1, ?_⟩
  · rw [hE 98 (by decide) (by decide)]; exact t.2
  · rw [hE 112 (by decide) (by decide), hE 113 (by decide) (by decide), hE 114 (by decide) (by decide)]; exact n.2
  · rw [hE 115 (by decide) (by decide)]; exact m.2
theorem MR.now {E : Dt} {s' : St} (h : MR D g) (hf : FrO 106 D E) (hs : RStd (E 106) 0 s') : MR E (puS g s') :=
  h.gen (s' := s') (p := gP g) (k := gK g) (fun q a b => hf q (by omega)) (fun j _ => by rw [hf 97 (by decide)]) hs ⟨by rw [hf 97 (by decide)]; exact h.2.2.2.1.1, by rw [hf 107 (by decide)]; exact h.2.2.2.1.2⟩ ⟨by rw [hf 97 (by decide)]; exact h.2.2.2.2.1.1, by rw [hf 108 (by decide)]; exact h.2.2.2.2.1.2⟩
theorem ix18 (m t : Nat) : (18 : Int32) * nI m + nI t = nI (18 * m + t) := by
  rw [lit 18, pk_mul, nI_add]
theorem know50_ok (hP : PB P) (hn : 117 ≤ nx) (hN : 100 ≤ N) {m : Nat} (hm : m < 8) (h13 : D 97 13 = nI m) : OkP (fun E => E 97 13 = nI (m + 1) ∧ (∀ q, q ≠ 97 → q ≠ 107 → E q = D q) ∧ (∀ j, j ≠ 13 → E 97 j = D 97 j) ∧ (∀ j, j < 18 → E 107 (18 * m + j) = D 106 j) ∧ (∀ j, j < 18 * m → E 107 j = D 107 j)) (wk2 N (f_M_know_50 N nx P 97) D 0) := by
  refine wk2_run (I := fun t E i => i = nI t ∧ FrO 107 D E ∧ (∀ j, j < t → E 107 (18 * m + j) = D 106 j) ∧ (∀ j, j < 18 * m → E 107 j = D 107 j)) 18 N _ _ (by omega) ⟨rfl, fun _ _ => rfl, fun j hj => absurd hj (Nat.not_lt_zero j), fun _ _ => rfl⟩ ?_ ?_
  · rintro t ht E i ⟨rfl, hfr, h1, h2⟩ rec hrec
    have e13 : E 97 13 = nI m := by rw [hfr 97 (by decide)]; exact h13
    unfold f_M_know_50
    rw [e13, ix18]
    refine ok_f (by rw [lit 18, nI_le' (by decide) (by omega)]; omega) (ok_nn (hP.at (by decide) (show P0 97 12 = some 107 from rfl)) (ok_nn (hP.at (by decide) (show P0 97 11 = some 106 from rfl)) (ok_t (ab_ok (t := 3) (N := 18) (kd_at (by omega) rfl) (by omega) (by decide)) (ok_t (ab_ok (t := 3) (N := 144) (kd_at (by omega) rfl) (by omega) (by decide)) (ok_pas ?_)))))
    rw [cl (n := 18 * m + t) (by omega), cl (n := t) (by omega), nI_1, hfr 106 (by decide)]
    refine hrec _ _ ⟨rfl, hfr.tr FrO.up, fun j hj => ?_, fun j hj => ?_⟩
    · rw [upd2_s]
      by_cases c : j = t
      · rw [c, upd_s]
      · rw [upd_n (by omega)]; exact h1 j (by omega)
    · rw [upd2_s, upd_n (by omega)]; exact h2 j hj
  · rintro E i ⟨rfl, hfr, h1, h2⟩ rec
    have e13 : E 97 13 = nI m := by rw [hfr 97 (by decide)]; exact h13
    unfold f_M_know_50
    rw [e13, nI_1 m]
    refine ok_t (by decide) (ok_pas (ok_some ⟨?_, fun q a b => ?_, fun j hj => ?_, fun j hj => ?_, fun j hj => ?_⟩))
    · rw [upd2_s, upd_s]
    · rw [upd2_n a]; exact hfr q b
    · rw [upd2_s, upd_n hj, hfr 97 (by decide)]
    · rw [upd2_n (by decide)]; exact h1 j hj
    · rw [upd2_n (by decide)]; exact h2 j hj
theorem know11_ok (hP : PB P) (hn : 117 ≤ nx) (hN : 200 ≤ N) (h13 : D 97 13 = nI 8) : OkP (fun E => E 97 13 = nI 8 ∧ (∀ q, q ≠ 97 → q ≠ 107 → E q = D q) ∧ (∀ j, j ≠ 13 → E 97 j = D 97 j) ∧ (∀ j, j < 18 → E 107 (18 * 7 + j) = D 106 j) ∧ (∀ j, j < 126 → E 107 j = D 107 (18 + j))) (wk2 N (f_M_know_11 N nx P 97) D 0) := by
  refine wk2_run (I := fun t E i => i = nI t ∧ FrO 107 D E ∧ (∀ j, j < t → E 107 j = D 107 (18 + j)) ∧ (∀ j, t ≤ j → E 107 j = D 107 j)) 126 N _ _ (by omega) ⟨rfl, fun _ _ => rfl, fun j hj => absurd hj (Nat.not_lt_zero j), fun _ _ => rfl⟩ ?_ ?_
  · rintro t ht E i ⟨rfl, hfr, h1, h2⟩ rec hrec
    unfold f_M_know_11
    rw [show (18 : Int32) + nI t = nI (18 + t) from nI_add 18 t]
    refine ok_f (by rw [lit 126, nI_le' (by decide) (by omega)]; omega) (ok_nn (hP.at (by decide) (show P0 97 12 = some 107 from rfl)) (ok_t (ab_ok (t := 3) (N := 144) (kd_at (by omega) rfl) (by omega) (by decide)) (ok_t (ab_ok (t := 3) (N := 144) (kd_at (by omega) rfl) (by omega) (by decide)) (ok_pas ?_))))
    rw [cl (n := 18 + t) (by omega), cl (n := t) (by omega), nI_1, h2 (18 + t) (by omega)]
    refine hrec _ _ ⟨rfl, hfr.tr FrO.up, fun j hj => ?_, fun j hj => ?_⟩
    · rw [upd2_s]
      by_cases c : j = t
      · rw [c, upd_s]
      · rw [upd_n c]; exact h1 j (by omega)
    · rw [upd2_s, upd_n (by omega)]; exact h2 j (by omega)
  · rintro E i ⟨rfl, hfr, h1, h2⟩ rec
    have e13 : E 97 13 = nI 8 := by rw [hfr 97 (by decide)]; exact h13
    unfold f_M_know_11
    refine ok_t (by decide) (ok_pas ?_)
    rw [e13, show nI 8 - 1 = nI 7 by decide]
    refine ok_imp (know50_ok (m := 7) hP hn (by omega) (by decide) (by rw [upd2_s, upd_s])) ?_
    rintro F ⟨f1, f2, f3, f4, f5⟩
    refine ⟨f1, fun q a b => ?_, fun j hj => ?_, fun j hj => ?_, fun j hj => ?_⟩
    · rw [f2 q a b, upd2_n a]; exact hfr q b
    · rw [f3 j hj, upd2_s, upd_n hj, hfr 97 (by decide)]
    · rw [f4 j hj, upd2_n (by decide), hfr 106 (by decide)]
    · rw [f5 j (by omega), upd2_n (by decide)]; exact h1 j hj
theorem M_know_ok (hP : PB P) (h : MR D g) (ho : GOK g) (hn : 117 ≤ nx) (hN : 200 ≤ N) : OkP (fun E => MR E (pushG g) ∧ ∀ q, q ≠ 97 → q ≠ 107 → E q = D q) (f_M_know N nx D P 97) := by
  have hm := ho.2.2.2.1.1
  have h13 := h.2.2.2.1.1
  have hpr := h.2.2.2.1.2
  have hs := h.2.1
  have last : ∀ {E : Dt}, E 97 13 = nI (pushN (gP g).1) → (∀ q, q ≠ 97 → q ≠ 107 → E q = D q) → (∀ j, j ≠ 13 → E 97 j = D 97 j) → (∀ i, i < pushN (gP g).1 → RStd (E 107) (18 * i) (pushU (gP g).1 (gP g).2 (gS g) i)) → MR E (pushG g) := fun a b c d =>
    h.gen (s' := gS g) (p := (pushN (gP g).1, pushU (gP g).1 (gP g).2 (gS g))) (k := gK g) (fun q x y => b q (by omega) (by omega)) (fun j hj => c j (by omega)) (by rw [b 106 (by decide) (by decide)]; exact hs) ⟨a, d⟩ ⟨(c 15 (by decide)).trans h.2.2.2.2.1.1, by rw [b 108 (by decide) (by decide)]; exact h.2.2.2.2.1.2⟩
  unfold f_M_know
  refine ok_t (kd_at (by omega) rfl) ?_
  rw [h13]
  by_cases c : (gP g).1 = 8
  · rw [c] at h13 hpr
    refine ok_t (by rw [c]; rfl) (ok_imp (know11_ok hP hn hN h13) ?_)
    rintro E ⟨e1, e2, e3, e4, e5⟩
    have e8 : pushN (gP g).1 = 8 := by rw [c]; rfl
    refine ⟨last (by rw [e8]; exact e1) e2 e3 (fun i hi => ?_), e2⟩
    rw [e8] at hi
    intro j hj
    show E 107 (18 * i + j) = st18 (pushU (gP g).1 (gP g).2 (gS g) i) j
    have eu : pushU (gP g).1 (gP g).2 (gS g) i = if i = 7 then gS g else (gP g).2 (i + 1) := by
      unfold pushU; rw [if_neg (by omega)]
    rw [eu]
    by_cases d : i = 7
    · rw [if_pos d, d, e4 j hj]
      have := hs j hj
      rwa [Nat.zero_add] at this
    · rw [if_neg d, e5 _ (by omega), show 18 + (18 * i + j) = 18 * (i + 1) + j by omega]
      exact hpr (i + 1) (by omega) j hj
  · refine ok_f (by rw [lit 8, nI_inj (by omega) (by decide)]; exact c) (ok_imp (know50_ok hP hn (by omega) (m := (gP g).1) (by omega) h13) ?_)
    rintro E ⟨e1, e2, e3, e4, e5⟩
    have e8 : pushN (gP g).1 = (gP g).1 + 1 := by unfold pushN; rw [if_pos (by omega)]
    refine ⟨last (by rw [e8]; exact e1) e2 e3 (fun i hi => ?_), e2⟩
    rw [e8] at hi
    intro j hj
    show E 107 (18 * i + j) = st18 (pushU (gP g).1 (gP g).2 (gS g) i) j
    have eu : pushU (gP g).1 (gP g).2 (gS g) i = if i = (gP g).1 then gS g else (gP g).2 i := by
      unfold pushU; rw [if_pos (by omega)]
    rw [eu]
    by_cases d : i = (gP g).1
    · rw [if_pos d, d, e4 j hj]
      have := hs j hj
      rwa [Nat.zero_add] at this
    · have : i < (gP g).1 := by omega
      rw [if_neg d, e5 _ (by omega)]
      exact hpr i this j hj
theorem mp5 {p : Nat} (h : p < 5) : mp p = p := if_pos (by omega)
theorem M_stick_ok (hP : PB P) (h : MR D g) (ho : GOK g) (hn : 117 ≤ nx) (hN : 200 ≤ N) (x : Int32) : OkP (fun z => z.1 = (oStick g x).1 ∧ MR z.2 (oStick g x).2 ∧ Lo D z.2) (f_M_stick N nx D P 97 x) := by
  have hf := ho.1
  have hk := hf.2.2.1
  unfold f_M_stick oStick
  refine ok_t (kd_at (by omega) rfl) (ok_call (M_isPin_eq hP hn h.1 hf x) ?_)
  by_cases q : isT (gF g) x = true
  · obtain ⟨t, rfl, ht⟩ := isT_up hf q
    rw [if_pos q, if_pos q, cl (by omega)]
    refine ok_f (by decide) (ok_nn (hP.at (by decide) (show P0 97 11 = some 106 from rfl)) (ok_call (M_isBorne_eq (k106 hn) h.2.1 (by omega)) ?_))
    by_cases w1 : sP (gS g) t < 5
    · rw [if_pos w1]
      refine ok_f (by decide) (ok_call (M_isAtDoor_eq hP hn h.1 hf ho.2.1 (k106 hn) h.2.1) ?_)
      by_cases w2 : sW (gS g) = fD (gF g)
      · rw [if_pos w2, if_neg (fun e => e.2 w2)]
        exact ok_f (by decide) (ok_some ⟨rfl, h, Lo.rf⟩)
      · rw [if_neg w2, if_pos ⟨w1, w2⟩]
        refine ok_t rfl (ok_bind (M_know_ok hP h ho hn hN) (fun E hE => ?_))
        rw [ix2]
        refine ok_t (ab_ok (t := 3) (N := 18) (k106 hn) (by omega) (by decide)) (ok_pas ?_)
        rw [cl (by omega)]
        have h0 : RStd (E 106) 0 (gS g) := hE.1.2.1
        have h5 : RStd (upd2 E 106 (2 + t) 5 106) 0 (setP (gS g) t 5) := by rw [upd2_s]; exact h0.putP (p := 5) (by omega)
        have hv5 : StOK (gF g) (setP (gS g) t 5) := setP_ok ho.2.1 ht (Or.inr rfl) ((ho.2.1.1 t ht).2.2 (by omega))
        have hm1 : MF E (gF g) := hE.1.1
        have hm2 : MF (upd2 E 106 (2 + t) 5) (gF g) := hm1.fo (q := 106) FrO.up (by decide)
        refine ok_call (M_those_eq (p := 5) hP hn hm2 hf hv5 (k106 hn) h5 (by omega) (by decide)) (ok_call (M_sizeOf_eq hP hn hm2 hf hv5 (k106 hn) h5 (by omega) (bt_lt _ 8)) (ok_some ⟨?_, MR.now (g := pushG g) hE.1 FrO.up h5, fun q hq => ?_⟩))
        · rw [sz_at]
        · show upd2 E 106 (2 + t) 5 q = D q
          rw [upd2_n (by omega)]; exact hE.2 q (by omega) (by omega)
    · rw [if_neg w1, if_neg (fun e => w1 e.1)]
      exact ok_t rfl (ok_some ⟨rfl, h, Lo.rf⟩)
  · rw [if_neg q, if_neg q]
    exact ok_t rfl (ok_some ⟨rfl, h, Lo.rf⟩)
theorem M_feel_ok (hP : PB P) (h : MR D g) (ho : GOK g) (hn : 117 ≤ nx) (hN : 200 ≤ N) (x y : Int32) : OkP (fun z => z.1 = (oFeel g x y).1 ∧ MR z.2 (oFeel g x y).2 ∧ Lo D z.2) (f_M_feel N nx D P 97 x y) := by
  have hf := ho.1
  have hk := hf.2.2.1
  have hn5 := hf.2.1
  unfold f_M_feel oFeel
  refine ok_t (kd_at (by omega) rfl) (ok_call (M_isPin_eq hP hn h.1 hf x) ?_)
  by_cases q : isT (gF g) x = true
  · rw [if_pos q]
    refine ok_f (by decide) (ok_call (M_isPerson_eq hP hn h.1 hf y) ?_)
    by_cases r : isP (gF g) y = true
    · obtain ⟨t, rfl, ht⟩ := isT_up hf q
      obtain ⟨p, rfl, hp⟩ := isP_up hf r
      have hmp := mp_eq hf ho.2.1 ht
      have ab2 : ab nx 106 3 (nI (2 + t)) = true := ab_ok (t := 3) (N := 18) (k106 hn) (by omega) (by decide)
      rw [if_pos r, if_pos ⟨q, r⟩, cl (n := t) (by omega), cl (n := p) (by omega), ix2]
      refine ok_f (by decide) (ok_nn (hP.at (by decide) (show P0 97 11 = some 106 from rfl)) (ok_t ab2 ?_))
      rw [cl (n := 2 + t) (by omega), h.2.1.pl (by omega), hmp.1]
      by_cases w : sP (gS g) t = 5
      · rw [if_pos w]
        refine ok_t (by rw [w]; rfl) (ok_bind (M_know_ok hP h ho hn hN) (fun E hE => ?_))
        refine ok_t ab2 (ok_pas ?_)
        have h0 : RStd (E 106) 0 (gS g) := hE.1.2.1
        have h5 : RStd (upd2 E 106 (2 + t) (nI p) 106) 0 (setP (gS g) t p) := by
          have := h0.putP (t := t) (p := p) (by omega)
          rw [mp5 (by omega)] at this
          rw [upd2_s]; exact this
        have hv5 : StOK (gF g) (setP (gS g) t p) := setP_ok ho.2.1 ht (Or.inl hp) ((ho.2.1.1 t ht).2.2 (by omega))
        have hm1 : MF E (gF g) := hE.1.1
        have hm2 : MF (upd2 E 106 (2 + t) (nI p)) (gF g) := hm1.fo (q := 106) FrO.up (by decide)
        refine ok_call (M_load_eq (p := p) hP hn hm2 hf hv5 (k106 hn) h5 (by omega) (by omega)) (ok_some ⟨rfl, MR.now (g := pushG g) hE.1 FrO.up h5, fun q hq => ?_⟩)
        show upd2 E 106 (2 + t) (nI p) q = D q
        rw [upd2_n (by omega)]; exact hE.2 q (by omega) (by omega)
      · rw [if_neg w]
        exact ok_f (by rw [lit 5, nI_inj (by omega) (by decide)]; exact w) (ok_some ⟨rfl, h, Lo.rf⟩)
    · rw [if_neg r, if_neg (fun e => r e.2)]
      exact ok_t rfl (ok_some ⟨rfl, h, Lo.rf⟩)
  · rw [if_neg q, if_neg (fun e => q e.1)]
    exact ok_t rfl (ok_some ⟨rfl, h, Lo.rf⟩)
theorem M_bear_ok (hP : PB P) (h : MR D g) (ho : GOK g) (hn : 117 ≤ nx) (hN : 200 ≤ N) (x y : Int32) : OkP (fun z => z.1 = (oBear g x y).1 ∧ MR z.2 (oBear g x y).2 ∧ Lo D z.2) (f_M_bear N nx D P 97 x y) := by
  have hf := ho.1
  have hk := hf.2.2.1
  have hn5 := hf.2.1
  unfold f_M_bear oBear
  refine ok_t (kd_at (by omega) rfl) (ok_call (M_isPin_eq hP hn h.1 hf x) ?_)
  by_cases q : isT (gF g) x = true
  · rw [if_pos q]
    refine ok_f (by decide) (ok_call (M_isPerson_eq hP hn h.1 hf y) ?_)
    by_cases r : isP (gF g) y = true
    · obtain ⟨t, rfl, ht⟩ := isT_up hf q
      obtain ⟨p, rfl, hp⟩ := isP_up hf r
      have hmp := mp_eq hf ho.2.1 ht
      have ab2 : ab nx 106 3 (nI (2 + t)) = true := ab_ok (t := 3) (N := 18) (k106 hn) (by omega) (by decide)
      rw [if_pos r, if_pos ⟨q, r⟩, cl (n := t) (by omega), cl (n := p) (by omega), ix2]
      refine ok_f (by decide) (ok_nn (hP.at (by decide) (show P0 97 11 = some 106 from rfl)) (ok_t ab2 (ok_call (M_isBorne_eq (k106 hn) h.2.1 (by omega)) ?_)))
      rw [cl (n := 2 + t) (by omega), h.2.1.pl (by omega), hmp.1]
      by_cases w1 : sP (gS g) t < 5
      · rw [if_pos w1]
        refine ok_f (by decide) ?_
        by_cases w2 : sP (gS g) t = p
        · rw [if_neg (fun e => e.2 w2)]
          exact ok_t (by rw [w2]) (ok_some ⟨rfl, h, Lo.rf⟩)
        · rw [if_pos ⟨w1, w2⟩]
          refine ok_f (by rw [nI_inj (by omega) (by omega)]; exact w2) (ok_bind (M_know_ok hP h ho hn hN) (fun E hE => ?_))
          refine ok_t ab2 (ok_pas ?_)
          have h0 : RStd (E 106) 0 (gS g) := hE.1.2.1
          have h5 : RStd (upd2 E 106 (2 + t) (nI p) 106) 0 (setP (gS g) t p) := by
            have := h0.putP (t := t) (p := p) (by omega)
            rw [mp5 (by omega)] at this
            rw [upd2_s]; exact this
          refine ok_some ⟨rfl, MR.now (g := pushG g) hE.1 FrO.up h5, fun q hq => ?_⟩
          show upd2 E 106 (2 + t) (nI p) q = D q
          rw [upd2_n (by omega)]; exact hE.2 q (by omega) (by omega)
      · rw [if_neg w1, if_neg (fun e => w1 e.1)]
        exact ok_t rfl (ok_some ⟨rfl, h, Lo.rf⟩)
    · rw [if_neg r, if_neg (fun e => r e.2)]
      exact ok_t rfl (ok_some ⟨rfl, h, Lo.rf⟩)
  · rw [if_neg q, if_neg (fun e => q e.1)]
    exact ok_t rfl (ok_some ⟨rfl, h, Lo.rf⟩)
theorem M_pass_ok (hP : PB P) (h : MR D g) (ho : GOK g) (hn : 117 ≤ nx) (hN : 200 ≤ N) (x : Int32) : OkP (fun z => z.1 = (oPass g x).1 ∧ MR z.2 (oPass g x).2 ∧ Lo D z.2) (f_M_pass N nx D P 97 x) := by
  have hf := ho.1
  unfold f_M_pass oPass
  refine ok_t (kd_at (by omega) rfl) (ok_call M_in_eq ?_)
  show OkP _ (if (if nI 1 ≤ x ∧ x ≤ nI 24 then (1 : Int32) else 0) = 0 then _ else _)
  by_cases q : nI 1 ≤ x ∧ x ≤ nI 24
  · obtain ⟨c, rfl, hc1, hc2⟩ := up q.1 q.2 (by decide) (by decide)
    rw [if_pos q, if_pos q, cl (n := c) (by omega)]
    refine ok_f (by decide) (ok_bind (M_know_ok hP h ho hn hN) (fun E hE => ?_))
    have h0 : RStd (E 106) 0 (gS g) := hE.1.2.1
    have hm1 : MF E (gF g) := hE.1.1
    refine wk2_run (I := fun t F i => i = nI t ∧ FrO 106 E F ∧ RStd (F 106) 0 (days (gF g) t (gS g))) c N _ _ (by omega) ⟨rfl, fun _ _ => rfl, h0⟩ ?_ ?_
    · rintro t ht F i ⟨rfl, hfr, hF⟩ rec hrec
      unfold f_M_pass_18
      refine ok_f (i2_lt ht (by omega)) (ok_nn (hP.at (by decide) (show P0 97 11 = some 106 from rfl)) (ok_bind (M_passOn_ok hP hn (hm1.fo hfr (by decide)) hf (days_ok hf t ho.2.1) (k106 hn) (by decide) hF (by omega)) (fun F2 hF2 => ?_)))
      rw [nI_1]
      refine hrec _ _ ⟨rfl, hfr.tr hF2.2, ?_⟩
      rw [days_succ]; exact hF2.1
    · rintro F i ⟨rfl, hfr, hF⟩ rec
      unfold f_M_pass_18
      refine ok_t (i2_ge (Nat.le_refl _) (by omega)) (ok_nn (hP.at (by decide) (show P0 97 11 = some 106 from rfl)) (ok_t (ab_ok (t := 3) (N := 18) (k106 hn) (n := 0) (by decide) (by decide)) (ok_some ⟨hF.day, MR.now (g := pushG g) hE.1 hfr hF, fun q hq => ?_⟩)))
      show F q = D q
      rw [hfr q (by omega)]; exact hE.2 q (by omega) (by omega)
  · rw [if_neg q, if_neg q]
    exact ok_t rfl (ok_some ⟨rfl, h, Lo.rf⟩)
theorem M_undo_ok (hP : PB P) (h : MR D g) (ho : GOK g) (hn : 117 ≤ nx) (hN : 200 ≤ N) : OkP (fun z => z.1 = (oUndo g).1 ∧ MR z.2 (oUndo g).2 ∧ Lo D z.2) (f_M_undo N nx D P 97) := by
  have hm := ho.2.2.2.1.1
  have h13 := h.2.2.2.1.1
  have hpr := h.2.2.2.1.2
  unfold f_M_undo oUndo
  rw [h13]
  refine ok_t (kd_at (by omega) rfl) ?_
  by_cases c : (gP g).1 = 0
  · rw [if_pos c]
    exact ok_t (by rw [c]; rfl) (ok_some ⟨rfl, h, Lo.rf⟩)
  · obtain ⟨m, em⟩ : ∃ m, (gP g).1 = m + 1 := ⟨(gP g).1 - 1, by omega⟩
    rw [if_neg c, em, show m + 1 - 1 = m by omega]
    have e1 : nI (m + 1) - 1 = nI m := nI_pred m
    refine ok_f (by rw [lit 0, nI_inj (by omega) (by decide)]; omega) (ok_pas ?_)
    rw [e1]
    refine wk2_run (I := fun t E i => i = nI t ∧ FrO 106 (upd2 D 97 13 (nI m)) E ∧ (∀ j, j < t → E 106 j = D 107 (18 * m + j))) 18 N _ _ (by omega) ⟨rfl, fun _ _ => rfl, fun j hj => absurd hj (Nat.not_lt_zero j)⟩ ?_ ?_
    · rintro t ht E i ⟨rfl, hfr, h1⟩ rec hrec
      have e13 : E 97 13 = nI m := by rw [hfr 97 (by decide), upd2_s, upd_s]
      unfold f_M_undo_22
      rw [e13, ix18]
      refine ok_f (by rw [lit 18, nI_le' (by decide) (by omega)]; omega) (ok_nn (hP.at (by decide) (show P0 97 11 = some 106 from rfl)) (ok_nn (hP.at (by decide) (show P0 97 12 = some 107 from rfl)) (ok_t (ab_ok (t := 3) (N := 144) (kd_at (by omega) rfl) (by omega) (by decide)) (ok_t (ab_ok (t := 3) (N := 18) (kd_at (by omega) rfl) (by omega) (by decide)) (ok_pas ?_)))))
      rw [cl (n := 18 * m + t) (by omega), cl (n := t) (by omega), nI_1, hfr 107 (by decide), upd2_n (show 107 ≠ 97 by decide)]
      refine hrec _ _ ⟨rfl, hfr.tr FrO.up, fun j hj => ?_⟩
      rw [upd2_s]
      by_cases d : j = t
      · rw [d, upd_s]
      · rw [upd_n d]; exact h1 j (by omega)
    · rintro E i ⟨rfl, hfr, h1⟩ rec
      have e13 : E 97 13 = nI m := by rw [hfr 97 (by decide), upd2_s, upd_s]
      have e9 : ∀ j, j ≠ 13 → E 97 j = D 97 j := fun j hj => by rw [hfr 97 (by decide), upd2_s, upd_n hj]
      have eq : ∀ q, q ≠ 97 → q ≠ 106 → E q = D q := fun q a b => by rw [hfr q b, upd2_n a]
      unfold f_M_undo_22
      refine ok_t (by decide) (ok_some ⟨e13, ?_, fun q hq => eq q (by omega) (by omega)⟩)
      have hs' : RStd (E 106) 0 ((gP g).2 m) := by
        intro j hj
        rw [Nat.zero_add, h1 j hj]
        exact hpr m (by omega) j hj
      have k := h.gen (E := E) (s' := (gP g).2 m) (p := (m, (gP g).2)) (k := gK g) (fun q a b => eq q (by omega) (by omega)) (fun j hj => e9 j (by omega)) hs' ⟨e13, fun i hi => by
        rw [eq 107 (by decide) (by decide)]
        exact hpr i (by have hi : i < m := hi; omega)⟩ ⟨(e9 15 (by decide)).trans h.2.2.2.2.1.1, by rw [eq 108 (by decide) (by decide)]; exact h.2.2.2.2.1.2⟩
      exact k
theorem M_keep_ok (hP : PB P) (h : MR D g) (ho : GOK g) (hn : 117 ≤ nx) (hN : 200 ≤ N) : OkP (fun z => z.1 = (oKeep g).1 ∧ MR z.2 (oKeep g).2 ∧ Lo D z.2) (f_M_keep N nx D P 97) := by
  have hm := ho.2.2.2.2.1.1
  have h15 := h.2.2.2.2.1.1
  have hkr := h.2.2.2.2.1.2
  have hs := h.2.1
  unfold f_M_keep oKeep
  rw [h15]
  refine ok_t (kd_at (by omega) rfl) ?_
  by_cases c : (gK g).1 < 2
  · rw [if_pos c]
    refine ok_f (by rw [lit 2, nI_inj (by omega) (by decide)]; omega) ?_
    refine wk2_run (I := fun t E i => i = nI t ∧ FrO 108 D E ∧ (∀ j, j < t → E 108 (18 * (gK g).1 + j) = D 106 j) ∧ (∀ j, j < 18 * (gK g).1 → E 108 j = D 108 j)) 18 N _ _ (by omega) ⟨rfl, fun _ _ => rfl, fun j hj => absurd hj (Nat.not_lt_zero j), fun _ _ => rfl⟩ ?_ ?_
    · rintro t ht E i ⟨rfl, hfr, h1, h2⟩ rec hrec
      have e15 : E 97 15 = nI (gK g).1 := by rw [hfr 97 (by decide)]; exact h15
      unfold f_M_keep_13
      rw [e15, ix18]
      refine ok_f (by rw [lit 18, nI_le' (by decide) (by omega)]; omega) (ok_nn (hP.at (by decide) (show P0 97 14 = some 108 from rfl)) (ok_nn (hP.at (by decide) (show P0 97 11 = some 106 from rfl)) (ok_t (ab_ok (t := 3) (N := 18) (kd_at (by omega) rfl) (by omega) (by decide)) (ok_t (ab_ok (t := 3) (N := 36) (kd_at (by omega) rfl) (by omega) (by decide)) (ok_pas ?_)))))
      rw [cl (n := 18 * (gK g).1 + t) (by omega), cl (n := t) (by omega), nI_1, hfr 106 (by decide)]
      refine hrec _ _ ⟨rfl, hfr.tr FrO.up, fun j hj => ?_, fun j hj => ?_⟩
      · rw [upd2_s]
        by_cases d : j = t
        · rw [d, upd_s]
        · rw [upd_n (by omega)]; exact h1 j (by omega)
      · rw [upd2_s, upd_n (by omega)]; exact h2 j hj
    · rintro E i ⟨rfl, hfr, h1, h2⟩ rec
      have e15 : E 97 15 = nI (gK g).1 := by rw [hfr 97 (by decide)]; exact h15
      unfold f_M_keep_13
      rw [e15, nI_1 (gK g).1]
      have f15 : upd2 E 97 15 (nI ((gK g).1 + 1)) 97 15 = nI ((gK g).1 + 1) := by rw [upd2_s, upd_s]
      have e9 : ∀ j, j ≠ 15 → upd2 E 97 15 (nI ((gK g).1 + 1)) 97 j = D 97 j := fun j hj => by rw [upd2_s, upd_n hj, hfr 97 (by decide)]
      have eq : ∀ q, q ≠ 97 → q ≠ 108 → upd2 E 97 15 (nI ((gK g).1 + 1)) q = D q := fun q a b => by rw [upd2_n a, hfr q b]
      refine ok_t (by decide) (ok_pas (ok_some ⟨f15, ?_, fun q hq => eq q (by omega) (by omega)⟩))
      have k := h.gen (E := upd2 E 97 15 (nI ((gK g).1 + 1))) (s' := gS g) (p := gP g) (k := ((gK g).1 + 1, fun i => if i = (gK g).1 then gS g else (gK g).2 i)) (fun q a b => eq q (by omega) (by omega)) (fun j hj => e9 j (by omega)) (by rw [eq 106 (by decide) (by decide)]; exact hs) ⟨(e9 13 (by decide)).trans h.2.2.2.1.1, by rw [eq 107 (by decide) (by decide)]; exact h.2.2.2.1.2⟩ ⟨f15, fun i hi => by
        have hi : i < (gK g).1 + 1 := hi
        intro j hj
        show upd2 E 97 15 (nI ((gK g).1 + 1)) 108 (18 * i + j) = st18 (if i = (gK g).1 then gS g else (gK g).2 i) j
        rw [upd2_n (by decide)]
        by_cases d : i = (gK g).1
        · rw [if_pos d, d, h1 j hj]
          have := hs j hj
          rwa [Nat.zero_add] at this
        · rw [if_neg d, h2 _ (by omega)]
          exact hkr i (by omega) j hj⟩
      exact k
  · rw [if_neg c]
    exact ok_t (by rw [show (gK g).1 = 2 by omega]; rfl) (ok_some ⟨rfl, h, Lo.rf⟩)
theorem M_back_ok (hP : PB P) (h : MR D g) (ho : GOK g) (hn : 117 ≤ nx) (hN : 200 ≤ N) : OkP (fun z => z.1 = (oBack g).1 ∧ MR z.2 (oBack g).2 ∧ Lo D z.2) (f_M_back N nx D P 97) := by
  have hm := ho.2.2.2.2.1.1
  have h15 := h.2.2.2.2.1.1
  have hkr := h.2.2.2.2.1.2
  unfold f_M_back oBack
  rw [h15]
  refine ok_t (kd_at (by omega) rfl) ?_
  by_cases c : (gK g).1 = 0
  · rw [if_pos c]
    exact ok_t (by rw [c]; rfl) (ok_some ⟨rfl, h, Lo.rf⟩)
  · obtain ⟨m, em⟩ : ∃ m, (gK g).1 = m + 1 := ⟨(gK g).1 - 1, by omega⟩
    rw [if_neg c, em, show m + 1 - 1 = m by omega]
    have e1 : nI (m + 1) - 1 = nI m := nI_pred m
    refine ok_f (by rw [lit 0, nI_inj (by omega) (by decide)]; omega) (ok_pas ?_)
    rw [e1]
    refine wk2_run (I := fun t E i => i = nI t ∧ FrO 106 (upd2 D 97 15 (nI m)) E ∧ (∀ j, j < t → E 106 j = D 108 (18 * m + j))) 18 N _ _ (by omega) ⟨rfl, fun _ _ => rfl, fun j hj => absurd hj (Nat.not_lt_zero j)⟩ ?_ ?_
    · rintro t ht E i ⟨rfl, hfr, h1⟩ rec hrec
      have e15 : E 97 15 = nI m := by rw [hfr 97 (by decide), upd2_s, upd_s]
      unfold f_M_back_22
      rw [e15, ix18]
      refine ok_f (by rw [lit 18, nI_le' (by decide) (by omega)]; omega) (ok_nn (hP.at (by decide) (show P0 97 11 = some 106 from rfl)) (ok_nn (hP.at (by decide) (show P0 97 14 = some 108 from rfl)) (ok_t (ab_ok (t := 3) (N := 36) (kd_at (by omega) rfl) (by omega) (by decide)) (ok_t (ab_ok (t := 3) (N := 18) (kd_at (by omega) rfl) (by omega) (by decide)) (ok_pas ?_)))))
      rw [cl (n := 18 * m + t) (by omega), cl (n := t) (by omega), nI_1, hfr 108 (by decide), upd2_n (show 108 ≠ 97 by decide)]
      refine hrec _ _ ⟨rfl, hfr.tr FrO.up, fun j hj => ?_⟩
      rw [upd2_s]
      by_cases d : j = t
      · rw [d, upd_s]
      · rw [upd_n d]; exact h1 j (by omega)
    · rintro E i ⟨rfl, hfr, h1⟩ rec
      have e15 : upd2 E 97 13 0 97 15 = nI m := by rw [upd2_s, upd_n (by decide), hfr 97 (by decide), upd2_s, upd_s]
      have e13 : upd2 E 97 13 0 97 13 = nI 0 := by rw [upd2_s, upd_s]; rfl
      have e9 : ∀ j, j ≠ 13 → j ≠ 15 → upd2 E 97 13 0 97 j = D 97 j := fun j hj h2 => by rw [upd2_s, upd_n hj, hfr 97 (by decide), upd2_s, upd_n h2]
      have eq : ∀ q, q ≠ 97 → q ≠ 106 → upd2 E 97 13 0 q = D q := fun q a b => by rw [upd2_n a, hfr q b, upd2_n a]
      unfold f_M_back_22
      refine ok_t (by decide) (ok_pas (ok_some ⟨e15, ?_, fun q hq => eq q (by omega) (by omega)⟩))
      have hs' : RStd (upd2 E 97 13 0 106) 0 ((gK g).2 m) := by
        intro j hj
        rw [Nat.zero_add, upd2_n (by decide), h1 j hj]
        exact hkr m (by omega) j hj
      have k := h.gen (E := upd2 E 97 13 0) (s' := (gK g).2 m) (p := (0, (gP g).2)) (k := (m, (gK g).2)) (fun q a b => eq q (by omega) (by omega)) (fun j hj => e9 j (by omega) (by omega)) hs' ⟨e13, fun i hi => absurd hi (Nat.not_lt_zero i)⟩ ⟨e15, fun i hi => by
        rw [eq 108 (by decide) (by decide)]
        exact hkr i (by have hi : i < m := hi; omega)⟩
      exact k
end MM
/-! the reference: what comes -/
section MN
variable {N nx : Nat} {D : Dt} {P : Ft} {g : Gs}
theorem M_goOn_ok (hP : PB P) (h : MR D g) (ho : GOK g) (hn : 117 ≤ nx) (hN : 200 ≤ N) {n : Nat} (hn60 : n ≤ 60) : OkP (fun E => RStd (E 109) 0 (days (gF g) n (gS g)) ∧ Fr9 D E) (f_M_goOn N nx D P 97 (nI n)) := by
  have hf := ho.1
  unfold f_M_goOn
  refine ok_t (kd_at (by omega) rfl) (ok_bind (M_take_ok hP h hn (by omega)) (fun E hE => ?_))
  refine wk2_run (I := fun t F i => i = nI t ∧ Fr9 D F ∧ RStd (F 109) 0 (days (gF g) t (gS g))) n N _ _ (by omega) ⟨rfl, hE.2, hE.1⟩ ?_ ?_
  · rintro t ht F i ⟨rfl, hfr, hF⟩ rec hrec
    unfold f_M_goOn_6
    refine ok_f (i2_lt ht (by omega)) (ok_nn (hP.at (by decide) (show P0 97 16 = some 109 from rfl)) (ok_bind (M_passOn_ok hP hn (h.1.fo (q := 109) hfr (by decide)) hf (days_ok hf t ho.2.1) (k109 hn) (by decide) hF (by omega)) (fun F2 hF2 => ?_)))
    rw [nI_1]
    refine hrec _ _ ⟨rfl, FrO.tr (q := 109) hfr hF2.2, ?_⟩
    rw [days_succ]; exact hF2.1
  · rintro F i ⟨rfl, hfr, hF⟩ rec
    unfold f_M_goOn_6
    exact ok_t (i2_ge (Nat.le_refl _) (by omega)) (ok_some ⟨hF, hfr⟩)
theorem M_behind_ok (hP : PB P) (h : MR D g) (ho : GOK g) (hn : 117 ≤ nx) (hN : 200 ≤ N) (x y : Int32) : OkP (fun z => z.1 = oBehind g x y ∧ MR z.2 g ∧ Lo D z.2) (f_M_behind N nx D P 97 x y) := by
  have hf := ho.1
  have hn5 := hf.2.1
  unfold f_M_behind oBehind
  refine ok_t (kd_at (by omega) rfl) (ok_call M_in_eq ?_)
  show OkP _ (if (if nI 0 ≤ x ∧ x ≤ nI 60 then (1 : Int32) else 0) = 0 then _ else _)
  by_cases q : nI 0 ≤ x ∧ x ≤ nI 60
  · rw [if_pos q]
    refine ok_f (by decide) (ok_call (M_isPerson_eq hP hn h.1 hf y) ?_)
    by_cases r : isP (gF g) y = true
    · obtain ⟨n, rfl, hn1, hn2⟩ := up q.1 q.2 (by decide) (by decide)
      obtain ⟨p, rfl, hp⟩ := isP_up hf r
      rw [if_pos r, if_pos ⟨q, r⟩, cl (n := n) (by omega), cl (n := p) (by omega)]
      refine ok_f (by decide) (ok_bind (M_goOn_ok hP h ho hn hN hn2) (fun E hE => ok_nn (hP.at (by decide) (show P0 97 16 = some 109 from rfl)) (ok_call (M_load_eq hP hn (h.1.fo (q := 109) hE.2 (by decide)) hf (days_ok hf n ho.2.1) (k109 hn) hE.1 (by omega) (by omega)) (ok_some ⟨rfl, hE.2.mr h⟩))))
    · rw [if_neg r, if_neg (fun e => r e.2)]
      exact ok_t rfl (ok_some ⟨rfl, h, Lo.rf⟩)
  · rw [if_neg q, if_neg (fun e => q e.1)]
    exact ok_t rfl (ok_some ⟨rfl, h, Lo.rf⟩)
theorem M_walked_ok (hP : PB P) (h : MR D g) (ho : GOK g) (hn : 117 ≤ nx) (hN : 200 ≤ N) (x : Int32) : OkP (fun z => z.1 = oWalked g x ∧ MR z.2 g ∧ Lo D z.2) (f_M_walked N nx D P 97 x) := by
  unfold f_M_walked oWalked
  refine ok_t (kd_at (by omega) rfl) (ok_call M_in_eq ?_)
  show OkP _ (if (if nI 0 ≤ x ∧ x ≤ nI 60 then (1 : Int32) else 0) = 0 then _ else _)
  by_cases q : nI 0 ≤ x ∧ x ≤ nI 60
  · obtain ⟨n, rfl, hn1, hn2⟩ := up q.1 q.2 (by decide) (by decide)
    rw [if_pos q, if_pos q, cl (n := n) (by omega)]
    exact ok_f (by decide) (ok_bind (M_goOn_ok hP h ho hn hN hn2) (fun E hE => ok_nn (hP.at (by decide) (show P0 97 16 = some 109 from rfl)) (ok_t (ab_ok (t := 3) (N := 18) (k109 hn) (n := 1) (by decide) (by decide)) (ok_some ⟨hE.1.wal, hE.2.mr h⟩))))
  · rw [if_neg q, if_neg q]
    exact ok_t rfl (ok_some ⟨rfl, h, Lo.rf⟩)
theorem fstD_s {f : Fam} {c : St → Bool} {n i : Nat} {s : St} : fstD f c (n + 1) i s = if c s = true then nI i else fstD f c n (i + 1) (day f s) := rfl
theorem M_breaks_ok (hP : PB P) (h : MR D g) (ho : GOK g) (hn : 117 ≤ nx) (hN : 200 ≤ N) (x : Int32) : OkP (fun z => z.1 = oBreaks g x ∧ MR z.2 g ∧ Lo D z.2) (f_M_breaks N nx D P 97 x) := by
  have hf := ho.1
  have hn5 := hf.2.1
  unfold f_M_breaks oBreaks
  refine ok_t (kd_at (by omega) rfl) (ok_call (M_isPerson_eq hP hn h.1 hf x) ?_)
  by_cases r : isP (gF g) x = true
  · obtain ⟨p, rfl, hp⟩ := isP_up hf r
    rw [if_pos r, if_pos r, cl (by omega)]
    refine ok_f (by decide) (ok_bind (M_take_ok hP h hn (by omega)) (fun E hE => ?_))
    obtain ⟨A, hA⟩ : ∃ A, A = fstD (gF g) (fun s => brk (gF g) s p) 61 0 (gS g) := ⟨_, rfl⟩
    rw [← hA]
    refine wk2_run (I := fun t F i => i = nI t ∧ Fr9 D F ∧ RStd (F 109) 0 (days (gF g) t (gS g)) ∧ A = fstD (gF g) (fun s => brk (gF g) s p) (61 - t) t (days (gF g) t (gS g))) 61 N _ _ (by omega) ⟨rfl, hE.2, hE.1, hA⟩ ?_ ?_
    · rintro t ht F i ⟨rfl, hfr, hF, hI⟩ rec hrec
      have hv := days_ok hf t ho.2.1
      have hmF := h.1.fo (q := 109) hfr (by decide)
      rw [show 61 - t = (61 - (t + 1)) + 1 by omega, fstD_s] at hI
      unfold f_M_breaks_16
      refine ok_f (by rw [lit 60, nI_lt' (by decide) (by omega)]; omega) (ok_nn (hP.at (by decide) (show P0 97 16 = some 109 from rfl)) (ok_call (M_doesBreak_eq hP hn hmF hf hv (k109 hn) hF (by omega) hp) ?_))
      by_cases c : brk (gF g) (days (gF g) t (gS g)) p = true
      · rw [if_pos c] at hI ⊢
        exact ok_f (by decide) (ok_some ⟨hI.symm, hfr.mr h⟩)
      · rw [if_neg c] at hI ⊢
        refine ok_t rfl (ok_bind (M_passOn_ok hP hn hmF hf hv (k109 hn) (by decide) hF (by omega)) (fun F2 hF2 => ?_))
        rw [nI_1]
        refine hrec _ _ ⟨rfl, FrO.tr (q := 109) hfr hF2.2, ?_, ?_⟩
        · rw [days_succ]; exact hF2.1
        · rw [days_succ]; exact hI
    · rintro F i ⟨rfl, hfr, hF, hI⟩ rec
      unfold f_M_breaks_16
      exact ok_t (by decide) (ok_some ⟨hI.symm, hfr.mr h⟩)
  · rw [if_neg r, if_neg r]
    exact ok_t rfl (ok_some ⟨rfl, h, Lo.rf⟩)
theorem M_door_ok (hP : PB P) (h : MR D g) (ho : GOK g) (hn : 117 ≤ nx) (hN : 200 ≤ N) : OkP (fun z => z.1 = oDoor g ∧ MR z.2 g ∧ Lo D z.2) (f_M_door N nx D P 97) := by
  have hf := ho.1
  unfold f_M_door oDoor
  refine ok_t (kd_at (by omega) rfl) (ok_bind (M_take_ok hP h hn (by omega)) (fun E hE => ?_))
  obtain ⟨A, hA⟩ : ∃ A, A = fstD (gF g) (fun s => decide (sW s = fD (gF g))) 61 0 (gS g) := ⟨_, rfl⟩
  rw [← hA]
  refine wk2_run (I := fun t F i => i = nI t ∧ Fr9 D F ∧ RStd (F 109) 0 (days (gF g) t (gS g)) ∧ A = fstD (gF g) (fun s => decide (sW s = fD (gF g))) (61 - t) t (days (gF g) t (gS g))) 61 N _ _ (by omega) ⟨rfl, hE.2, hE.1, hA⟩ ?_ ?_
  · rintro t ht F i ⟨rfl, hfr, hF, hI⟩ rec hrec
    have hv := days_ok hf t ho.2.1
    have hmF := h.1.fo (q := 109) hfr (by decide)
    rw [show 61 - t = (61 - (t + 1)) + 1 by omega, fstD_s] at hI
    unfold f_M_door_6
    refine ok_f (by rw [lit 60, nI_lt' (by decide) (by omega)]; omega) (ok_nn (hP.at (by decide) (show P0 97 16 = some 109 from rfl)) (ok_call (M_isAtDoor_eq hP hn hmF hf hv (k109 hn) hF) ?_))
    by_cases c : sW (days (gF g) t (gS g)) = fD (gF g)
    · rw [if_pos (decide_eq_true c)] at hI
      rw [if_pos c]
      exact ok_f (by decide) (ok_some ⟨hI.symm, hfr.mr h⟩)
    · rw [if_neg (fun d => c (of_decide_eq_true d))] at hI
      rw [if_neg c]
      refine ok_t rfl (ok_bind (M_passOn_ok hP hn hmF hf hv (k109 hn) (by decide) hF (by omega)) (fun F2 hF2 => ?_))
      rw [nI_1]
      refine hrec _ _ ⟨rfl, FrO.tr (q := 109) hfr hF2.2, ?_, ?_⟩
      · rw [days_succ]; exact hF2.1
      · rw [days_succ]; exact hI
  · rintro F i ⟨rfl, hfr, hF, hI⟩ rec
    unfold f_M_door_6
    exact ok_t (by decide) (ok_some ⟨hI.symm, hfr.mr h⟩)
end MN
