/-! the reference: the whole text read; the draft taken -/
section MV
variable {N nx m : Nat} {D : Dt} {P : Ft} {v : Nat → Nat} {d : Dr} {g : Gs}
theorem M_begin_ok (hP : PB P) (hn : 117 ≤ nx) : OkP (fun E => FrM D E ∧ DRm E dr0 ∧ E 97 10 = 0 ∧ E 97 9 = D 97 9) (f_M_begin N nx D P 97) := by
  have ab : ∀ j, j < 6 → ab nx 101 3 (nI j) = true := fun j hj => ab_ok (t := 3) (N := 6) (kd_at (by omega) rfl) hj (by decide)
  have ab1 : CHeartPinsLaw_law_r8805_db995b.ab nx 99 3 1 = true := ab_ok (t := 3) (N := 2) (kd_at (by omega) rfl) (n := 1) (by decide) (by decide)
  have ab2 : CHeartPinsLaw_law_r8805_db995b.ab nx 100 3 1 = true := ab_ok (t := 3) (N := 2) (kd_at (by omega) rfl) (n := 1) (by decide) (by decide)
  have hk : kd nx 97 = 9 := kd_at (by omega) rfl
  unfold f_M_begin f_M_tellHeart
  refine ok_t hk (ok_pas (ok_nn (hP.at (by decide) (show P0 97 2 = some 99 from rfl)) (ok_t ab1 (ok_pas (ok_nn (hP.at (by decide) (show P0 97 3 = some 100 from rfl)) (ok_t ab2 (ok_pas (ok_bind (Q1 := fun E => FrM D E ∧ DRm E dr0 ∧ E 97 10 = 0 ∧ E 97 9 = D 97 9) (ok_t hk (ok_nn (hP.at (by decide) (show P0 97 4 = some 101 from rfl)) (ok_t (ab 3 (by decide)) (ok_pas (ok_t (ab 4 (by decide)) (ok_pas (ok_t (ab 5 (by decide)) (ok_pas (ok_some ?_))))))))) (fun E hE => ok_some hE)))))))))
  show FrM D (upd2 (upd2 (upd2 (upd2 (upd2 (upd2 D 97 10 0) 99 1 0) 100 1 0) 101 3 12) 101 4 5) 101 5 14) ∧ DRm (upd2 (upd2 (upd2 (upd2 (upd2 (upd2 D 97 10 0) 99 1 0) 100 1 0) 101 3 12) 101 4 5) 101 5 14) dr0 ∧ upd2 (upd2 (upd2 (upd2 (upd2 (upd2 D 97 10 0) 99 1 0) 100 1 0) 101 3 12) 101 4 5) 101 5 14 97 10 = 0 ∧ upd2 (upd2 (upd2 (upd2 (upd2 (upd2 D 97 10 0) 99 1 0) 100 1 0) 101 3 12) 101 4 5) 101 5 14 97 9 = D 97 9
  have e97 : upd2 (upd2 (upd2 (upd2 (upd2 (upd2 D 97 10 0) 99 1 0) 100 1 0) 101 3 12) 101 4 5) 101 5 14 97 = upd (D 97) 10 0 := by
    rw [upd2_n (by decide), upd2_n (by decide), upd2_n (by decide), upd2_n (by decide), upd2_n (by decide), upd2_s]
  have e99 : upd2 (upd2 (upd2 (upd2 (upd2 (upd2 D 97 10 0) 99 1 0) 100 1 0) 101 3 12) 101 4 5) 101 5 14 99 = upd (D 99) 1 0 := by
    rw [upd2_n (by decide), upd2_n (by decide), upd2_n (by decide), upd2_n (by decide), upd2_s, upd2_n (by decide)]
  have e100 : upd2 (upd2 (upd2 (upd2 (upd2 (upd2 D 97 10 0) 99 1 0) 100 1 0) 101 3 12) 101 4 5) 101 5 14 100 = upd (D 100) 1 0 := by
    rw [upd2_n (by decide), upd2_n (by decide), upd2_n (by decide), upd2_s, upd2_n (by decide), upd2_n (by decide)]
  have e101 : upd2 (upd2 (upd2 (upd2 (upd2 (upd2 D 97 10 0) 99 1 0) 100 1 0) 101 3 12) 101 4 5) 101 5 14 101 = upd (upd (upd (D 101) 3 12) 4 5) 5 14 := by
    rw [upd2_s, upd2_s, upd2_s, upd2_n (by decide), upd2_n (by decide), upd2_n (by decide)]
  refine ⟨((((FrA.u10.m.tr (FrM.up (by decide))).tr (FrM.up (by decide))).tr (FrM.up (by decide))).tr (FrM.up (by decide))).tr (FrM.up (by decide)), ?_, ?_, ?_⟩
  · unfold DRm
    rw [e99, e100, e101]
    exact ⟨rfl, rfl, rfl, rfl, rfl, fun p hp => absurd hp (Nat.not_lt_zero p), fun t ht => absurd ht (Nat.not_lt_zero t)⟩
  · rw [e97, upd_s]
  · rw [e97, upd_n (by decide)]
theorem M_read_ok (hP : PB P) (hn : 117 ≤ nx) (hN : 500 ≤ N) (hT : TXm D m v) : OkP (fun z => FrM D z.2 ∧ match (rdAll m v 200 0 dr0).1 with | none => z.1 = (-4 : Int32) ∧ DRm z.2 (rdAll m v 200 0 dr0).2 ∧ DOK (rdAll m v 200 0 dr0).2 | some p => z.1 = nI p ∧ p < m) (f_M_read N nx D P 97) := by
  have hm := hT.2.1
  unfold f_M_read
  refine ok_t (kd_at (by omega) rfl) (ok_pas (ok_bind (M_begin_ok hP hn) ?_))
  rintro E ⟨b1, b2, b3, b4⟩
  have hfr0 : FrM D E := FrA.u9.m.tr b1
  have h90 : E 97 9 = nI 0 := by rw [b4, upd2_s, upd_s]; rfl
  refine wk1_run (I := fun t F => FrM D F ∧ F 97 10 = 0 ∧ ∃ p e, t ≤ p ∧ p ≤ m ∧ F 97 9 = nI p ∧ DRm F e ∧ DOK e ∧ rdAll m v (200 - t) p e = rdAll m v 200 0 dr0) 200 N _ (by omega) ⟨hfr0, b3, 0, dr0, Nat.le_refl _, Nat.zero_le _, h90, b2, DOK.z, rfl⟩ ?_ ?_
  · rintro t ht F ⟨hfr, h10, p, e, htp, hpm, h9, hdr, hd, heq⟩ rec hrec
    have hTX := hT.frM hfr
    unfold f_M_read_9
    rw [hTX.1, h9]
    have e200 : 200 - t = (200 - (t + 1)) + 1 := by omega
    rw [e200] at heq
    by_cases q : m ≤ p
    · have : rdAll m v 200 0 dr0 = (none, e) := by
        rw [← heq]; unfold rdAll; rw [if_pos q]
      rw [this]
      exact ok_t (i2_ge q (by omega)) (ok_some ⟨hfr, rfl, hdr, hd⟩)
    · refine ok_f (i2_lt (by omega) (by omega)) (ok_bind (M_readItem_ok hP hn (by omega) hTX hdr hd h9 (by omega) h10) ?_)
      rintro G ⟨hG, hz⟩
      unfold rdAll at heq
      rw [if_neg q] at heq
      cases er : rdItem m v p e with
      | none =>
        rw [er] at heq hz
        have hz : G 97 10 = 1 := hz
        have heq : (some p, e) = rdAll m v 200 0 dr0 := heq
        rw [← heq, hz]
        exact ok_f (by decide) (ok_some ⟨hfr.tr hG, rfl, by omega⟩)
      | some x =>
        rw [er] at heq hz
        obtain ⟨hz1, hz2, hz3⟩ : G 97 10 = 0 ∧ G 97 9 = nI x.2 ∧ DRm G x.1 := hz
        have hx := rdItem_ok er hd
        refine ok_t hz1 ?_
        exact hrec _ ⟨hfr.tr hG, hz1, x.2, x.1, by omega, hx.2.2, hz2, hz3, hx.1, heq⟩
  · rintro F ⟨hfr, h10, p, e, htp, hpm, h9, hdr, hd, heq⟩ rec
    have hTX := hT.frM hfr
    unfold f_M_read_9
    rw [hTX.1, h9]
    have : rdAll m v 200 0 dr0 = (none, e) := by
      rw [← heq]; show rdAll m v 0 p e = _; unfold rdAll; rw [if_pos (by omega)]
    rw [this]
    exact ok_t (i2_ge (by omega) (by omega)) (ok_some ⟨hfr, rfl, hdr, hd⟩)
theorem MR.tx (h : MR D g) (ho : GOK g) : TXm D (gT g).1 (gT g).2 := ⟨h.2.2.1.1, ho.2.2.1.1, fun i hi => ⟨h.2.2.1.2 i hi, ho.2.2.1.2 i hi⟩⟩
theorem FrM.mr {E : Dt} (hf : FrM D E) (h : MR D g) (ho : GOK g) : MR E g ∧ Lo D E := by
  have hk := ho.1.2.2.1
  have hn5 := ho.1.2.1
  obtain ⟨⟨m1, m2, m3, m4, m5, m6, m7⟩, hs, t, p, k, n, m⟩ := h
  obtain ⟨f1, f2, f3, f4, f5, f6, f7⟩ := hf
  refine ⟨?_, fun q hq => f1 q (Or.inl hq)⟩
  unfold MR MF
  rw [f2 1 (by decide) (by decide), f2 13 (by decide) (by decide), f2 15 (by decide) (by decide), f2 22 (by decide) (by decide), f2 24 (by decide) (by decide), f1 98 (by decide), f1 106 (by decide), f1 107 (by decide), f1 108 (by decide), f1 112 (by decide), f1 113 (by decide), f1 114 (by decide), f1 115 (by decide)]
  exact ⟨⟨f3.trans m1, f4.trans m2, (f5 0 (by decide)).trans m3, (f5 1 (by decide)).trans m4, (f5 2 (by decide)).trans m5, fun q hq => (f6 q (by omega)).trans (m6 q hq), fun q hq => ⟨(f7 q (by omega)).1.trans (m7 q hq).1, (f7 q (by omega)).2.trans (m7 q hq).2⟩⟩, hs, t, p, k, n, m⟩
theorem M_fault_ok (hP : PB P) (h : MR D g) (ho : GOK g) (hn : 117 ≤ nx) (hN : 500 ≤ N) : OkP (fun z => z.1 = oFault g ∧ MR z.2 g ∧ Lo D z.2) (f_M_fault N nx D P 97) := by
  unfold f_M_fault oFault
  refine ok_t (kd_at (by omega) rfl) (ok_bind (M_read_ok hP hn hN (h.tx ho)) ?_)
  rintro ⟨z, E⟩ ⟨hfr, hz⟩
  have hfr : FrM D E := hfr
  refine ok_some ⟨?_, hfr.mr h ho⟩
  cases e : (rdAll (gT g).1 (gT g).2 200 0 dr0).1 with
  | none => rw [e] at hz; exact hz.1
  | some p => rw [e] at hz; exact hz.1
theorem M_takeDraft_ok (hP : PB P) (hn : 117 ≤ nx) (hN : 100 ≤ N) (hd : DRm D d) (hdo : DOK d) : OkP (fun E => MF E d.1 ∧ RStd (E 106) 0 (iniS d.1 d.2) ∧ (E 97 13 = 0 ∧ E 97 15 = 0 ∧ E 97 22 = 0 ∧ E 97 24 = 0) ∧ (∀ k, k ≠ 13 → k ≠ 15 → k ≠ 22 → k ≠ 24 → E 97 k = D 97 k) ∧ (∀ q, q < 97 ∨ q = 98 ∨ 106 < q → E q = D q)) (f_M_takeDraft N nx D P 97) := by
  have hn5 := hdo.1
  have hk8 := hdo.2.1
  obtain ⟨d1, d2, d3, d4, d5, d6, d7⟩ := hd
  have ab2 : ∀ a, a = 99 ∨ a = 100 → ∀ j, j < 2 → ab nx a 3 (nI j) = true := by
    rintro a (rfl | rfl) j hj
    · exact ab_ok (t := 3) (N := 2) (kd_at (by omega) rfl) hj (by decide)
    · exact ab_ok (t := 3) (N := 2) (kd_at (by omega) rfl) hj (by decide)
  have ab6 : ∀ j, j < 6 → ab nx 101 3 (nI j) = true := fun j hj => ab_ok (t := 3) (N := 6) (kd_at (by omega) rfl) hj (by decide)
  have ab10 : ∀ j, j < 10 → ab nx 102 3 (nI j) = true := fun j hj => ab_ok (t := 3) (N := 10) (kd_at (by omega) rfl) hj (by decide)
  have ab16 : ∀ a, a = 103 ∨ a = 104 ∨ a = 105 → ∀ j, j < 16 → ab nx a 3 (nI j) = true := by
    rintro a (rfl | rfl | rfl) j hj
    · exact ab_ok (t := 3) (N := 16) (kd_at (by omega) rfl) hj (by decide)
    · exact ab_ok (t := 3) (N := 16) (kd_at (by omega) rfl) hj (by decide)
    · exact ab_ok (t := 3) (N := 16) (kd_at (by omega) rfl) hj (by decide)
  have ab18 : ∀ j, j < 18 → ab nx 106 3 (nI j) = true := fun j hj => ab_ok (t := 3) (N := 18) (kd_at (by omega) rfl) hj (by decide)
  have hP2 : P 97 2 = some 99 := hP.at (by decide) rfl
  have hP3 : P 97 3 = some 100 := hP.at (by decide) rfl
  have hP4 : P 97 4 = some 101 := hP.at (by decide) rfl
  have hP5 : P 97 5 = some 102 := hP.at (by decide) rfl
  have hP6 : P 97 6 = some 103 := hP.at (by decide) rfl
  have hP7 : P 97 7 = some 104 := hP.at (by decide) rfl
  have hP8 : P 97 8 = some 105 := hP.at (by decide) rfl
  have hP11 : P 97 11 = some 106 := hP.at (by decide) rfl
  have ini_p : ∀ t, t < fK d.1 → sP (iniS d.1 d.2) t = fO d.1 t := fun t ht => if_pos ht
  have ini_z : ∀ t, t < fK d.1 → sZ (iniS d.1 d.2) t = d.2 t := fun t ht => if_pos ht
  have ini_p2 : ∀ t, ¬ t < fK d.1 → sP (iniS d.1 d.2) t = 8 := fun t ht => if_neg ht
  have ini_z2 : ∀ t, ¬ t < fK d.1 → sZ (iniS d.1 d.2) t = 0 := fun t ht => if_neg ht
  unfold f_M_takeDraft
  refine ok_t (kd_at (by omega) rfl) (ok_nn hP2 (ok_t (ab2 99 (by decide) 1 (by decide)) (ok_t (ab2 99 (by decide) 0 (by decide)) (ok_pas (ok_nn hP3 (ok_t (ab2 100 (by decide) 1 (by decide)) (ok_t (ab2 100 (by decide) 0 (by decide)) (ok_pas ?_))))))))
  have x1 : ∀ q, q ≠ 99 → q ≠ 100 → upd2 (upd2 D 99 0 (D 99 1)) 100 0 (upd2 D 99 0 (D 99 1) 100 1) q = D q := fun q a b => by rw [upd2_n b, upd2_n a]
  have x2 : upd2 (upd2 D 99 0 (D 99 1)) 100 0 (upd2 D 99 0 (D 99 1) 100 1) 99 0 = nI (fN d.1) := by
    rw [upd2_n (by decide), upd2_s, upd_s, d1]
  have x3 : upd2 (upd2 D 99 0 (D 99 1)) 100 0 (upd2 D 99 0 (D 99 1) 100 1) 100 0 = nI (fK d.1) := by
    rw [upd2_s, upd_s, upd2_n (by decide), d2]
  show OkP _ (wk2 N (f_M_takeDraft_26 N nx P 97) (upd2 (upd2 D 99 0 (D 99 1)) 100 0 (upd2 D 99 0 (D 99 1) 100 1)) 0)
  revert x1 x2 x3
  generalize upd2 (upd2 D 99 0 (D 99 1)) 100 0 (upd2 D 99 0 (D 99 1) 100 1) = D6
  intro x1 x2 x3
  refine wk2_run (I := fun t E i => i = nI t ∧ (∀ q, q ≠ 101 → E q = D6 q) ∧ (∀ k, k < t → E 101 k = D 101 (3 + k)) ∧ (∀ k, 3 ≤ k → E 101 k = D 101 k)) 3 N _ _ (by omega) ⟨rfl, fun _ _ => rfl, fun k hk => absurd hk (Nat.not_lt_zero k), fun k _ => by rw [x1 101 (by decide) (by decide)]⟩ ?_ ?_
  · rintro t ht E i ⟨rfl, y1, y2, y3⟩ rec hrec
    unfold f_M_takeDraft_26
    rw [show (3 : Int32) + nI t = nI (3 + t) from nI_add 3 t, nI_1]
    refine ok_f (by rw [lit 3, nI_le' (by decide) (by omega)]; omega) (ok_nn hP4 (ok_t (ab6 _ (by omega)) (ok_t (ab6 _ (by omega)) (ok_pas ?_))))
    rw [cl (n := 3 + t) (by omega), cl (n := t) (by omega), y3 (3 + t) (by omega)]
    refine hrec _ _ ⟨rfl, fun q a => by rw [upd2_n a]; exact y1 q a, fun k hk => ?_, fun k hk => by rw [upd2_s, upd_n (by omega)]; exact y3 k hk⟩
    rw [upd2_s]
    by_cases c : k = t
    · rw [c, upd_s]
    · rw [upd_n c]; exact y2 k (by omega)
  · rintro D7 i ⟨rfl, y1, y2, y3⟩ rec
    unfold f_M_takeDraft_26
    refine ok_t (by decide) ?_
    refine wk2_run (I := fun t E i => i = nI t ∧ (∀ q, q ≠ 102 → E q = D7 q) ∧ (∀ k, k < t → E 102 k = D 102 (5 + k)) ∧ (∀ k, 5 ≤ k → E 102 k = D 102 k)) 5 N _ _ (by omega) ⟨rfl, fun _ _ => rfl, fun k hk => absurd hk (Nat.not_lt_zero k), fun k _ => by rw [y1 102 (by decide), x1 102 (by decide) (by decide)]⟩ ?_ ?_
    · rintro t ht E i ⟨rfl, z1, z2, z3⟩ rec hrec
      unfold f_M_takeDraft_53
      rw [show (5 : Int32) + nI t = nI (5 + t) from nI_add 5 t, nI_1]
      refine ok_f (by rw [lit 5, nI_le' (by decide) (by omega)]; omega) (ok_nn hP5 (ok_t (ab10 _ (by omega)) (ok_t (ab10 _ (by omega)) (ok_pas ?_))))
      rw [cl (n := 5 + t) (by omega), cl (n := t) (by omega), z3 (5 + t) (by omega)]
      refine hrec _ _ ⟨rfl, fun q a => by rw [upd2_n a]; exact z1 q a, fun k hk => ?_, fun k hk => by rw [upd2_s, upd_n (by omega)]; exact z3 k hk⟩
      rw [upd2_s]
      by_cases c : k = t
      · rw [c, upd_s]
      · rw [upd_n c]; exact z2 k (by omega)
    · rintro D8 i ⟨rfl, z1, z2, z3⟩ rec
      have e8 : ∀ q, q ≠ 99 → q ≠ 100 → q ≠ 101 → q ≠ 102 → D8 q = D q := fun q a b c e => by rw [z1 q e, y1 q c, x1 q a b]
      unfold f_M_takeDraft_53
      refine ok_t (by decide) (ok_nn hP11 (ok_t (ab18 0 (by decide)) (ok_pas (ok_t (ab18 1 (by decide)) (ok_pas ?_)))))
      show OkP _ (wk2 N (f_M_takeDraft_94 N nx P 97) (upd2 (upd2 D8 106 0 0) 106 1 0) 0)
      have w1 : ∀ q, q ≠ 106 → upd2 (upd2 D8 106 0 0) 106 1 0 q = D8 q := fun q a => by rw [upd2_n a, upd2_n a]
      have w2 : upd2 (upd2 D8 106 0 0) 106 1 0 106 0 = 0 := by rw [upd2_s, upd_n (by decide), upd2_s, upd_s]
      have w3 : upd2 (upd2 D8 106 0 0) 106 1 0 106 1 = 0 := by rw [upd2_s, upd_s]
      revert w1 w2 w3
      generalize upd2 (upd2 D8 106 0 0) 106 1 0 = D9
      intro w1 w2 w3
      refine wk2_run (I := fun t E i => i = nI t ∧ (∀ q, q ≠ 103 → q ≠ 104 → q ≠ 106 → E q = D9 q) ∧ (∀ k, k < t → E 103 k = D 103 (8 + k) ∧ E 104 k = D 104 (8 + k)) ∧ (∀ k, 8 ≤ k → E 103 k = D 103 k ∧ E 104 k = D 104 k) ∧ E 106 0 = 0 ∧ E 106 1 = 0 ∧ (∀ k, k < t → E 106 (2 + k) = nI (mp (sP (iniS d.1 d.2) k)) ∧ E 106 (10 + k) = nI (sZ (iniS d.1 d.2) k))) 8 N _ _ (by omega) ⟨rfl, fun _ _ _ _ => rfl, fun k hk => absurd hk (Nat.not_lt_zero k), fun k _ => ⟨by rw [w1 103 (by decide), e8 103 (by decide) (by decide) (by decide) (by decide)], by rw [w1 104 (by decide), e8 104 (by decide) (by decide) (by decide) (by decide)]⟩, w2, w3, fun k hk => absurd hk (Nat.not_lt_zero k)⟩ ?_ ?_
      · rintro t ht E i ⟨rfl, u1, u2, u3, u4, u5, u6⟩ rec hrec
        have e100 : ∀ F : Dt, (∀ q, q ≠ 103 → q ≠ 104 → q ≠ 106 → F q = E q) → F 100 (0 : Int32).toNatClampNeg = nI (fK d.1) := fun F hF => by
          show F 100 0 = _
          rw [hF 100 (by decide) (by decide) (by decide), u1 100 (by decide) (by decide) (by decide), w1 100 (by decide), z1 100 (by decide), y1 100 (by decide)]
          exact x3
        have e105 : ∀ F : Dt, (∀ q, q ≠ 103 → q ≠ 104 → q ≠ 106 → F q = E q) → F 105 = D 105 := fun F hF => by
          rw [hF 105 (by decide) (by decide) (by decide), u1 105 (by decide) (by decide) (by decide), w1 105 (by decide), e8 105 (by decide) (by decide) (by decide) (by decide)]
        unfold f_M_takeDraft_94
        rw [show (8 : Int32) + nI t = nI (8 + t) from nI_add 8 t, ix2]
        refine ok_f (le8 ht) (ok_nn hP6 (ok_t (ab16 103 (by decide) _ (by omega)) (ok_t (ab16 103 (by decide) _ (by omega)) (ok_pas (ok_nn hP7 (ok_t (ab16 104 (by decide) _ (by omega)) (ok_t (ab16 104 (by decide) _ (by omega)) (ok_pas (ok_nn hP11 (ok_nn hP3 (ok_t (ab2 100 (by decide) 0 (by decide)) ?_)))))))))))
        rw [cl (n := 8 + t) (by omega), cl (n := t) (by omega), upd2_n (show 104 ≠ 103 by decide), (u3 (8 + t) (by omega)).1, (u3 (8 + t) (by omega)).2]
        have v1 : ∀ q, q ≠ 103 → q ≠ 104 → q ≠ 106 → upd2 (upd2 E 103 t (D 103 (8 + t))) 104 t (D 104 (8 + t)) q = E q := fun q a b _ => by rw [upd2_n b, upd2_n a]
        have v2 : upd2 (upd2 E 103 t (D 103 (8 + t))) 104 t (D 104 (8 + t)) 103 = upd (E 103) t (D 103 (8 + t)) := by rw [upd2_n (by decide), upd2_s]
        have v3 : upd2 (upd2 E 103 t (D 103 (8 + t))) 104 t (D 104 (8 + t)) 104 = upd (E 104) t (D 104 (8 + t)) := by rw [upd2_s, upd2_n (by decide)]
        have v4 : upd2 (upd2 E 103 t (D 103 (8 + t))) 104 t (D 104 (8 + t)) 106 = E 106 := by rw [upd2_n (by decide), upd2_n (by decide)]
        revert v1 v2 v3 v4
        generalize upd2 (upd2 E 103 t (D 103 (8 + t))) 104 t (D 104 (8 + t)) = F
        intro v1 v2 v3 v4
        rw [e100 F v1]
        have fin : ∀ (s2 z : Int32), s2 = nI (mp (sP (iniS d.1 d.2) t)) → z = nI (sZ (iniS d.1 d.2) t) → OkP (fun E => MF E d.1 ∧ RStd (E 106) 0 (iniS d.1 d.2) ∧ (E 97 13 = 0 ∧ E 97 15 = 0 ∧ E 97 22 = 0 ∧ E 97 24 = 0) ∧ (∀ k, k ≠ 13 → k ≠ 15 → k ≠ 22 → k ≠ 24 → E 97 k = D 97 k) ∧ (∀ q, q < 97 ∨ q = 98 ∨ 106 < q → E q = D q)) (rec (upd2 (upd2 F 106 (2 + t) s2) 106 (10 + t) z) (nI t + 1)) := by
          rintro s2 z rfl rfl
          rw [nI_1]
          have e106 : upd2 (upd2 F 106 (2 + t) (nI (mp (sP (iniS d.1 d.2) t)))) 106 (10 + t) (nI (sZ (iniS d.1 d.2) t)) 106 = upd (upd (E 106) (2 + t) (nI (mp (sP (iniS d.1 d.2) t)))) (10 + t) (nI (sZ (iniS d.1 d.2) t)) := by rw [upd2_s, upd2_s, v4]
          have eo : ∀ q, q ≠ 106 → upd2 (upd2 F 106 (2 + t) (nI (mp (sP (iniS d.1 d.2) t)))) 106 (10 + t) (nI (sZ (iniS d.1 d.2) t)) q = F q := fun q a => by rw [upd2_n a, upd2_n a]
          refine hrec _ _ ⟨rfl, fun q a b c => by rw [eo q c, v1 q a b c]; exact u1 q a b c, fun k hk => ?_, fun k hk => ?_, ?_, ?_, fun k hk => ?_⟩
          · rw [eo 103 (by decide), eo 104 (by decide), v2, v3]
            by_cases c : k = t
            · rw [c, upd_s, upd_s]; exact ⟨rfl, rfl⟩
            · rw [upd_n c, upd_n c]; exact u2 k (by omega)
          · rw [eo 103 (by decide), eo 104 (by decide), v2, v3, upd_n (by omega), upd_n (by omega)]; exact u3 k hk
          · rw [e106, upd_n (by omega), upd_n (by omega)]; exact u4
          · rw [e106, upd_n (by omega), upd_n (by omega)]; exact u5
          · rw [e106]
            by_cases c : k = t
            · rw [c, upd_n (by omega), upd_s, upd_s]; exact ⟨rfl, rfl⟩
            · rw [upd_n (by omega), upd_n (by omega), upd_n (by omega), upd_n (by omega)]; exact u6 k (by omega)
        unfold f_M_takeDraft_158
        by_cases c : t < fK d.1
        · have hO := (hdo.2.2.2.2.2.2 t c).1
          refine ok_f (i2_lt c (by omega)) (ok_t (ab16 103 (by decide) _ (by omega)) (ok_t (ab18 _ (by omega)) (ok_pas (ok_nn hP11 (ok_nn hP3 (ok_t (ab2 100 (by decide) 0 (by decide)) ?_))))))
          rw [cl (n := 2 + t) (by omega), ix10, upd2_n (show 100 ≠ 106 by decide), e100 F v1, show (8 : Int32) + nI t = nI (8 + t) from nI_add 8 t]
          refine ok_f (i2_lt c (by omega)) (ok_nn hP8 (ok_t (ab16 105 (by decide) _ (by omega)) (ok_t (ab18 _ (by omega)) (ok_pas ?_))))
          rw [cl (n := 10 + t) (by omega), cl (n := 8 + t) (by omega), upd2_n (show 105 ≠ 106 by decide), e105 F v1, (d7 t c).2.2]
          refine fin _ _ ?_ (by rw [ini_z t c])
          rw [v2, upd_s, (d7 t c).1, ini_p t c, mp5 (by omega)]
        · refine ok_t (i2_ge (by omega) (by omega)) (ok_t (ab18 _ (by omega)) (ok_pas (ok_nn hP11 (ok_nn hP3 (ok_t (ab2 100 (by decide) 0 (by decide)) ?_)))))
          rw [cl (n := 2 + t) (by omega), ix10, upd2_n (show 100 ≠ 106 by decide), e100 F v1]
          refine ok_t (i2_ge (by omega) (by omega)) (ok_t (ab18 _ (by omega)) (ok_pas ?_))
          rw [cl (n := 10 + t) (by omega)]
          exact fin _ _ (by rw [ini_p2 t c]; rfl) (by rw [ini_z2 t c]; rfl)
      · rintro E i ⟨rfl, u1, u2, u3, u4, u5, u6⟩ rec
        have eE : ∀ q, q ≠ 103 → q ≠ 104 → q ≠ 106 → q ≠ 99 → q ≠ 100 → q ≠ 101 → q ≠ 102 → E q = D q := fun q a b c e f g h => by rw [u1 q a b c, w1 q c, e8 q e f g h]
        have e99 : E 99 = D6 99 := by rw [u1 99 (by decide) (by decide) (by decide), w1 99 (by decide), z1 99 (by decide), y1 99 (by decide)]
        have e100 : E 100 = D6 100 := by rw [u1 100 (by decide) (by decide) (by decide), w1 100 (by decide), z1 100 (by decide), y1 100 (by decide)]
        have e101 : E 101 = D7 101 := by rw [u1 101 (by decide) (by decide) (by decide), w1 101 (by decide), z1 101 (by decide)]
        have e102 : E 102 = D8 102 := by rw [u1 102 (by decide) (by decide) (by decide), w1 102 (by decide)]
        unfold f_M_takeDraft_94
        refine ok_t (by decide) (ok_pas (ok_pas (ok_pas (ok_pas (ok_some ?_)))))
        have n1 : ∀ q, q ≠ 97 → upd2 (upd2 (upd2 (upd2 E 97 13 0) 97 15 0) 97 22 0) 97 24 0 q = E q := fun q a => by rw [upd2_n a, upd2_n a, upd2_n a, upd2_n a]
        have n2 : upd2 (upd2 (upd2 (upd2 E 97 13 0) 97 15 0) 97 22 0) 97 24 0 97 = upd (upd (upd (upd (E 97) 13 0) 15 0) 22 0) 24 0 := by rw [upd2_s, upd2_s, upd2_s, upd2_s]
        refine ⟨?_, ?_, ?_, fun k a b c e => ?_, fun q hq => ?_⟩
        · unfold MF
          rw [n1 99 (by decide), n1 100 (by decide), n1 101 (by decide), n1 102 (by decide), n1 103 (by decide), n1 104 (by decide), e99, e100, e101, e102]
          refine ⟨x2, x3, (y2 0 (by decide)).trans d3, (y2 1 (by decide)).trans d4, (y2 2 (by decide)).trans d5, fun p hp => (z2 p (by omega)).trans (d6 p hp), fun t ht => ?_⟩
          obtain ⟨a, b⟩ := u2 t (by omega)
          exact ⟨a.trans (d7 t ht).1, b.trans (d7 t ht).2.1⟩
        · rw [n1 106 (by decide)]
          intro j hj
          rw [Nat.zero_add]
          rcases (show j = 0 ∨ j = 1 ∨ (∃ t, t < 8 ∧ j = 2 + t) ∨ (∃ t, t < 8 ∧ j = 10 + t) by
            rcases Nat.lt_or_ge j 2 with c | c
            · omega
            · rcases Nat.lt_or_ge j 10 with e | e
              · exact Or.inr (Or.inr (Or.inl ⟨j - 2, by omega, by omega⟩))
              · exact Or.inr (Or.inr (Or.inr ⟨j - 10, by omega, by omega⟩))) with rfl | rfl | ⟨t, ht, rfl⟩ | ⟨t, ht, rfl⟩
          · rw [u4]; rfl
          · rw [u5]; rfl
          · rw [(u6 t ht).1, st18_p ht]
          · rw [(u6 t ht).2, st18_z]
        · rw [n2]
          exact ⟨by rw [upd_n (by decide), upd_n (by decide), upd_n (by decide), upd_s], by rw [upd_n (by decide), upd_n (by decide), upd_s], by rw [upd_n (by decide), upd_s], by rw [upd_s]⟩
        · show upd2 (upd2 (upd2 (upd2 E 97 13 0) 97 15 0) 97 22 0) 97 24 0 97 k = _
          rw [n2, upd_n e, upd_n c, upd_n b, upd_n a, eE 97 (by decide) (by decide) (by decide) (by decide) (by decide) (by decide) (by decide)]
        · show upd2 (upd2 (upd2 (upd2 E 97 13 0) 97 15 0) 97 22 0) 97 24 0 q = _
          rw [n1 q (by omega), eE q (by omega) (by omega) (by omega) (by omega) (by omega) (by omega) (by omega)]
theorem M_lay_ok (hP : PB P) (h : MR D g) (ho : GOK g) (hn : 117 ≤ nx) (hN : 500 ≤ N) : OkP (fun z => z.1 = (oLay g).1 ∧ MR z.2 (oLay g).2 ∧ Lo D z.2) (f_M_lay N nx D P 97) := by
  have hm := ho.2.2.1.1
  have ab1 : ab nx 99 3 1 = true := ab_ok (t := 3) (N := 2) (kd_at (by omega) rfl) (n := 1) (by decide) (by decide)
  have ab0 : ab nx 99 3 0 = true := ab_ok (t := 3) (N := 2) (kd_at (by omega) rfl) (n := 0) (by decide) (by decide)
  unfold f_M_lay oLay
  refine ok_t (kd_at (by omega) rfl) (ok_bind (M_read_ok hP hn hN (h.tx ho)) ?_)
  rintro ⟨z, E⟩ ⟨hfr, hz⟩
  have hfr : FrM D E := hfr
  have hE := hfr.mr h ho
  show OkP _ (if z = -4 then _ else _)
  generalize rdAll (gT g).1 (gT g).2 200 0 dr0 = r at hz
  cases e : r.1 with
  | some p =>
    rw [e] at hz
    obtain ⟨hz1, hz2⟩ : z = nI p ∧ p < (gT g).1 := hz
    rw [if_neg (fun c => by cases c.1)]
    have hne : ∀ u : Nat, u < 256 → ¬ nI u = (-4 : Int32) := by decide +kernel
    exact ok_f (by rw [hz1]; exact hne p (by omega)) (ok_some ⟨rfl, hE⟩)
  | none =>
    rw [e] at hz
    obtain ⟨hz1, hz2, hz3⟩ : z = -4 ∧ DRm E r.2 ∧ DOK r.2 := hz
    have hn5 := hz3.1
    refine ok_t hz1 (ok_nn (hP.at (by decide) (show P0 97 2 = some 99 from rfl)) (ok_t ab1 ?_))
    show OkP _ (if E 99 1 = 0 then _ else _)
    rw [hz2.1]
    by_cases c : fN r.2.1 = 0
    · rw [if_neg (fun k => by have := k.2; omega)]
      exact ok_t (by rw [c]; rfl) (ok_some ⟨rfl, hE⟩)
    · rw [if_pos ⟨rfl, by omega⟩]
      refine ok_f (by rw [lit 0, nI_inj (by omega) (by decide)]; exact c) (ok_bind (M_takeDraft_ok hP hn (by omega) hz2 hz3) ?_)
      rintro F ⟨f1, f2, ⟨f3, f4, f5, f6⟩, f7, f8⟩
      have f7 : ∀ k, k ≠ 13 → k ≠ 15 → k ≠ 22 → k ≠ 24 → F 97 k = E 97 k := f7
      have f8 : ∀ q, q < 97 ∨ q = 98 ∨ 106 < q → F q = E q := f8
      refine ok_t ab0 (ok_some ⟨f1.1, ?_, fun q hq => by
        show F q = D q
        rw [f8 q (by omega), hE.2 q hq]⟩)
      obtain ⟨-, -, t, p, k, n, m⟩ := hE.1
      have no : ∀ {A : Nat → Prop}, ∀ i, i < 0 → A i := fun i hi => absurd hi (Nat.not_lt_zero i)
      refine ⟨f1, f2, ⟨(f7 1 (by decide) (by decide) (by decide) (by decide)).trans t.1, ?_⟩, ⟨f3, fun i hi => absurd hi (Nat.not_lt_zero i)⟩, ⟨f4, fun i hi => absurd hi (Nat.not_lt_zero i)⟩, ⟨f5, fun i hi => absurd hi (Nat.not_lt_zero i)⟩, f6, fun i hi => absurd hi (Nat.not_lt_zero i)⟩
      show ∀ i, i < (gT g).1 → F 98 i = nI ((gT g).2 i)
      rw [f8 98 (by decide)]; exact t.2
end MV
