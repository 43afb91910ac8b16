/-! the family laid; what is seen -/
def oLay (g : Gs) : Int32 × Gs := if (rdAll (gT g).1 (gT g).2 200 0 dr0).1 = none ∧ 1 ≤ fN (rdAll (gT g).1 (gT g).2 200 0 dr0).2.1 then (nI (fN (rdAll (gT g).1 (gT g).2 200 0 dr0).2.1), ((rdAll (gT g).1 (gT g).2 200 0 dr0).2.1, iniS (rdAll (gT g).1 (gT g).2 200 0 dr0).2.1 (rdAll (gT g).1 (gT g).2 200 0 dr0).2.2, gT g, (0, (gP g).2), (0, (gK g).2), (0, (gN g).2), (0, (gM g).2))) else (-2, g)
def Fr5 (D E : Dt) : Prop := ∀ q, q < 4 ∨ 8 < q → E q = D q
section OD
variable {N nx : Nat} {D : Dt} {P : Ft} {g : Gs} {d : Dr}
theorem famCopy_ok (hP : PB P) (hn : 97 ≤ nx) (h : DR D 9 d) (hd : DOK d) (hN : 100 ≤ N) : OkP (fun E => DR E 4 d ∧ Fr5 D E) (f_F_copyFrom N nx D P 4 9) := by
  obtain ⟨k0, k1, k2, k3, k4, p0, p1, p2, p3⟩ := FaA.of4 (nx := nx) hP hn
  obtain ⟨m0, m1, m2, m3, m4, q0, q1, q2, q3⟩ := FaA.of9 (nx := nx) hP hn
  have hn5 := hd.1
  have hk8 := hd.2.1
  obtain ⟨⟨h4, h5, h6, h7, h8, hp, ht⟩, hl⟩ := h
  unfold f_F_copyFrom
  refine ok_t k0 (ok_t m0 (ok_pas (ok_pas (ok_pas (ok_pas (ok_pas ?_))))))
  have hz9 : ∀ (E : Dt) (k : Nat) (v : Int32), upd2 E 4 k v 9 = E 9 := fun E k v => upd2_n (by decide)
  simp only [hz9, h4, h5, h6, h7, h8]
  have hx : upd2 (upd2 (upd2 (upd2 (upd2 D 4 4 (nI (fN d.1))) 4 5 (nI (fK d.1))) 4 6 (nI (fR d.1))) 4 7 (nI (fD d.1))) 4 8 (nI (fQ d.1)) 4 = upd (upd (upd (upd (upd (D 4) 4 (nI (fN d.1))) 5 (nI (fK d.1))) 6 (nI (fR d.1))) 7 (nI (fD d.1))) 8 (nI (fQ d.1)) := by
    rw [upd2_s, upd2_s, upd2_s, upd2_s, upd2_s]
  have hy : ∀ q, q ≠ 4 → upd2 (upd2 (upd2 (upd2 (upd2 D 4 4 (nI (fN d.1))) 4 5 (nI (fK d.1))) 4 6 (nI (fR d.1))) 4 7 (nI (fD d.1))) 4 8 (nI (fQ d.1)) q = D q := fun q hq => by
    rw [upd2_n hq, upd2_n hq, upd2_n hq, upd2_n hq, upd2_n hq]
  refine wk2_run (I := fun t E i => i = nI t ∧ E 4 = upd (upd (upd (upd (upd (D 4) 4 (nI (fN d.1))) 5 (nI (fK d.1))) 6 (nI (fR d.1))) 7 (nI (fD d.1))) 8 (nI (fQ d.1)) ∧ (∀ j, j < t → E 5 j = D 10 j) ∧ Fr5 D E) 5 N _ _ (by omega) ⟨rfl, hx, fun j hj => absurd hj (Nat.not_lt_zero j), fun q hq => hy q (by omega)⟩ ?_ ?_
  · rintro t ht5 E i ⟨rfl, he4, he5, hfr⟩ rec hrec
    unfold f_F_copyFrom_42
    refine ok_f (le5 ht5) (ok_nn p0 (ok_t m0 (ok_nn q0 (ok_t (ab_ok m1 ht5 (by decide)) (ok_t (ab_ok k1 ht5 (by decide)) (ok_pas ?_))))))
    rw [cl (by omega), nI_1]
    refine hrec _ _ ⟨rfl, ?_, fun j hj => ?_, fun q hq => ?_⟩
    · rw [upd2_n (by decide)]; exact he4
    · rw [upd2_s]
      by_cases w : j = t
      · rw [w, upd_s, hfr (9 + 1) (by decide)]
      · rw [upd_n w]; exact he5 j (by omega)
    · rw [upd2_n (by omega)]; exact hfr q hq
  · rintro E i ⟨rfl, he4, he5, hfr⟩ rec
    unfold f_F_copyFrom_42
    refine ok_t (by decide) ?_
    refine wk2_run (I := fun t F i => i = nI t ∧ F 4 = E 4 ∧ F 5 = E 5 ∧ (∀ j, j < t → F 6 j = D 11 j ∧ F 7 j = D 12 j ∧ F 8 j = D 13 j) ∧ Fr5 D F) 8 N _ _ (by omega) ⟨rfl, rfl, rfl, fun j hj => absurd hj (Nat.not_lt_zero j), hfr⟩ ?_ ?_
    · rintro t ht8 F i ⟨rfl, hf4, hf5, hf6, hfr⟩ rec hrec
      unfold f_F_copyFrom_67
      refine ok_f (le8 ht8) (ok_nn p1 (ok_t m0 (ok_nn q1 (ok_t (ab_ok m2 ht8 (by decide)) (ok_t (ab_ok k2 ht8 (by decide)) (ok_pas (ok_nn p2 (ok_nn q2 (ok_t (ab_ok m3 ht8 (by decide)) (ok_t (ab_ok k3 ht8 (by decide)) (ok_pas (ok_nn p3 (ok_nn q3 (ok_t (ab_ok m4 ht8 (by decide)) (ok_t (ab_ok k4 ht8 (by decide)) (ok_pas ?_))))))))))))))))
      rw [cl (by omega), nI_1]
      refine hrec _ _ ⟨rfl, ?_, ?_, fun j hj => ?_, fun q hq => ?_⟩
      · rw [upd2_n (by decide), upd2_n (by decide), upd2_n (by decide)]; exact hf4
      · rw [upd2_n (by decide), upd2_n (by decide), upd2_n (by decide)]; exact hf5
      · rw [upd2_n (show 6 ≠ 4 + 4 by decide), upd2_n (show 6 ≠ 4 + 3 by decide), upd2_s, upd2_n (show 7 ≠ 4 + 4 by decide), upd2_s, upd2_n (show 9 + 3 ≠ 4 + 2 by decide), upd2_n (show 7 ≠ 4 + 2 by decide), upd2_s, upd2_n (show 9 + 4 ≠ 4 + 3 by decide), upd2_n (show 9 + 4 ≠ 4 + 2 by decide), upd2_n (show 8 ≠ 4 + 3 by decide), upd2_n (show 8 ≠ 4 + 2 by decide)]
        by_cases w : j = t
        · rw [w, upd_s, upd_s, upd_s, hfr (9 + 2) (by decide), hfr (9 + 3) (by decide), hfr (9 + 4) (by decide)]
          exact ⟨rfl, rfl, rfl⟩
        · rw [upd_n w, upd_n w, upd_n w]; exact hf6 j (by omega)
      · rw [upd2_n (by omega), upd2_n (by omega), upd2_n (by omega)]; exact hfr q hq
    · rintro F i ⟨rfl, hf4, hf5, hf6, hfr⟩ rec
      unfold f_F_copyFrom_67
      refine ok_t (by decide) (ok_some ⟨⟨⟨?_, ?_, ?_, ?_, ?_, fun p hp' => ?_, fun t ht' => ⟨?_, ?_⟩⟩, fun t ht' => ?_⟩, hfr⟩)
      · rw [hf4, he4]; rfl
      · rw [hf4, he4]; rfl
      · rw [hf4, he4]; rfl
      · rw [hf4, he4]; rfl
      · rw [hf4, he4]; rfl
      · rw [hf5, he5 p (by omega)]; exact hp p hp'
      · rw [(hf6 t (by omega)).1]; exact (ht t ht').1
      · rw [(hf6 t (by omega)).2.1]; exact (ht t ht').2
      · rw [(hf6 t (by omega)).2.2]; exact hl t ht'
theorem H_lay (h : CR D P g) (ho : GOK g) (hn : 97 ≤ nx) (hN : 500 ≤ N) : OkP (fun z => z.1 = (oLay g).1 ∧ CR z.2 P (oLay g).2 ∧ Hi D z.2) (f_H_lay N nx D P 0) := by
  have hA := ShA.of46 (nx := nx) h.1 hn
  have hA2 := ShA.of20 (nx := nx) h.1 hn
  have hsa := StA.of (nx := nx) (a := 14) h.1 hn (by decide)
  have hfa := FaA.of4 (nx := nx) h.1 hn
  have hfb := FaA.of9 (nx := nx) h.1 hn
  obtain ⟨hP, ht, hf, hs, hp, hk, hnr⟩ := id h
  unfold f_H_lay oLay
  refine ok_t (kd_at (by omega) rfl) (ok_nn (hP.at (by decide) (show P0 0 0 = some 1 from rfl)) (ok_nn (hP.at (by decide) (show P0 0 2 = some 9 from rfl)) (ok_t (kd_at (by omega) rfl) (ok_bind (readInto_ok hP hn (ht.tx ho) hN) ?_))))
  rintro ⟨z, E⟩ ⟨hfr, hz⟩
  have hfr : FrD D E := hfr
  cases e : rdAll (gT g).1 (gT g).2 200 0 dr0 with
  | mk r d =>
    rw [e] at hz
    cases r with
    | some p =>
      have hz : z = nI p ∧ p < (gT g).1 := hz
      have := ho.2.2.1.1
      have hne : ¬ z = -4 := by
        rw [hz.1]
        intro e4
        have h1 : nI 0 ≤ nI p := by rw [nI_le' (by decide) (by omega)]; exact Nat.zero_le _
        rw [e4] at h1
        exact absurd h1 (by decide)
      rw [if_neg (fun c => by cases c.1)]
      exact ok_f hne (ok_some ⟨rfl, hfr.cr h, hfr.hi⟩)
    | none =>
      obtain ⟨z4, hdr, hd⟩ : z = -4 ∧ DR E 9 d ∧ DOK d := hz
      have hn5 := hd.1
      refine ok_t z4 (ok_t hfb.1 ?_)
      show OkP _ (if 1 ≤ E 9 4 then _ else _)
      rw [hdr.1.1]
      by_cases q : 1 ≤ fN d.1
      · rw [if_pos ⟨rfl, q⟩]
        refine ok_t (by rw [lit 1, nI_le' (by decide) (by omega)]; exact q) (ok_nn (hP.at (by decide) (show P0 0 1 = some 4 from rfl)) (ok_t hfa.1 (ok_bind (famCopy_ok hP hn hdr hd (by omega)) (fun F hF => ?_))))
        have hF : DR F 4 d ∧ Fr5 E F := hF
        refine ok_nn (hP.at (by decide) (show P0 0 3 = some 14 from rfl)) (ok_t hsa.1 (ok_bind (begin_ok hsa hfa hF.1.1 (hd.fam q) (by decide) hF.1.2 (by omega)) (fun G hG => ?_)))
        have e1 : ∀ q, ¬ (q = 1 ∨ q = 3 ∨ (4 ≤ q ∧ q ≤ 16)) → G q = D q := fun q hq => by
          rw [hG.2 q (by omega) (by omega) (by omega), hF.2 q (by omega), hfr.1 q (by omega) (by omega) (by omega)]
        obtain ⟨G1, a1, a2, a3⟩ := S_clear (N := N) (D := G) hA2 (hp.nn (fun q a b => e1 q (by omega)))
        obtain ⟨G2, b1, b2, b3⟩ := S_clear (N := N) (D := G1) hA (hk.nn (fun q a b => (a2 q (by omega)).trans (e1 q (by omega))))
        obtain ⟨G3, c1, c2, c3, c4⟩ := N_clear (nx := nx) (N := N) (P := P) (D := G2) hn
        have e3 : ∀ q, q ≠ 20 → q ≠ 46 → q ≠ 54 → G3 q = G q := fun q a b c => by rw [c2 q c, b2 q b, a2 q a]
        refine ok_nn (hP.at (by decide) (show P0 0 5 = some 20 from rfl)) (ok_t hA2.1 (ok_call a1 (ok_nn (hP.at (by decide) (show P0 0 6 = some 46 from rfl)) (ok_t hA.1 (ok_call b1 (ok_nn (hP.at (by decide) (show P0 0 7 = some 54 from rfl)) (ok_t (kd_at (by omega) rfl) (ok_call c1 (ok_some ⟨?_, ⟨hP, ?_, ?_, ?_, ?_, ?_, ?_⟩, ?_⟩)))))))))
        · show G3 4 4 = _
          rw [e3 4 (by decide) (by decide) (by decide), hG.2 4 (by decide) (by decide) (by decide)]; exact hF.1.1.1
        · refine ⟨?_, ?_⟩
          · show G3 1 2 = _
            rw [e3 1 (by decide) (by decide) (by decide), hG.2 1 (by decide) (by decide) (by decide), hF.2 1 (by decide), hfr.2 2 (by decide)]; exact ht.1
          · show ∀ i, i < (gT g).1 → G3 2 i = _
            rw [e3 2 (by decide) (by decide) (by decide), e1 2 (by decide)]; exact ht.2
        · exact hF.1.1.nn ((e3 4 (by decide) (by decide) (by decide)).trans (hG.2 4 (by decide) (by decide) (by decide))) ((e3 5 (by decide) (by decide) (by decide)).trans (hG.2 5 (by decide) (by decide) (by decide))) ((e3 6 (by decide) (by decide) (by decide)).trans (hG.2 6 (by decide) (by decide) (by decide))) ((e3 7 (by decide) (by decide) (by decide)).trans (hG.2 7 (by decide) (by decide) (by decide)))
        · exact hG.1.at1 (e3 14 (by decide) (by decide) (by decide)) (e3 15 (by decide) (by decide) (by decide)) (e3 16 (by decide) (by decide) (by decide))
        · exact a3.nn (fun q h1 h2 => (c2 q (by omega)).trans (b2 q (by omega)))
        · exact b3.nn (fun q h1 h2 => c2 q (by omega))
        · exact ⟨c3, c4, fun i hi => absurd hi (Nat.not_lt_zero i), fun i hi => absurd hi (Nat.not_lt_zero i)⟩
        · intro q hq
          show G3 q = D q
          rw [e3 q (by omega) (by omega) (by omega), e1 q (by omega)]
      · rw [if_neg (fun c => q c.2)]
        exact ok_f (by rw [lit 1, nI_le' (by decide) (by omega)]; exact q) (ok_some ⟨rfl, hfr.cr h, hfr.hi⟩)
theorem H_see (h : CR D P g) (ho : GOK g) (hn : 97 ≤ nx) (x y w : Int32) : OkP (fun z => z.1 = (oSee g x y w).1 ∧ CR z.2 P (oSee g x y w).2 ∧ Hi D z.2) (f_H_see N nx D P 0 x y w) := by
  have hP := h.1
  have hf := ho.1
  have hk8 := hf.2.2.1
  have hm := ho.2.2.2.2.2.1.1
  have hfa := FaA.of4 (nx := nx) hP hn
  obtain ⟨n4, n5, n6, n7⟩ := h.2.2.2.2.2.2
  unfold f_H_see oSee
  refine ok_t (kd_at (by omega) rfl) (ok_nn (hP.at (by decide) (show P0 0 1 = some 4 from rfl)) (ok_t hfa.1 (ok_call (hasPin_i hfa h.2.2.1 hf x) ?_)))
  by_cases q : isT (gF g) x = true
  · have q' : ¬ x < 0 ∧ x < nI (fK (gF g)) := of_decide_eq_true q
    obtain ⟨t, rfl, ht⟩ := isT_up hf q
    rw [if_pos q]
    refine ok_f (by decide) ?_
    rcases isW (N := N) (nx := nx) (D := D) (P := P) (x := y) (a := 0) (b := 20) (by decide) (by decide) with ⟨r, n, rfl, hn1, hn2⟩ | ⟨r, hr⟩
    · refine ok_call r (ok_f (by decide) ?_)
      rcases isW (N := N) (nx := nx) (D := D) (P := P) (x := w) (a := 0) (b := 40) (by decide) (by decide) with ⟨r2, v, rfl, hv1, hv2⟩ | ⟨r2, hr2⟩
      · rw [if_pos ⟨q', in_nI hn1 hn2 (by decide), in_nI hv1 hv2 (by decide)⟩, cl (by omega), cl (by omega), cl (by omega)]
        refine ok_call r2 (ok_f (by decide) (ok_nn (hP.at (by decide) (show P0 0 7 = some 54 from rfl)) (ok_t (kd_at (by omega) rfl) ?_)))
        have e2 : f_H_isWithin N nx D P (D 54 4) 0 7 = some (if 0 ≤ (gN g).1 ∧ (gN g).1 ≤ 7 then 1 else 0) := by rw [n4]; exact isWithin_eq (a := 0) (b := 7) (by omega) (by decide) (by decide)
        by_cases z : (gN g).1 < 8
        · rw [if_pos z]
          have : f_N_addSeen N nx D P 54 (nI t) (nI n) (nI v) = some (1, upd2 (upd2 (upd2 (upd2 D 55 (gN g).1 (nI t)) 56 (gN g).1 (nI n)) 57 (gN g).1 (nI v)) 54 4 (nI ((gN g).1 + 1))) := by
            have ab : ∀ a, a = 55 ∨ a = 56 ∨ a = 57 → ab nx a 3 (nI (gN g).1) = true := by
              rintro a (rfl | rfl | rfl) <;> exact ab_ok (t := 3) (N := 8) (kd_at (by omega) rfl) (by omega) (by decide)
            unfold f_N_addSeen
            rw [if_pos (show kd nx 54 = 4 from kd_at (by omega) rfl), e2, if_pos (show 0 ≤ (gN g).1 ∧ (gN g).1 ≤ 7 by omega), bnd_some, if_neg (show ¬ (1 : Int32) = 0 by decide), hP.at (by decide) (show P0 54 0 = some 55 from rfl), nn_some, n4, if_pos (ab 55 (by decide)), cl (by omega), pas_eq, hP.at (by decide) (show P0 54 1 = some 56 from rfl), nn_some, upd2_n (show 54 ≠ 55 by decide), n4, if_pos (ab 56 (by decide)), cl (by omega), pas_eq, hP.at (by decide) (show P0 54 2 = some 57 from rfl), nn_some, upd2_n (show 54 ≠ 56 by decide), upd2_n (show 54 ≠ 55 by decide), n4, if_pos (ab 57 (by decide)), cl (by omega), pas_eq, upd2_n (show 54 ≠ 57 by decide), upd2_n (show 54 ≠ 56 by decide), upd2_n (show 54 ≠ 55 by decide), n4, nI_1, pas_eq]
          have hx : ∀ k, k ≠ 4 → upd2 (upd2 (upd2 (upd2 D 55 (gN g).1 (nI t)) 56 (gN g).1 (nI n)) 57 (gN g).1 (nI v)) 54 4 (nI ((gN g).1 + 1)) 54 k = D 54 k := fun k hk => by
            rw [upd2_s, upd_n hk, upd2_n (by decide), upd2_n (by decide), upd2_n (by decide)]
          have hx4 : upd2 (upd2 (upd2 (upd2 D 55 (gN g).1 (nI t)) 56 (gN g).1 (nI n)) 57 (gN g).1 (nI v)) 54 4 (nI ((gN g).1 + 1)) 54 4 = nI ((gN g).1 + 1) := by rw [upd2_s, upd_s]
          have hxn : ∀ q, q < 54 ∨ 57 < q → upd2 (upd2 (upd2 (upd2 D 55 (gN g).1 (nI t)) 56 (gN g).1 (nI n)) 57 (gN g).1 (nI v)) 54 4 (nI ((gN g).1 + 1)) q = D q := fun q hq => by
            rw [upd2_n (by omega), upd2_n (by omega), upd2_n (by omega), upd2_n (by omega)]
          refine ok_call this (ok_f (show ¬ (1 : Int32) = 0 by decide) (ok_some ⟨hx4, ?_, fun q hq => hxn q (by omega)⟩))
          refine h.nt (n := ((gN g).1 + 1, fun i => if i = (gN g).1 then (t, n, v) else (gN g).2 i)) (m := gM g) (fun q hq => hxn q (by omega)) ⟨hx4, (hx 5 (by decide)).trans n5, fun i hi => ?_, ?_⟩
          · have hi : i < (gN g).1 + 1 := hi
            show upd2 (upd2 (upd2 (upd2 D 55 (gN g).1 (nI t)) 56 (gN g).1 (nI n)) 57 (gN g).1 (nI v)) 54 4 (nI ((gN g).1 + 1)) 55 i = nI (if i = (gN g).1 then (t, n, v) else (gN g).2 i).1 ∧ upd2 (upd2 (upd2 (upd2 D 55 (gN g).1 (nI t)) 56 (gN g).1 (nI n)) 57 (gN g).1 (nI v)) 54 4 (nI ((gN g).1 + 1)) 56 i = nI (if i = (gN g).1 then (t, n, v) else (gN g).2 i).2.1 ∧ upd2 (upd2 (upd2 (upd2 D 55 (gN g).1 (nI t)) 56 (gN g).1 (nI n)) 57 (gN g).1 (nI v)) 54 4 (nI ((gN g).1 + 1)) 57 i = nI (if i = (gN g).1 then (t, n, v) else (gN g).2 i).2.2
            rw [upd2_n (show 55 ≠ 54 by decide), upd2_n (show 55 ≠ 57 by decide), upd2_n (show 55 ≠ 56 by decide), upd2_s, upd2_n (show 56 ≠ 54 by decide), upd2_n (show 56 ≠ 57 by decide), upd2_s, upd2_n (show 57 ≠ 54 by decide), upd2_s, upd2_n (show 56 ≠ 55 by decide), upd2_n (show 57 ≠ 56 by decide), upd2_n (show 57 ≠ 55 by decide)]
            by_cases c : i = (gN g).1
            · rw [if_pos c, c, upd_s, upd_s, upd_s]; exact ⟨rfl, rfl, rfl⟩
            · rw [if_neg c, upd_n c, upd_n c, upd_n c]; exact n6 i (by omega)
          · exact fun i hi => (congrFun (hxn 58 (by decide)) i).trans (n7 i hi)
        · rw [if_neg z]
          have : f_N_addSeen N nx D P 54 (nI t) (nI n) (nI v) = some (0, D) := by
            unfold f_N_addSeen
            rw [if_pos (show kd nx 54 = 4 from kd_at (by omega) rfl), e2, if_neg (show ¬ (0 ≤ (gN g).1 ∧ (gN g).1 ≤ 7) by omega)]
            rfl
          exact ok_call this (ok_t rfl (ok_some ⟨rfl, h, Hi.rf⟩))
      · rw [if_neg (fun c => hr2 c.2.2)]
        exact ok_call r2 (ok_t rfl (ok_some ⟨rfl, h, Hi.rf⟩))
    · rw [if_neg (fun c => hr c.2.1)]
      exact ok_call r (ok_t rfl (ok_some ⟨rfl, h, Hi.rf⟩))
  · rw [if_neg q, if_neg (fun c => q (decide_eq_true c.1))]
    exact ok_t rfl (ok_some ⟨rfl, h, Hi.rf⟩)
end OD
