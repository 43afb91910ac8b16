/-! the class: how all should be borne -/
theorem nodup_getD : ∀ (l : List Nat), l.Nodup → ∀ i j, i < l.length → j < l.length → l.getD i 0 = l.getD j 0 → i = j
  | [], _, i, _, hi, _, _ => absurd hi (Nat.not_lt_zero i)
  | a :: l, hd, i, j, hi, hj, e => by
    have hmem : ∀ k, k < l.length → l.getD k 0 ∈ l := fun k hk => by
      rw [List.getD_eq_getElem?_getD, List.getElem?_eq_getElem hk]
      exact List.getElem_mem hk
    have hn := (List.nodup_cons.mp hd).1
    rw [List.length_cons] at hi hj
    cases i with
    | zero =>
      cases j with
      | zero => rfl
      | succ j =>
        rw [List.getD_cons_zero, List.getD_cons_succ] at e
        exact absurd (by rw [e]; exact hmem j (by omega)) hn
    | succ i =>
      cases j with
      | zero =>
        rw [List.getD_cons_zero, List.getD_cons_succ] at e
        exact absurd (by rw [← e]; exact hmem i (by omega)) hn
      | succ j =>
        rw [List.getD_cons_succ, List.getD_cons_succ] at e
        rw [nodup_getD l (List.nodup_cons.mp hd).2 i j (by omega) (by omega) e]
theorem getD_mem {l : List Nat} {k : Nat} (hk : k < l.length) : l.getD k 0 ∈ l := by
  rw [List.getD_eq_getElem?_getD, List.getElem?_eq_getElem hk]
  exact List.getElem_mem hk
theorem mem_getD : ∀ {l : List Nat} {t : Nat}, t ∈ l → ∃ i, i < l.length ∧ l.getD i 0 = t
  | [], _, h => by cases h
  | a :: l, t, h => by
    rw [List.mem_cons] at h
    rcases h with rfl | h
    · exact ⟨0, by rw [List.length_cons]; omega, List.getD_cons_zero⟩
    · obtain ⟨i, h1, h2⟩ := mem_getD h
      exact ⟨i + 1, by rw [List.length_cons]; omega, by rw [List.getD_cons_succ]; exact h2⟩
theorem getD_mid : ∀ {p r : List Nat} {t : Nat}, (p ++ t :: r).getD p.length 0 = t
  | [], _, _ => List.getD_cons_zero
  | a :: p, r, t => by
    rw [List.cons_append, List.length_cons, List.getD_cons_succ]
    exact getD_mid
theorem getD_pre : ∀ {p r : List Nat} {i : Nat}, i < p.length → (p ++ r).getD i 0 = p.getD i 0
  | [], _, i, h => absurd h (Nat.not_lt_zero i)
  | a :: p, r, i, h => by
    rw [List.length_cons] at h
    rw [List.cons_append]
    cases i with
    | zero => rw [List.getD_cons_zero, List.getD_cons_zero]
    | succ i => rw [List.getD_cons_succ, List.getD_cons_succ]; exact getD_pre (by omega)
def FrZ (D E : Dt) : Prop := ∀ q, q < 62 ∨ 67 < q → E q = D q
theorem FrZ.tr {D E F : Dt} (h : FrZ D E) (k : FrZ E F) : FrZ D F := fun q a => (k q a).trans (h q a)
theorem FrZ.u {D : Dt} {a k : Nat} {x : Int32} (h : 62 ≤ a ∧ a ≤ 67) : FrZ D (upd2 D a k x) := fun q b => upd2_n (by omega)
/-- what is to be borne, and by how many -/
def ZC (D : Dt) (n : Nat) (z : Nat → Nat) (ps : List Nat) : Prop := D 62 5 = nI ps.length ∧ D 62 6 = nI n ∧ ∀ i, i < ps.length → D 63 i = nI (ps.getD i 0) ∧ D 64 i = nI (z (ps.getD i 0))
theorem ZC.nn {D E : Dt} {n : Nat} {z : Nat → Nat} {ps : List Nat} (h : ZC D n z ps) (h5 : E 62 5 = D 62 5) (h6 : E 62 6 = D 62 6) (h63 : E 63 = D 63) (h64 : E 64 = D 64) : ZC E n z ps := by
  unfold ZC
  rw [h5, h6, h63, h64]; exact h
section CZ
variable {N nx n : Nat} {D : Dt} {P : Ft} {g : Gs} {z : Nat → Nat} {ps : List Nat}
theorem zab (hn : 97 ≤ nx) : (∀ a, 63 ≤ a → a ≤ 66 → ∀ j, j < 8 → ab nx a 3 (nI j) = true) ∧ ∀ j, j < 5 → ab nx 67 3 (nI j) = true := by
  refine ⟨fun a h1 h2 j hj => ?_, fun j hj => ab_ok (t := 3) (N := 5) (kd_at (by omega) rfl) hj (by decide)⟩
  rcases (show a = 63 ∨ a = 64 ∨ a = 65 ∨ a = 66 by omega) with rfl | rfl | rfl | rfl
  · exact ab_ok (t := 3) (N := 8) (kd_at (by omega) rfl) hj (by decide)
  · exact ab_ok (t := 3) (N := 8) (kd_at (by omega) rfl) hj (by decide)
  · exact ab_ok (t := 3) (N := 8) (kd_at (by omega) rfl) hj (by decide)
  · exact ab_ok (t := 3) (N := 8) (kd_at (by omega) rfl) hj (by decide)
theorem like_ok (hP : PB P) (hn : 97 ≤ nx) (hN : 100 ≤ N) {L : Nat → Nat} {p : Nat} (hp : p < 5) (hl : ∀ q, q < 5 → D 67 q = nI (L q)) (hL : ∀ q, L q < 1000) : OkP (fun w => (w = 1 ∧ ∃ q, q < p ∧ L q = L p) ∨ (w = 0 ∧ ∀ q, q < p → L q ≠ L p)) (f_Z_isLikeEarlier N nx D P 62 (nI p)) := by
  unfold f_Z_isLikeEarlier
  refine ok_t (kd_at (by omega) rfl) ?_
  refine wk1_run (I := fun t i => i = nI t ∧ ∀ q, q < t → L q ≠ L p) p N _ (by omega) ⟨rfl, fun q hq => absurd hq (Nat.not_lt_zero q)⟩ ?_ ?_
  · rintro t ht i ⟨rfl, hI⟩ rec hrec
    have h1 := hL t
    have h2 := hL p
    unfold f_Z_isLikeEarlier_2
    refine ok_f (i2_lt ht (by omega)) (ok_f (le5 (by omega)) (ok_f (le5 hp) (ok_nn (hP.at (by decide) (show P0 62 4 = some 67 from rfl)) (ok_t ((zab hn).2 t (by omega)) (ok_t ((zab hn).2 p hp) ?_)))))
    rw [cl (n := t) (by omega), cl (n := p) (by omega), hl t (by omega), hl p hp, nI_1]
    refine ok_ite (fun c => ok_some (Or.inl ⟨rfl, t, ht, (nI_inj (by omega) (by omega)).mp c⟩)) (fun c => hrec _ ⟨rfl, fun q hq => ?_⟩)
    rcases Nat.lt_or_ge q t with w | w
    · exact hI q w
    · rw [show q = t by omega]; exact fun e => c (by rw [e])
  · rintro i ⟨rfl, hI⟩ rec
    unfold f_Z_isLikeEarlier_2
    exact ok_t (i2_ge (Nat.le_refl _) (by omega)) (ok_some (Or.inr ⟨rfl, hI⟩))
theorem keep_ok (hP : PB P) (hn : 97 ≤ nx) (hN : 100 ≤ N) (hc : ZC D n z ps) (h8 : ∀ t, t ∈ ps → t < 8) (hd : ps.Nodup) (hlen : ps.length ≤ 8) : OkP (fun E => FrO 66 D E ∧ (∀ i, i < ps.length → E 66 (ps.getD i 0) = D 65 i) ∧ ∀ t, ¬ t ∈ ps → E 66 t = D 66 t) (f_Z_keepTried N nx D P 62) := by
  obtain ⟨c1, c2, c3⟩ := hc
  unfold f_Z_keepTried
  refine ok_t (kd_at (by omega) rfl) ?_
  refine wk2_run (I := fun j E i => i = nI j ∧ FrO 66 D E ∧ (∀ i, i < j → E 66 (ps.getD i 0) = D 65 i) ∧ ∀ t, ¬ t ∈ ps → E 66 t = D 66 t) ps.length N _ _ (by omega) ⟨rfl, fun _ _ => rfl, fun i hi => absurd hi (Nat.not_lt_zero i), fun _ _ => rfl⟩ ?_ ?_
  · rintro j hj E i ⟨rfl, hfr, h1, h2⟩ rec hrec
    have hm := getD_mem hj
    have h7 := h8 _ hm
    unfold f_Z_keepTried_2
    rw [hfr 62 (by decide), c1, nI_1]
    refine ok_f (i2_lt hj (by omega)) (ok_f (le8 (by omega)) (ok_nn (hP.at (by decide) (show P0 62 0 = some 63 from rfl)) (ok_t ((zab hn).1 63 (by decide) (by decide) j (by omega)) ?_)))
    rw [cl (n := j) (by omega), hfr 63 (by decide), (c3 j hj).1]
    refine ok_f (nI_nneg (by omega)) (ok_f (le8 h7) (ok_nn (hP.at (by decide) (show P0 62 3 = some 66 from rfl)) (ok_nn (hP.at (by decide) (show P0 62 2 = some 65 from rfl)) (ok_t ((zab hn).1 65 (by decide) (by decide) j (by omega)) (ok_t ((zab hn).1 66 (by decide) (by decide) _ h7) (ok_pas ?_))))))
    rw [cl (n := ps.getD j 0) (by omega), hfr 65 (by decide)]
    refine hrec _ _ ⟨rfl, hfr.tr FrO.up, fun i hi => ?_, fun t ht => ?_⟩
    · rw [upd2_s]
      by_cases c : i = j
      · rw [c, upd_s]
      · rw [upd_n (fun e => c (nodup_getD ps hd i j (by omega) hj e))]; exact h1 i (by omega)
    · rw [upd2_s, upd_n (fun e => ht (by rw [e]; exact hm))]; exact h2 t ht
  · rintro E i ⟨rfl, hfr, h1, h2⟩ rec
    unfold f_Z_keepTried_2
    rw [hfr 62 (by decide), c1]
    exact ok_t (i2_ge (Nat.le_refl _) (by omega)) (ok_some ⟨hfr, h1, h2⟩)
/-- what goes through the ways has found -/
def TFP (n : Nat) (z : Nat → Nat) (ps rest : List Nat) (d : Nat) (L : Nat → Nat) (B : Nat) (D E : Dt) : Prop := FrZ D E ∧ ZC E n z ps ∧ (∀ p, p < 5 → E 67 p = nI (L p)) ∧ (∀ i, i < d → E 65 i = D 65 i) ∧ ((mn n z rest L < B ∧ E 62 7 = nI (mn n z rest L) ∧ (∀ i, i < ps.length → E 66 (ps.getD i 0) = if i < d then D 65 i else nI ((way n z rest L).getD (i - d) 0)) ∧ ∀ t, ¬ t ∈ ps → E 66 t = D 66 t) ∨ (B ≤ mn n z rest L ∧ E 62 7 = nI B ∧ E 66 = D 66))
theorem tf_ok (hP : PB P) (hn : 97 ≤ nx) (hN : 100 ≤ N) (hn1 : 1 ≤ n) (hn5 : n ≤ 5) (hz : ∀ t, z t ≤ 40) (h8 : ∀ t, t ∈ ps → t < 8) (hd : ps.Nodup) (hlen : ps.length ≤ 8) : ∀ (rest : List Nat) (dd : Nat) (pre : List Nat) (D : Dt) (L : Nat → Nat) (B : Nat), rest.length + 1 ≤ dd → pre ++ rest = ps → ZC D n z ps → (∀ p, p < 5 → D 67 p = nI (L p)) → (∀ p, L p + 40 * rest.length ≤ 320) → D 62 7 = nI B → B ≤ 321 → OkP (TFP n z ps rest pre.length L B D) (f_Z_tryFrom N nx dd D P 62 (nI pre.length) (nI (gl n L)))
  | [], 0, _, _, _, _, h, _, _, _, _, _, _ => by
    have : ([] : List Nat).length = 0 := rfl
    omega
  | t :: r, 0, _, _, _, _, h, _, _, _, _, _, _ => by omega
  | [], dd + 1, pre, D, L, B, _, hps, hc, hl, hL, hB, hB2 => by
    rw [List.append_nil] at hps
    subst hps
    have hgl : gl n L ≤ 320 := (gl_le n).mpr (fun p _ => by have := hL p; omega)
    show OkP _ (f_Z_tryFrom_b N nx (f_Z_tryFrom N nx dd) D P 62 (nI pre.length) (nI (gl n L)))
    unfold f_Z_tryFrom_b
    refine ok_t (kd_at (by omega) rfl) ?_
    rw [hB]
    refine ok_ite (fun e => ?_) (fun e => ok_some ⟨fun _ _ => rfl, hc, hl, fun _ _ => rfl, Or.inr ⟨?_, hB, rfl⟩⟩)
    · have e := (nI_lt' (by omega) (by omega)).mp e
      refine ok_f (nI_nneg (by omega)) (ok_t (by rw [hc.1]; exact i2_ge (Nat.le_refl _) (by omega)) ?_)
      unfold f_Z_tryFrom_27
      refine ok_t (kd_at (by omega) rfl) (ok_pas ?_)
      have c1 : ZC (upd2 D 62 7 (nI (gl n L))) n z pre := hc.nn (by rw [upd2_s, upd_n (by decide)]) (by rw [upd2_s, upd_n (by decide)]) (upd2_n (by decide)) (upd2_n (by decide))
      refine ok_bind (keep_ok hP hn hN c1 h8 hd hlen) (fun E hE => ok_some ⟨(FrZ.u (by decide)).tr (fun q a => hE.1 q (by omega)), ?_, fun p hp => ?_, fun i hi => ?_, Or.inl ⟨e, ?_, fun i hi => ?_, fun t ht => ?_⟩⟩)
      · exact c1.nn (by rw [hE.1 62 (by decide)]) (by rw [hE.1 62 (by decide)]) (hE.1 63 (by decide)) (hE.1 64 (by decide))
      · rw [hE.1 67 (by decide), upd2_n (by decide)]; exact hl p hp
      · rw [hE.1 65 (by decide), upd2_n (by decide)]
      · rw [hE.1 62 (by decide), upd2_s, upd_s]; rfl
      · rw [hE.2.1 i hi, upd2_n (by decide), if_pos hi]
      · rw [hE.2.2 t ht, upd2_n (by decide)]
    · exact Nat.not_lt.mp (fun k => e ((nI_lt' (by omega) (by omega)).mpr k))
  | t :: r, dd + 1, pre, D, L, B, hdd, hps, hc, hl, hL, hB, hB2 => by
    have hlr : (t :: r).length = r.length + 1 := List.length_cons
    rw [hlr] at hdd hL
    have hgl : gl n L ≤ 320 := (gl_le n).mpr (fun p _ => by have := hL p; omega)
    have hdl : pre.length + (r.length + 1) = ps.length := by rw [← hps, List.length_append, hlr]
    have htd : ps.getD pre.length 0 = t := by rw [← hps]; exact getD_mid
    have hzt := hz t
    obtain ⟨f, hf⟩ : ∃ f, f = fun p => mn n z r (ad L p (z t)) := ⟨_, rfl⟩
    have bnd : ∀ p q, ad L p (z t) q + 40 * r.length ≤ 320 := fun p q => by
      have := hL q
      unfold ad; split <;> omega
    have hfc : ∀ p, f p ≤ 320 := fun p => by rw [hf]; exact mn_cap hn1 hz r _ (bnd p)
    have emn : mn n z (t :: r) L = mi f n := by rw [hf]; rfl
    have eway : way n z (t :: r) L = ar f n :: way n z r (ad L (ar f n) (z t)) := by rw [hf]; rfl
    show OkP _ (f_Z_tryFrom_b N nx (f_Z_tryFrom N nx dd) D P 62 (nI pre.length) (nI (gl n L)))
    unfold f_Z_tryFrom_b
    refine ok_t (kd_at (by omega) rfl) ?_
    rw [hB]
    refine ok_ite (fun e => ?_) (fun e => ok_some ⟨fun _ _ => rfl, hc, hl, fun _ _ => rfl, Or.inr ⟨?_, hB, rfl⟩⟩)
    · refine ok_f (nI_nneg (by omega)) (ok_f (by rw [hc.1]; exact i2_lt (by omega) (by omega)) (ok_t (by rw [lit 8, nI_lt' (by omega) (by decide)]; omega) ?_))
      refine wk2_run (I := fun j E i3 => i3 = nI j ∧ FrZ D E ∧ ZC E n z ps ∧ (∀ p, p < 5 → E 67 p = nI (L p)) ∧ (∀ i, i < pre.length → E 65 i = D 65 i) ∧ (((j = 0 ∨ B ≤ mi f j) ∧ E 62 7 = nI B ∧ E 66 = D 66) ∨ (1 ≤ j ∧ mi f j < B ∧ E 62 7 = nI (mi f j) ∧ (∀ i, i < ps.length → E 66 (ps.getD i 0) = if i < pre.length then D 65 i else if i = pre.length then nI (ar f j) else nI ((way n z r (ad L (ar f j) (z t))).getD (i - (pre.length + 1)) 0)) ∧ ∀ t, ¬ t ∈ ps → E 66 t = D 66 t))) n N _ _ (by omega) ⟨rfl, fun _ _ => rfl, hc, hl, fun _ _ => rfl, Or.inl ⟨Or.inl rfl, hB, rfl⟩⟩ ?_ ?_
      · rintro p hp E i3 ⟨rfl, hfr, hcE, hlE, h65, hI⟩ rec hrec
        have hLs : ∀ q, L q < 1000 := fun q => by have := hL q; omega
        unfold f_Z_tryFrom_39
        rw [hcE.2.1]
        refine ok_t (kd_at (by omega) rfl) (ok_f (i2_lt hp (by omega)) (ok_f (le5 (by omega)) (ok_bind (like_ok hP hn hN (by omega) hlE hLs) ?_)))
        rintro w (⟨rfl, q, hq, hqL⟩ | ⟨rfl, -⟩)
        · have efq : f p = f q := by
            rw [hf]
            exact mn_like hn1 (by omega) hp hqL r
          have hmq := mi_f (f := f) p q hq
          have e1 : mi f (p + 1) = mi f p := by rw [mi_s, if_neg (by omega)]
          have e2 : ar f (p + 1) = ar f p := by rw [ar_s, if_neg (by omega)]
          refine ok_f (by decide) ?_
          rw [nI_1]
          refine hrec _ _ ⟨rfl, hfr, hcE, hlE, h65, ?_⟩
          rw [e1, e2]
          rcases hI with ⟨k1, k2, k3⟩ | ⟨k1, k2, k3, k4⟩
          · exact Or.inl ⟨Or.inr (by omega), k2, k3⟩
          · exact Or.inr ⟨by omega, k2, k3, k4⟩
        · refine ok_t rfl (ok_nn (hP.at (by decide) (show P0 62 2 = some 65 from rfl)) (ok_t ((zab hn).1 65 (by decide) (by decide) _ (by omega)) (ok_pas (ok_nn (hP.at (by decide) (show P0 62 4 = some 67 from rfl)) (ok_t ((zab hn).2 p (by omega)) (ok_nn (hP.at (by decide) (show P0 62 1 = some 64 from rfl)) (ok_t ((zab hn).1 64 (by decide) (by decide) _ (by omega)) (ok_t ((zab hn).2 p (by omega)) (ok_pas (ok_t ((zab hn).2 p (by omega)) ?_))))))))))
          rw [cl (n := pre.length) (by omega), cl (n := p) (by omega), upd2_n (show 67 ≠ 65 by decide), upd2_n (show 64 ≠ 65 by decide), hlE p (by omega), (hcE.2.2 pre.length (by omega)).2, htd, nI_add, nI_1, nI_1]
          have x0 : ∀ q, q ≠ 65 → q ≠ 67 → upd2 (upd2 E 65 pre.length (nI p)) 67 p (nI (L p + z t)) q = E q := fun q a b => by rw [upd2_n b, upd2_n a]
          have x65 : upd2 (upd2 E 65 pre.length (nI p)) 67 p (nI (L p + z t)) 65 = upd (E 65) pre.length (nI p) := by rw [upd2_n (by decide), upd2_s]
          have x67 : upd2 (upd2 E 65 pre.length (nI p)) 67 p (nI (L p + z t)) 67 = upd (E 67) p (nI (L p + z t)) := by rw [upd2_s, upd2_n (by decide)]
          revert x0 x65 x67
          generalize upd2 (upd2 E 65 pre.length (nI p)) 67 p (nI (L p + z t)) = E1
          intro x0 x65 x67
          have eg : (if nI (gl n L) < E1 67 p then E1 67 p else nI (gl n L)) = nI (gl n (ad L p (z t))) := by
            rw [x67, upd_s, gl_ad hp]
            have h1 := hL p
            by_cases c : gl n L < L p + z t
            · rw [if_pos c, if_pos ((nI_lt' (by omega) (by omega)).mpr c)]
            · rw [if_neg c, if_neg (fun k => c ((nI_lt' (by omega) (by omega)).mp k))]
          rw [eg, show pre.length + 1 = (pre ++ [t]).length by rw [List.length_append]; rfl]
          have hfr1 : FrZ D E1 := hfr.tr (fun q a => x0 q (by omega) (by omega))
          have hc1 : ZC E1 n z ps := hcE.nn (by rw [x0 62 (by decide) (by decide)]) (by rw [x0 62 (by decide) (by decide)]) (x0 63 (by decide) (by decide)) (x0 64 (by decide) (by decide))
          have hl1 : ∀ q, q < 5 → E1 67 q = nI (ad L p (z t) q) := fun q hq => by
            rw [x67]
            by_cases c : q = p
            · rw [c, upd_s, ad_s]
            · rw [upd_n c, ad_n c]; exact hlE q hq
          have hps1 : (pre ++ [t]) ++ r = ps := by rw [← hps, List.append_assoc]; rfl
          have hpl : (pre ++ [t]).length = pre.length + 1 := by rw [List.length_append]; rfl
          have aft : ∀ B1, B1 ≤ 321 → E1 62 7 = nI B1 → (∀ F, TFP n z ps r (pre.length + 1) (ad L p (z t)) B1 E1 F → OkP (TFP n z ps (t :: r) pre.length L B D) (rec (upd2 F 67 p (nI (L p))) (nI (p + 1)))) → OkP (TFP n z ps (t :: r) pre.length L B D) ((f_Z_tryFrom N nx dd E1 P 62 (nI (pre ++ [t]).length) (nI (gl n (ad L p (z t))))).bind fun z15 => if ab nx 67 3 (nI p) = true then if ab nx 64 3 (nI pre.length) = true then if ab nx 67 3 (nI p) = true then pas (upd2 z15 67 p (z15 67 p - z15 64 pre.length)) fun D18 => rec D18 (nI (p + 1)) else none else none else none) := by
            intro B1 hB1 hE1B k
            refine ok_bind (tf_ok hP hn hN hn1 hn5 hz h8 hd hlen r dd (pre ++ [t]) E1 (ad L p (z t)) B1 (by omega) hps1 hc1 hl1 (bnd p) hE1B hB1) (fun F hF => ?_)
            rw [hpl] at hF
            refine ok_t ((zab hn).2 p (by omega)) (ok_t ((zab hn).1 64 (by decide) (by decide) _ (by omega)) (ok_t ((zab hn).2 p (by omega)) (ok_pas ?_)))
            rw [hF.2.2.1 p (by omega), (hF.2.1.2.2 pre.length (by omega)).2, htd, ad_s, pk_sub (by omega), show L p + z t - z t = L p by omega]
            exact k F hF
          have gen : ∀ F B1, TFP n z ps r (pre.length + 1) (ad L p (z t)) B1 E1 F → FrZ D (upd2 F 67 p (nI (L p))) ∧ ZC (upd2 F 67 p (nI (L p))) n z ps ∧ (∀ q, q < 5 → upd2 F 67 p (nI (L p)) 67 q = nI (L q)) ∧ (∀ i, i < pre.length → upd2 F 67 p (nI (L p)) 65 i = D 65 i) := by
            intro F B1 hF
            obtain ⟨y1, y2, y3, y4, -⟩ := hF
            refine ⟨(hfr1.tr y1).tr (FrZ.u (by decide)), y2.nn (by rw [upd2_n (by decide)]) (by rw [upd2_n (by decide)]) (upd2_n (by decide)) (upd2_n (by decide)), fun q hq => ?_, fun i hi => ?_⟩
            · rw [upd2_s]
              by_cases c : q = p
              · rw [c, upd_s]
              · rw [upd_n c, y3 q hq, ad_n c]
            · rw [upd2_n (by decide), y4 i (by omega), x65, upd_n (by omega)]; exact h65 i hi
          have found : ∀ F B1, B1 ≤ B → f p < B1 → mi f (p + 1) = f p → ar f (p + 1) = p → TFP n z ps r (pre.length + 1) (ad L p (z t)) B1 E1 F → F 62 7 = nI (mn n z r (ad L p (z t))) → (∀ i, i < ps.length → F 66 (ps.getD i 0) = if i < pre.length + 1 then E1 65 i else nI ((way n z r (ad L p (z t))).getD (i - (pre.length + 1)) 0)) → (∀ t, ¬ t ∈ ps → F 66 t = D 66 t) → OkP (TFP n z ps (t :: r) pre.length L B D) (rec (upd2 F 67 p (nI (L p))) (nI (p + 1))) := by
            intro F B1 hB1 hlt hm ha hF h7 h66 h66b
            obtain ⟨y1, y2, y3, y4⟩ := gen F B1 hF
            refine hrec _ _ ⟨rfl, y1, y2, y3, y4, Or.inr ⟨by omega, by omega, ?_, fun i hi => ?_, fun s hs => ?_⟩⟩
            · rw [upd2_n (by decide), h7, hm, hf]
            · rw [upd2_n (by decide), h66 i hi, ha]
              by_cases c : i < pre.length
              · rw [if_pos (by omega), if_pos c, x65, upd_n (by omega)]; exact h65 i c
              · rw [if_neg c]
                by_cases c2 : i = pre.length
                · rw [if_pos (by omega), if_pos c2, x65, c2, upd_s]
                · rw [if_neg (by omega), if_neg c2]
            · rw [upd2_n (by decide)]; exact h66b s hs
          rcases hI with ⟨k1, k2, k3⟩ | ⟨k1, k2, k3, k4, k5⟩
          · refine aft B hB2 (by rw [x0 62 (by decide) (by decide)]; exact k2) (fun F hF => ?_)
            have hF' := hF
            obtain ⟨-, -, -, -, ⟨u1, u2, u3, u4⟩ | ⟨u1, u2, u3⟩⟩ := hF'
            · have u1' : f p < B := by rw [hf]; exact u1
              have hm : mi f (p + 1) = f p ∧ ar f (p + 1) = p := by
                rcases k1 with k1 | k1
                · subst k1
                  exact ⟨mi_1, by rw [ar_s, if_neg (show ¬ f 0 < mi f 0 from Nat.lt_irrefl _)]; rfl⟩
                · exact ⟨by rw [mi_s, if_pos (by omega)], by rw [ar_s, if_pos (by omega)]⟩
              exact found F B (Nat.le_refl _) u1' hm.1 hm.2 hF u2 u3 (fun s hs => by rw [u4 s hs, x0 66 (by decide) (by decide), k3])
            · have u1' : B ≤ f p := by rw [hf]; exact u1
              obtain ⟨y1, y2, y3, y4⟩ := gen F B hF
              refine hrec _ _ ⟨rfl, y1, y2, y3, y4, Or.inl ⟨Or.inr ?_, by rw [upd2_n (by decide)]; exact u2, by rw [upd2_n (by decide), u3, x0 66 (by decide) (by decide), k3]⟩⟩
              rcases k1 with k1 | k1
              · subst k1; rw [mi_1]; exact u1'
              · rw [mi_s]; split <;> omega
          · have hmc : mi f p ≤ 321 := by omega
            refine aft (mi f p) hmc (by rw [x0 62 (by decide) (by decide)]; exact k3) (fun F hF => ?_)
            have hF' := hF
            obtain ⟨-, -, -, -, ⟨u1, u2, u3, u4⟩ | ⟨u1, u2, u3⟩⟩ := hF'
            · have u1' : f p < mi f p := by rw [hf]; rw [hf] at u1; exact u1
              exact found F (mi f p) (by omega) u1' (by rw [mi_s, if_pos u1']) (by rw [ar_s, if_pos u1']) hF u2 u3 (fun s hs => by rw [u4 s hs, x0 66 (by decide) (by decide)]; exact k5 s hs)
            · have u1' : mi f p ≤ f p := by rw [hf]; rw [hf] at u1; exact u1
              obtain ⟨y1, y2, y3, y4⟩ := gen F (mi f p) hF
              have e1 : mi f (p + 1) = mi f p := by rw [mi_s, if_neg (by omega)]
              have e2 : ar f (p + 1) = ar f p := by rw [ar_s, if_neg (by omega)]
              refine hrec _ _ ⟨rfl, y1, y2, y3, y4, Or.inr ⟨by omega, by omega, by rw [upd2_n (by decide), e1]; exact u2, fun i hi => ?_, fun s hs => ?_⟩⟩
              · rw [upd2_n (by decide), u3, x0 66 (by decide) (by decide), e2]; exact k4 i hi
              · rw [upd2_n (by decide), u3, x0 66 (by decide) (by decide)]; exact k5 s hs
      · rintro E i3 ⟨rfl, hfr, hcE, hlE, h65, hI⟩ rec
        unfold f_Z_tryFrom_39
        rw [hcE.2.1]
        refine ok_t (kd_at (by omega) rfl) (ok_t (i2_ge (Nat.le_refl _) (by omega)) (ok_some ⟨hfr, hcE, hlE, h65, ?_⟩))
        rw [emn, eway]
        rcases hI with ⟨k1, k2, k3⟩ | ⟨k1, k2, k3, k4, k5⟩
        · exact Or.inr ⟨by omega, k2, k3⟩
        · refine Or.inl ⟨k2, k3, fun i hi => ?_, k5⟩
          rw [k4 i hi]
          by_cases c : i < pre.length
          · rw [if_pos c, if_pos c]
          · rw [if_neg c, if_neg c]
            by_cases c2 : i = pre.length
            · rw [if_pos c2, c2, Nat.sub_self, List.getD_cons_zero]
            · rw [if_neg c2, show i - pre.length = (i - (pre.length + 1)) + 1 by omega, List.getD_cons_succ]
    · have e := Nat.not_lt.mp (fun k => e ((nI_lt' (by omega) (by omega)).mpr k))
      exact Nat.le_trans e (mn_gl hn1 (t :: r) L)
theorem find_share (h : CR D P g) (ho : GOK g) (hn : 97 ≤ nx) (hN : 100 ≤ N) : OkP (fun E => FrZ D E ∧ E 62 7 = nI (mn (fN (gF g)) (sZ (gS g)) (pl (br' (gS g)) 8 0) (fun _ => 0)) ∧ ∀ t, t < 8 → E 66 t = if sP (gS g) t < 5 then nI (shr (fN (gF g)) (sZ (gS g)) (br' (gS g)) 8 0 (fun _ => 0) t) else -4) (f_Z_find N nx D P 62 14 (nI (fN (gF g)))) := by
  have hP := h.1
  have hf := ho.1
  have hn5 := hf.2.1
  have h8 := (ho.2.1).p8 hf
  have hsa := StA.of (nx := nx) (a := 14) hP hn (by decide)
  have hlen := pl_len (c := br' (gS g)) 8 0
  unfold f_Z_find
  refine ok_t (kd_at (by omega) rfl) (ok_pas (ok_pas ?_))
  have x0 : ∀ q, q ≠ 62 → upd2 (upd2 D 62 6 (nI (fN (gF g)))) 62 5 0 q = D q := fun q a => by rw [upd2_n a, upd2_n a]
  have x5 : upd2 (upd2 D 62 6 (nI (fN (gF g)))) 62 5 0 62 5 = nI 0 := by rw [upd2_s, upd_s]; rfl
  have x6 : upd2 (upd2 D 62 6 (nI (fN (gF g)))) 62 5 0 62 6 = nI (fN (gF g)) := by rw [upd2_s, upd_n (by decide), upd2_s, upd_s]
  revert x0 x5 x6
  generalize upd2 (upd2 D 62 6 (nI (fN (gF g)))) 62 5 0 = D2
  intro x0 x5 x6
  refine wk2_run (I := fun t E i => i = nI t ∧ FrZ D E ∧ E 62 6 = nI (fN (gF g)) ∧ (∀ j, j < t → E 66 j = -4) ∧ ∃ Q : List Nat, Q ++ pl (br' (gS g)) (8 - t) t = pl (br' (gS g)) 8 0 ∧ Q.length ≤ t ∧ E 62 5 = nI Q.length ∧ ∀ i, i < Q.length → E 63 i = nI (Q.getD i 0) ∧ E 64 i = nI (sZ (gS g) (Q.getD i 0))) 8 N _ _ (by omega) ⟨rfl, fun q a => x0 q (by omega), x6, fun j hj => absurd hj (Nat.not_lt_zero j), [], rfl, Nat.zero_le _, x5, fun i hi => absurd hi (Nat.not_lt_zero i)⟩ ?_ ?_
  · rintro t ht E i ⟨rfl, hfr, h6, h66, Q, q1, q2, q3, q4⟩ rec hrec
    have hcs : CS (upd2 E 66 t (-4)) 14 (gS g) := h.2.2.2.1.at1 (by rw [upd2_n (by decide)]; exact hfr 14 (by decide)) (by rw [upd2_n (by decide)]; exact hfr 15 (by decide)) (by rw [upd2_n (by decide)]; exact hfr 16 (by decide))
    have e8 : 8 - t = (8 - (t + 1)) + 1 := by omega
    rw [e8] at q1
    unfold f_Z_find_12
    refine ok_f (le8 ht) (ok_nn (hP.at (by decide) (show P0 62 3 = some 66 from rfl)) (ok_t ((zab hn).1 66 (by decide) (by decide) t ht) (ok_pas ?_)))
    rw [cl (n := t) (by omega), nI_1 t]
    have y0 : ∀ q, q ≠ 66 → upd2 E 66 t (-4) q = E q := fun q a => upd2_n a
    have y66 : ∀ j, j < t + 1 → upd2 E 66 t (-4) 66 j = -4 := fun j hj => by
      rw [upd2_s]
      by_cases c : j = t
      · rw [c, upd_s]
      · rw [upd_n c]; exact h66 j (by omega)
    revert hcs y0 y66
    generalize upd2 E 66 t (-4) = E1
    intro hcs y0 y66
    have hfr1 : FrZ D E1 := hfr.tr (fun q a => y0 q (by omega))
    have hz := cw_neg (sP (gS g) t) (by have := h8 t; omega)
    refine ok_t hsa.1 (ok_call (whereIs_eq hsa hcs t ht) ?_)
    by_cases c : sP (gS g) t < 5
    · have cb : br' (gS g) t = true := decide_eq_true c
      rw [pl_t cb] at q1
      refine ok_f (Int32.not_lt.mpr (hz.mpr c)) ?_
      rw [y0 62 (by decide), q3]
      refine ok_f (le8 (by omega)) (ok_nn (hP.at (by decide) (show P0 62 0 = some 63 from rfl)) (ok_t ((zab hn).1 63 (by decide) (by decide) _ (by omega)) (ok_pas ?_)))
      rw [cl (n := Q.length) (by omega)]
      refine ok_nn (hP.at (by decide) (show P0 62 1 = some 64 from rfl)) (ok_call (largeOf_eq hsa (hcs.at1 (upd2_n (by decide)) (upd2_n (by decide)) (upd2_n (by decide))) t ht) ?_)
      rw [upd2_n (show 62 ≠ 63 by decide), y0 62 (by decide), q3]
      refine ok_t ((zab hn).1 64 (by decide) (by decide) _ (by omega)) (ok_pas (ok_pas ?_))
      rw [cl (n := Q.length) (by omega), upd2_n (show 62 ≠ 64 by decide), upd2_n (show 62 ≠ 63 by decide), y0 62 (by decide), q3, nI_1 Q.length]
      have el : (Q ++ [t]).length = Q.length + 1 := by rw [List.length_append]; rfl
      have w0 : ∀ q, q ≠ 62 → q ≠ 63 → q ≠ 64 → upd2 (upd2 (upd2 E1 63 Q.length (nI t)) 64 Q.length (nI (sZ (gS g) t))) 62 5 (nI (Q.length + 1)) q = E1 q := fun q a b c => by rw [upd2_n a, upd2_n c, upd2_n b]
      refine hrec _ _ ⟨rfl, hfr1.tr (((FrZ.u (by decide)).tr (FrZ.u (by decide))).tr (FrZ.u (by decide))), ?_, fun j hj => ?_, Q ++ [t], ?_, by omega, ?_, fun i hi => ?_⟩
      · rw [upd2_s, upd_n (by decide), upd2_n (by decide), upd2_n (by decide), y0 62 (by decide)]; exact h6
      · rw [w0 66 (by decide) (by decide) (by decide)]; exact y66 j hj
      · rw [List.append_assoc]; exact q1
      · rw [upd2_s, upd_s, el]
      · rw [el] at hi
        rw [upd2_n (show 63 ≠ 62 by decide), upd2_n (show 63 ≠ 64 by decide), upd2_s, upd2_n (show 64 ≠ 62 by decide), upd2_s, upd2_n (show 64 ≠ 63 by decide), y0 63 (by decide), y0 64 (by decide)]
        by_cases k : i = Q.length
        · have : (Q ++ [t]).getD Q.length 0 = t := getD_mid
          rw [k, upd_s, upd_s, this]; exact ⟨rfl, rfl⟩
        · rw [upd_n k, upd_n k, getD_pre (by omega)]; exact q4 i (by omega)
    · have cb : ¬ br' (gS g) t = true := fun e => c (of_decide_eq_true e)
      rw [pl_f cb] at q1
      refine ok_t (Int32.not_le.mp (fun e => c (hz.mp e))) (hrec _ _ ⟨rfl, hfr1, by rw [y0 62 (by decide)]; exact h6, y66, Q, q1, by omega, by rw [y0 62 (by decide)]; exact q3, fun i hi => ?_⟩)
      rw [y0 63 (by decide), y0 64 (by decide)]; exact q4 i hi
  · rintro E i ⟨rfl, hfr, h6, h66, Q, q1, q2, q3, q4⟩ rec
    have q1 : Q ++ [] = pl (br' (gS g)) 8 0 := q1
    rw [List.append_nil] at q1
    rw [q1] at q3 q4
    have hz0 : ZC E (fN (gF g)) (sZ (gS g)) (pl (br' (gS g)) 8 0) := ⟨q3, h6, q4⟩
    unfold f_Z_find_12
    refine ok_t (by decide) ?_
    refine wk2_run (I := fun t F i => i = nI t ∧ FrO 67 E F ∧ ∀ j, j < t → F 67 j = 0) 5 N _ _ (by omega) ⟨rfl, fun _ _ => rfl, fun j hj => absurd hj (Nat.not_lt_zero j)⟩ ?_ ?_
    · rintro t ht F i ⟨rfl, g1, g2⟩ rec2 hrec2
      unfold f_Z_find_85
      refine ok_f (le5 ht) (ok_nn (hP.at (by decide) (show P0 62 4 = some 67 from rfl)) (ok_t ((zab hn).2 t ht) (ok_pas ?_)))
      rw [cl (n := t) (by omega), nI_1]
      refine hrec2 _ _ ⟨rfl, g1.tr FrO.up, fun j hj => ?_⟩
      rw [upd2_s]
      by_cases c : j = t
      · rw [c, upd_s]
      · rw [upd_n c]; exact g2 j (by omega)
    · rintro F i ⟨rfl, g1, g2⟩ rec2
      unfold f_Z_find_85
      refine ok_t (by decide) (ok_pas ?_)
      have hcap := mn_cap (n := fN (gF g)) (z := sZ (gS g)) hf.1 ho.2.1.z40 (pl (br' (gS g)) 8 0) (fun _ => 0) (fun p => by show 0 + 40 * (pl (br' (gS g)) 8 0).length ≤ 320; omega)
      have eg : gl (fN (gF g)) (fun _ => 0) = 0 := Nat.le_zero.mp ((gl_le _).mpr (fun _ _ => Nat.le_refl _))
      have key := tf_ok (N := N) (nx := nx) (P := P) (n := fN (gF g)) (z := sZ (gS g)) (ps := pl (br' (gS g)) 8 0) hP hn hN hf.1 hn5 ho.2.1.z40 (pl_8 (o := 0) (Nat.zero_le _)) (pl_nodup _ _) hlen (pl (br' (gS g)) 8 0) 24 [] (upd2 F 62 7 321) (fun _ => 0) 321 (by omega) rfl (hz0.nn (by rw [upd2_s, upd_n (by decide), g1 62 (by decide)]) (by rw [upd2_s, upd_n (by decide), g1 62 (by decide)]) (by rw [upd2_n (by decide)]; exact g1 63 (by decide)) (by rw [upd2_n (by decide)]; exact g1 64 (by decide))) (fun p hp => by rw [upd2_n (by decide)]; exact g2 p hp) (fun p => by show 0 + 40 * (pl (br' (gS g)) 8 0).length ≤ 320; omega) (by rw [upd2_s, upd_s]; rfl) (Nat.le_refl _)
      rw [eg] at key
      refine ok_bind key (fun G hG => ok_some ?_)
      obtain ⟨u1, u2, u3, u4, ⟨v1, v2, v3, v4⟩ | ⟨v1, -⟩⟩ := hG
      · refine ⟨hfr.tr (fun q a => by rw [u1 q a, upd2_n (by omega)]; exact g1 q (by omega)), v2, fun t ht => ?_⟩
        by_cases c : sP (gS g) t < 5
        · have hm : t ∈ pl (br' (gS g)) 8 0 := (pl_mem 8 0 t).mpr ⟨Nat.zero_le _, by omega, decide_eq_true c⟩
          obtain ⟨i, hi, e⟩ := mem_getD hm
          have := v3 i hi
          rw [if_neg (show ¬ i < ([] : List Nat).length from Nat.not_lt_zero i)] at this
          have this : G 66 ((pl (br' (gS g)) 8 0).getD i 0) = nI ((way (fN (gF g)) (sZ (gS g)) (pl (br' (gS g)) 8 0) (fun _ => 0)).getD i 0) := this
          rw [way_shr 8 0 _ i hi, e] at this
          rw [if_pos c]; exact this
        · have hm : ¬ t ∈ pl (br' (gS g)) 8 0 := fun k => c (of_decide_eq_true ((pl_mem 8 0 t).mp k).2.2)
          rw [if_neg c, v4 t hm, upd2_n (by decide), g1 66 (by decide)]
          exact h66 t ht
      · omega
theorem H_share (h : CR D P g) (ho : GOK g) (hn : 97 ≤ nx) (hN : 100 ≤ N) (x : Int32) : OkP (fun z => z.1 = oShare g x ∧ CR z.2 P g ∧ Hi D z.2) (f_H_share N nx D P 0 x) := by
  have hP := h.1
  have hf := ho.1
  have hk8 := hf.2.2.1
  have hfa := FaA.of4 (nx := nx) hP hn
  have hP1 : P 0 1 = some 4 := hP.at (by decide) rfl
  have fz : ∀ {E : Dt}, FrZ D E → CR E P g ∧ Hi D E := fun hE => ⟨h.sc (fun q h1 h2 => by
    have h1 : ¬ (q = 3 ∨ (9 ≤ q ∧ q ≤ 13) ∨ (17 ≤ q ∧ q ≤ 19) ∨ 59 ≤ q) := h1
    exact hE q (by omega)) (fun k _ => by rw [hE 1 (by decide)]), fun q hq => hE q (by omega)⟩
  have main : (x = -1 ∨ ∃ t, x = nI t ∧ t < fK (gF g)) → OkP (fun z => z.1 = oShare g x ∧ CR z.2 P g ∧ Hi D z.2) (f_H_share_18 N nx D P 0 x) := by
    intro hx
    unfold f_H_share_18
    refine ok_nn (hP.at (by decide) (show P0 0 9 = some 62 from rfl)) (ok_nn (hP.at (by decide) (show P0 0 3 = some 14 from rfl)) (ok_nn hP1 (ok_t hfa.1 (ok_t (kd_at (by omega) rfl) ?_))))
    rw [h.2.2.1.1]
    refine ok_bind (find_share h ho hn hN) (fun E hE => ?_)
    have hne : ∀ u : Nat, u < 100 → ¬ nI u = (-1 : Int32) := by decide
    rcases hx with rfl | ⟨t, rfl, ht⟩
    · exact ok_t rfl (ok_some ⟨hE.2.1, fz hE.1⟩)
    · have eo : oShare g (nI t) = if sP (gS g) t < 5 then nI (shr (fN (gF g)) (sZ (gS g)) (br' (gS g)) 8 0 (fun _ => 0) t) else -4 := by
        unfold oShare
        rw [if_neg (hne t (by omega)), if_pos (show isT (gF g) (nI t) = true from decide_eq_true ⟨nI_nneg (by omega), (nI_lt' (by omega) (by omega)).mpr ht⟩), cl (n := t) (by omega)]
      rw [eo]
      refine ok_f (hne t (by omega)) (ok_call (y := E 66 t) ?_ (ok_some ⟨hE.2.2 t (by omega), fz hE.1⟩))
      apply ok_val
      unfold f_Z_bearerOf
      refine ok_t (kd_at (by omega) rfl) (ok_f (nI_nneg (by omega)) (ok_f (le8 (by omega)) (ok_nn (hP.at (by decide) (show P0 62 3 = some 66 from rfl)) (ok_t ((zab hn).1 66 (by decide) (by decide) t (by omega)) (ok_some ?_)))))
      rw [cl (n := t) (by omega)]
  unfold f_H_share
  refine ok_t (kd_at (by omega) rfl) (ok_ite (fun c => main (Or.inl c)) (fun c => ok_nn hP1 (ok_t hfa.1 (ok_call (hasPin_i hfa h.2.2.1 hf x) ?_))))
  by_cases q : isT (gF g) x = true
  · obtain ⟨t, ht1, ht2⟩ := isT_up hf q
    rw [if_pos q]
    exact ok_f (by decide) (main (Or.inr ⟨t, ht1, ht2⟩))
  · rw [if_neg q]
    refine ok_t rfl (ok_some ⟨?_, h, Hi.rf⟩)
    show -1 = oShare g x
    unfold oShare
    rw [if_neg c, if_neg q]
end CZ
