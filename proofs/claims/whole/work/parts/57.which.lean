/-! the class: which pins the marks may be of -/
/-- how many hold, and the lowest, counted down from the last -/
def dn (c : Nat → Bool) : Nat → Nat × Option Nat
  | 0 => (0, none)
  | t + 1 => if c (7 - t) = true then ((dn c t).1 + 1, some (7 - t)) else dn c t
def eqv (r : Nat → Nat) (v : Nat) : Nat → Bool := fun t => decide (r t = v)
def tk (r : Nat → Nat) (v : Nat) : Nat → Nat := match (dn (eqv r v) 8).2 with
  | none => r
  | some u => fun t => if t = u then 1000 else r t
/-- how large each borne pin is behind n days; 1000 for no borne pin -/
def wV (g : Gs) (n : Nat) : Nat → Nat := fun t => if sP (gS g) t < 5 then lbN (fS (gF g) t) (sD (gS g)) n 0 (sZ (gS g) t) else 1000
def wR (g : Gs) (n : Nat) : Nat → Nat → Nat
  | 0 => wV g n
  | i + 1 => tk (wR g n i) ((gM g).2 i)
def wP (g : Gs) (n : Nat) : Nat → Nat
  | 0 => if ct (br' (gS g)) 8 = (gM g).1 then 1 else 0
  | i + 1 => wP g n i * (dn (eqv (wR g n i) ((gM g).2 i)) 8).1
def wL (g : Gs) (n k : Nat) : Int32 := match (dn (eqv (wR g n k) ((gM g).2 k)) 8).2 with
  | none => -4
  | some u => nI u
def oWhich (g : Gs) (n k : Int32) : Int32 := if (nI 0 ≤ n ∧ n ≤ nI 20) ∧ ((-1) ≤ k ∧ k ≤ nI 7) then (if k = -1 then nI (wP g n.toNatClampNeg (gM g).1) else if 0 < wP g n.toNatClampNeg (gM g).1 ∧ k.toNatClampNeg < (gM g).1 then wL g n.toNatClampNeg k.toNatClampNeg else -4) else -1
def wc (v : Nat) : Int32 := if v = 1000 then -4 else nI v
theorem dn_le (c : Nat → Bool) : ∀ t, (dn c t).1 ≤ t
  | 0 => Nat.le_refl _
  | t + 1 => by
    have := dn_le c t
    show (if c (7 - t) = true then ((dn c t).1 + 1, some (7 - t)) else dn c t).1 ≤ t + 1
    split
    · show (dn c t).1 + 1 ≤ _; omega
    · omega
theorem dn_no (c : Nat → Bool) : ∀ t, (dn c t).2 = none → (dn c t).1 = 0
  | 0, _ => rfl
  | t + 1, h => by
    have e : dn c (t + 1) = if c (7 - t) = true then ((dn c t).1 + 1, some (7 - t)) else dn c t := rfl
    rw [e] at h ⊢
    by_cases q : c (7 - t) = true
    · rw [if_pos q] at h; cases h
    · rw [if_neg q] at h ⊢; exact dn_no c t h
theorem dn_lt (c : Nat → Bool) : ∀ t u, (dn c t).2 = some u → u ≤ 7 ∧ c u = true
  | 0, _, h => by cases h
  | t + 1, u, h => by
    have e : dn c (t + 1) = if c (7 - t) = true then ((dn c t).1 + 1, some (7 - t)) else dn c t := rfl
    rw [e] at h
    by_cases q : c (7 - t) = true
    · rw [if_pos q] at h
      have h : some (7 - t) = some u := h
      injection h with h
      rw [← h]; exact ⟨by omega, q⟩
    · rw [if_neg q] at h; exact dn_lt c t u h
theorem lbN_le {k : Nat} {d : Int32} : ∀ (n i z : Nat), z ≤ 40 → lbN k d n i z ≤ 40
  | 0, _, _, hz => hz
  | n + 1, i, z, hz => by
    rw [lbN_s]
    split
    · omega
    · exact lbN_le n _ _ (gr_le hz)
def wOK (r : Nat → Nat) : Prop := ∀ t, r t ≤ 40 ∨ r t = 1000
theorem tk_ok {r : Nat → Nat} (h : wOK r) (v : Nat) : wOK (tk r v) := by
  intro t
  unfold tk
  cases (dn (eqv r v) 8).2 with
  | none => exact h t
  | some u =>
    show (if t = u then 1000 else r t) ≤ 40 ∨ (if t = u then 1000 else r t) = 1000
    split
    · exact Or.inr rfl
    · exact h t
theorem wR_ok {g : Gs} (ho : GOK g) (n : Nat) : ∀ i, wOK (wR g n i)
  | 0 => fun t => by
    show (if sP (gS g) t < 5 then lbN (fS (gF g) t) (sD (gS g)) n 0 (sZ (gS g) t) else 1000) ≤ 40 ∨ (if sP (gS g) t < 5 then lbN (fS (gF g) t) (sD (gS g)) n 0 (sZ (gS g) t) else 1000) = 1000
    split
    · exact Or.inl (lbN_le _ _ _ (ho.2.1.z40 t))
    · exact Or.inr rfl
  | i + 1 => tk_ok (wR_ok ho n i) _
theorem wc_eq {x v : Nat} (hx : x ≤ 40 ∨ x = 1000) (hv : v ≤ 40) : wc x = nI v ↔ x = v := by
  unfold wc
  rcases hx with h | h
  · rw [if_neg (by omega), nI_inj (by omega) (by omega)]
  · rw [if_pos h]
    constructor
    · intro e
      have h1 : nI 0 ≤ nI v := by rw [nI_le' (by decide) (by omega)]; omega
      rw [← e] at h1
      exact absurd h1 (by decide)
    · intro e; omega
theorem wP_le (g : Gs) (n : Nat) : ∀ i, i ≤ 8 → wP g n i ≤ 8 ^ i
  | 0, _ => by
    show (if _ then 1 else 0) ≤ 1
    split <;> omega
  | i + 1, h => by
    show wP g n i * _ ≤ 8 ^ (i + 1)
    rw [Nat.pow_succ]
    exact Nat.mul_le_mul (wP_le g n i (by omega)) (dn_le _ 8)
theorem wP_pos {g : Gs} {n i : Nat} (h : 0 < wP g n (i + 1)) : 0 < wP g n i ∧ 0 < (dn (eqv (wR g n i) ((gM g).2 i)) 8).1 := by
  have h : 0 < wP g n i * (dn (eqv (wR g n i) ((gM g).2 i)) 8).1 := h
  exact ⟨Nat.pos_of_mul_pos_right h, Nat.pos_of_mul_pos_left h⟩
section OH
variable {N nx : Nat} {D : Dt} {P : Ft} {g : Gs}
def FrG (D E : Dt) : Prop := ∀ q, q < 59 ∨ 61 < q → E q = D q
theorem takeLowest_ok (hP : PB P) (hn : 97 ≤ nx) (hN : 100 ≤ N) {r : Nat → Nat} (hr : wOK r) (hc : ∀ t, t < 8 → D 60 t = wc (r t)) {v i : Nat} (hv : v ≤ 40) (hi : i < 8) : OkP (fun z => z.1 = nI (dn (eqv r v) 8).1 ∧ (∀ t, t < 8 → z.2 60 t = wc (tk r v t)) ∧ z.2 59 = D 59 ∧ (∀ j, j ≠ i → z.2 61 j = D 61 j) ∧ (∀ u, (dn (eqv r v) 8).2 = some u → z.2 61 i = nI u) ∧ FrG D z.2) (f_G_takeLowest N nx D P 59 (nI i) (nI v)) := by
  have h60 : P 59 0 = some 60 := hP.at (by decide) rfl
  have h61 : P 59 1 = some 61 := hP.at (by decide) rfl
  have k60 : kd nx 60 = 30008 := kd_at (by omega) rfl
  have k61 : kd nx 61 = 30008 := kd_at (by omega) rfl
  unfold f_G_takeLowest
  refine ok_t (kd_at (by omega) rfl) ?_
  refine wk3_run (I := fun t i3 i4 i5 => i5 = nI (8 - t) - 1 ∧ i3 = nI (dn (eqv r v) t).1 ∧ match (dn (eqv r v) t).2 with | none => i4 = (-4 : Int32) | some u => i4 = nI u) 8 N _ _ _ (by omega) ⟨rfl, rfl, rfl⟩ ?_ ?_
  · rintro t ht i3 i4 i5 ⟨rfl, rfl, h4⟩ rec hrec
    have e5 : nI (8 - t) - 1 = nI (7 - t) := by
      have : nI (8 - t) - 1 = nI (8 - t - 1) := pk_sub (b := 1) (by omega)
      rw [this, show 8 - t - 1 = 7 - t by omega]
    have e6 : nI (7 - t) + (-1) = nI (8 - (t + 1)) - 1 := by
      rw [show 8 - (t + 1) = 7 - t by omega]; exact (Int32.sub_eq_add_neg _ _).symm
    have es : dn (eqv r v) (t + 1) = if eqv r v (7 - t) = true then ((dn (eqv r v) t).1 + 1, some (7 - t)) else dn (eqv r v) t := rfl
    rw [e5]
    unfold f_G_takeLowest_10
    refine ok_f (nI_nneg (by omega)) (ok_nn h60 (ok_t (ab_ok (t := 3) (N := 8) k60 (by omega) (by decide)) ?_))
    rw [cl (by omega), hc (7 - t) (by omega), e6, nI_1]
    refine ok_ite (fun c => ?_) (fun c => ?_)
    · have c := (wc_eq (hr _) hv).mp c
      refine hrec _ _ _ ⟨rfl, ?_, ?_⟩
      · rw [es, if_pos (show eqv r v (7 - t) = true from decide_eq_true c)]
      · rw [es, if_pos (show eqv r v (7 - t) = true from decide_eq_true c)]
    · have c : ¬ r (7 - t) = v := fun d => c ((wc_eq (hr _) hv).mpr d)
      refine hrec _ _ _ ⟨rfl, ?_, ?_⟩
      · rw [es, if_neg (show ¬ eqv r v (7 - t) = true from fun d => c (of_decide_eq_true d))]
      · rw [es, if_neg (show ¬ eqv r v (7 - t) = true from fun d => c (of_decide_eq_true d))]; exact h4
  · rintro i3 i4 i5 ⟨rfl, rfl, h4⟩ rec
    unfold f_G_takeLowest_10 tk
    refine ok_t (by decide) ?_
    cases e : (dn (eqv r v) 8).2 with
    | none =>
      rw [e] at h4
      have h4 : i4 = -4 := h4
      exact ok_t (by rw [h4]; decide) (ok_some ⟨rfl, hc, rfl, fun j _ => rfl, fun u hu => (by cases hu), fun q _ => rfl⟩)
    | some u =>
      rw [e] at h4
      have h4 : i4 = nI u := h4
      subst h4
      have hu := dn_lt _ 8 u e
      refine ok_f (nI_nneg (by omega)) (ok_f (nI_nneg (by omega)) (ok_f (le8 hi) (ok_nn h61 (ok_t (ab_ok (t := 3) (N := 8) k61 hi (by decide)) (ok_pas (ok_nn h60 (ok_t (ab_ok (t := 3) (N := 8) k60 (by omega) (by decide)) (ok_pas ?_))))))))
      rw [cl (by omega), cl (by omega)]
      refine ok_some ⟨rfl, fun t ht => ?_, ?_, fun j hj => ?_, fun w hw => ?_, fun q hq => ?_⟩
      · show upd2 (upd2 D 61 i (nI u)) 60 u (-4) 60 t = wc (if t = u then 1000 else r t)
        rw [upd2_s]
        by_cases c : t = u
        · rw [c, upd_s, if_pos rfl]; rfl
        · rw [upd_n c, if_neg c, upd2_n (by decide)]; exact hc t ht
      · show upd2 (upd2 D 61 i (nI u)) 60 u (-4) 59 = _
        rw [upd2_n (by decide), upd2_n (by decide)]
      · show upd2 (upd2 D 61 i (nI u)) 60 u (-4) 61 j = _
        rw [upd2_n (by decide), upd2_s, upd_n hj]
      · cases hw
        show upd2 (upd2 D 61 i (nI u)) 60 u (-4) 61 i = _
        rw [upd2_n (by decide), upd2_s, upd_s]
      · show upd2 (upd2 D 61 i (nI u)) 60 u (-4) q = _
        rw [upd2_n (by omega), upd2_n (by omega)]
theorem FrG.cr {E : Dt} (hf : FrG D E) (h : CR D P g) : CR E P g ∧ Hi D E := ⟨h.sc (fun q h1 h2 => by
  have h1 : ¬ (q = 3 ∨ (9 ≤ q ∧ q ≤ 13) ∨ (17 ≤ q ∧ q ≤ 19) ∨ 59 ≤ q) := h1
  exact hf q (by omega)) (fun k _ => by rw [hf 1 (by decide)]), fun q hq => hf q (by omega)⟩
theorem find_ok (h : CR D P g) (ho : GOK g) (hn : 97 ≤ nx) (hN : 100 ≤ N) {n : Nat} (hn20 : n ≤ 20) : OkP (fun E => FrG D E ∧ E 59 2 = nI (gM g).1 ∧ E 59 3 = nI (wP g n (gM g).1) ∧ (0 < wP g n (gM g).1 → ∀ j, j < (gM g).1 → E 61 j = wL g n j)) (f_G_find N nx D P 59 14 54 (nI n)) := by
  have hP := h.1
  have hf := ho.1
  have h8 := (ho.2.1).p8 hf
  have hm := ho.2.2.2.2.2.2
  have hfa := FaA.of4 (nx := nx) hP hn
  have hsa := StA.of (nx := nx) (a := 14) hP hn (by decide)
  have h60 : P 59 0 = some 60 := hP.at (by decide) rfl
  have k60 : kd nx 60 = 30008 := kd_at (by omega) rfl
  unfold f_G_find
  refine ok_t (kd_at (by omega) rfl) ?_
  refine wk2_run (I := fun t E i => i = nI t ∧ FrG D E ∧ ∀ j, j < t → E 60 j = wc (wV g n j)) 8 N _ _ (by omega) ⟨rfl, fun q _ => rfl, fun j hj => absurd hj (Nat.not_lt_zero j)⟩ ?_ ?_
  · rintro t ht E i ⟨rfl, hfr, hI⟩ rec hrec
    obtain ⟨hE, -⟩ := hfr.cr h
    have hz := cw_neg (sP (gS g) t) (by have := h8 t; omega)
    have step : ∀ x, x = wc (wV g n t) → OkP (fun E => FrG D E ∧ E 59 2 = nI (gM g).1 ∧ E 59 3 = nI (wP g n (gM g).1) ∧ (0 < wP g n (gM g).1 → ∀ j, j < (gM g).1 → E 61 j = wL g n j)) (rec (upd2 E 60 t x) (nI t + 1)) := by
      intro x hx
      rw [nI_1]
      refine hrec _ _ ⟨rfl, fun q hq => ?_, fun j hj => ?_⟩
      · rw [upd2_n (by omega)]; exact hfr q hq
      · rw [upd2_s]
        by_cases c : j = t
        · rw [c, upd_s]; exact hx
        · rw [upd_n c]; exact hI j (by omega)
    unfold f_G_find_3
    refine ok_f (le8 ht) (ok_t hsa.1 (ok_call (whereIs_eq hsa hE.2.2.2.1 t ht) ?_))
    unfold f_G_find_24
    by_cases c : sP (gS g) t < 5
    · have ht' : t < fK (gF g) := by
        rcases Nat.lt_or_ge t (fK (gF g)) with q | q
        · exact q
        · have := (ho.2.1.2.1 t q).1; omega
      refine ok_f (Int32.not_lt.mpr (hz.mpr c)) (ok_nn h60 (ok_f (by decide) (ok_t hsa.1 (ok_nn hsa.2.2.2.1 (ok_t hfa.1 (ok_call (kindOf_eq hfa hE.2.2.1 hf t ht') (ok_call (largeOf_eq hsa hE.2.2.2.1 t ht) ?_)))))))
      rw [hE.2.2.2.1.2.1]
      refine ok_call (largeBehind_eq (hf.2.2.2.2.2.2.2.2.2 t ht').2 (ho.2.1.z40 t) (by omega) hN) (ok_t (ab_ok (t := 3) (N := 8) k60 ht (by decide)) (ok_pas ?_))
      rw [cl (by omega)]
      refine step _ ?_
      have hw : wV g n t = lbN (fS (gF g) t) (sD (gS g)) n 0 (sZ (gS g) t) := if_pos c
      have := lbN_le (k := fS (gF g) t) (d := sD (gS g)) n 0 _ (ho.2.1.z40 t)
      rw [hw]
      exact (if_neg (by omega)).symm
    · refine ok_t (Int32.not_le.mp (fun d => c (hz.mp d))) (ok_nn h60 (ok_t rfl (ok_t (ab_ok (t := 3) (N := 8) k60 ht (by decide)) (ok_pas ?_))))
      rw [cl (by omega)]
      refine step _ ?_
      have hw : wV g n t = 1000 := if_neg c
      rw [hw]; rfl
  · rintro E i ⟨rfl, hfr, hI⟩ rec
    obtain ⟨hE, -⟩ := hfr.cr h
    obtain ⟨n4, n5, n6, n7⟩ := hE.2.2.2.2.2.2
    have hk4 : kd nx 54 = 4 := kd_at (by omega) rfl
    unfold f_G_find_3
    refine ok_t (by decide) (ok_t hk4 (ok_pas (ok_t hsa.1 ?_)))
    rw [n5]
    have fr1 : FrG D (upd2 E 59 2 (nI (gM g).1)) := fun q hq => by rw [upd2_n (by omega)]; exact hfr q hq
    obtain ⟨hE1, -⟩ := fr1.cr h
    refine ok_call (howManyBorne_eq hsa hE1.2.2.2.1 h8 hN) ?_
    rw [upd2_s, upd_s]
    have go : ∀ x, x = nI (wP g n 0) → OkP (fun E => FrG D E ∧ E 59 2 = nI (gM g).1 ∧ E 59 3 = nI (wP g n (gM g).1) ∧ (0 < wP g n (gM g).1 → ∀ j, j < (gM g).1 → E 61 j = wL g n j)) (wk2 N (f_G_find_103 N nx P 59 54) (upd2 (upd2 E 59 2 (nI (gM g).1)) 59 3 x) 0) := by
      intro x hx
      refine wk2_run (I := fun t F i => i = nI t ∧ FrG D F ∧ F 59 2 = nI (gM g).1 ∧ F 59 3 = nI (wP g n t) ∧ (∀ j, j < 8 → F 60 j = wc (wR g n t j)) ∧ (0 < wP g n t → ∀ j, j < t → F 61 j = wL g n j)) (gM g).1 N _ _ (by omega) ⟨rfl, fun q hq => ?_, ?_, ?_, fun j hj => ?_, fun _ j hj => absurd hj (Nat.not_lt_zero j)⟩ ?_ ?_
      · rw [upd2_n (by omega)]; exact fr1 q hq
      · rw [upd2_s, upd_n (by decide), upd2_s, upd_s]
      · rw [upd2_s, upd_s]; exact hx
      · rw [upd2_n (by decide), upd2_n (by decide)]; exact hI j hj
      · rintro t ht F i ⟨rfl, hfrF, f2, f3, f60, f61⟩ rec hrec
        obtain ⟨hF, -⟩ := hfrF.cr h
        obtain ⟨m4, m5, m6, m7⟩ := hF.2.2.2.2.2.2
        have hmk : f_N_markAt N nx F P 54 (nI t) = some (nI ((gM g).2 t)) := by
          unfold f_N_markAt
          rw [if_pos hk4, if_neg (nI_nneg (by omega)), m5, if_neg (i2_lt ht (by omega)), if_neg (le8 (by omega)), hP.at (by decide) (show P0 54 3 = some 58 from rfl), nn_some, if_pos (ab_ok (t := 3) (N := 8) (kd_at (by omega) rfl) (by omega) (by decide)), cl (by omega), m7 t ht]
        unfold f_G_find_103
        rw [f2]
        refine ok_f (i2_lt ht (by omega)) (ok_f (le8 (by omega)) (ok_t hk4 (ok_call hmk (ok_bind (takeLowest_ok hP hn hN (wR_ok ho n t) f60 (hm.2 t ht) (by omega)) ?_))))
        rintro ⟨z, G⟩ ⟨z1, z2, z3, z4, z5, z6⟩
        have z1 : z = nI (dn (eqv (wR g n t) ((gM g).2 t)) 8).1 := z1
        have z6 : FrG F G := z6
        refine ok_pas ?_
        rw [f3]
        subst z1
        show OkP _ (rec (upd2 G 59 3 (nI (wP g n t) * nI (dn (eqv (wR g n t) ((gM g).2 t)) 8).1)) (nI t + 1))
        rw [nI_1, pk_mul]
        refine hrec _ _ ⟨rfl, fun q hq => ?_, ?_, ?_, fun j hj => ?_, fun hpos j hj => ?_⟩
        · rw [upd2_n (by omega)]; exact (z6 q hq).trans (hfrF q hq)
        · have z3 : G 59 = F 59 := z3
          rw [upd2_s, upd_n (by decide), z3]; exact f2
        · rw [upd2_s, upd_s]; rfl
        · rw [upd2_n (by decide)]; exact z2 j hj
        · obtain ⟨p1, p2⟩ := wP_pos hpos
          rw [upd2_n (by decide)]
          by_cases c : j = t
          · subst c
            cases e : (dn (eqv (wR g n j) ((gM g).2 j)) 8).2 with
            | none => exact absurd (dn_no _ 8 e) (by omega)
            | some u =>
              have : wL g n j = nI u := by unfold wL; rw [e]
              rw [this]; exact z5 u e
          · exact (z4 j c).trans (f61 p1 j (by omega))
      · rintro F i ⟨rfl, hfrF, f2, f3, f60, f61⟩ rec
        unfold f_G_find_103
        rw [f2]
        exact ok_t (i2_ge (Nat.le_refl _) (by omega)) (ok_some ⟨hfrF, f2, f3, f61⟩)
    have hb8 := ct_le (br' (gS g)) 8
    refine ok_ite (fun c => ok_pas (go 1 ?_)) (fun c => ok_pas (go 0 ?_))
    · have c := (nI_inj (by omega) (by omega)).mp c
      show (1 : Int32) = nI (if _ then 1 else 0)
      rw [if_pos c]; rfl
    · have c : ¬ ct (br' (gS g)) 8 = (gM g).1 := fun d => c ((nI_inj (by omega) (by omega)).mpr d)
      show (0 : Int32) = nI (if _ then 1 else 0)
      rw [if_neg c]; rfl
theorem H_which (h : CR D P g) (ho : GOK g) (hn : 97 ≤ nx) (hN : 100 ≤ N) (x y : Int32) : OkP (fun z => z.1 = oWhich g x y ∧ CR z.2 P g ∧ Hi D z.2) (f_H_which N nx D P 0 x y) := by
  have hP := h.1
  have hm := ho.2.2.2.2.2.2.1
  unfold f_H_which oWhich
  refine ok_t (kd_at (by omega) rfl) ?_
  rcases isW (N := N) (nx := nx) (D := D) (P := P) (x := x) (a := 0) (b := 20) (by decide) (by decide) with ⟨q, n, rfl, hn1, hn2⟩ | ⟨q, hc⟩
  · refine ok_call q (ok_f (by decide) ?_)
    rw [cl (by omega)]
    have hin := in_nI hn1 hn2 (by decide)
    by_cases r : (-1) ≤ y ∧ y ≤ nI 7
    · have hw : f_H_isWithin N nx D P y (-1) 7 = some 1 := by
        unfold f_H_isWithin
        rw [if_neg (Int32.not_lt.mpr r.1), if_neg (show ¬ (7 : Int32) < y from Int32.not_lt.mpr r.2)]
      have hwp : wP g n (gM g).1 ≤ 16777216 := Nat.le_trans (wP_le g n _ hm) (Nat.le_trans (Nat.pow_le_pow_right (by decide) hm) (by decide))
      rw [if_pos ⟨hin, r⟩]
      refine ok_call hw (ok_f (by decide) (ok_nn (hP.at (by decide) (show P0 0 8 = some 59 from rfl)) (ok_nn (hP.at (by decide) (show P0 0 3 = some 14 from rfl)) (ok_nn (hP.at (by decide) (show P0 0 7 = some 54 from rfl)) (ok_t (kd_at (by omega) rfl) (ok_bind (find_ok h ho hn hN hn2) (fun E hE => ?_)))))))
      obtain ⟨e1, e2, e3, e4⟩ := hE
      refine ok_ite (fun c => ok_some ⟨?_, e1.cr h⟩) (fun c => ?_)
      · show E 59 3 = _
        rw [if_pos c]; exact e3
      · rw [if_neg c]
        have hy0 : nI 0 ≤ y := by
          have h1 := Int32.le_iff_toInt_le.mp r.1
          refine Int32.le_iff_toInt_le.mpr ?_
          have h2 : (nI 0).toInt = 0 := by decide
          have h3 : (-1 : Int32).toInt = -1 := by decide
          have h4 : y.toInt ≠ -1 := fun d => c (Int32.toInt_inj.mp (d.trans h3.symm))
          omega
        obtain ⟨k, rfl, -, hk7⟩ := up hy0 r.2 (by decide) (by decide)
        rw [cl (by omega)]
        refine ok_call (y := if 0 < wP g n (gM g).1 ∧ k < (gM g).1 then wL g n k else -4) ?_ (ok_some ⟨rfl, e1.cr h⟩)
        apply ok_val
        unfold f_G_pinMarked
        rw [e2, e3]
        refine ok_t (kd_at (by omega) rfl) ?_
        by_cases c1 : 0 < wP g n (gM g).1
        · refine ok_f (by rw [lit 0, nI_le' (by omega) (by decide)]; omega) (ok_f (nI_nneg (by omega)) ?_)
          by_cases c2 : k < (gM g).1
          · rw [if_pos ⟨c1, c2⟩]
            refine ok_f (i2_lt c2 (by omega)) (ok_f (le8 (by omega)) (ok_nn (hP.at (by decide) (show P0 59 1 = some 61 from rfl)) (ok_t (ab_ok (t := 3) (N := 8) (kd_at (by omega) rfl) (by omega) (by decide)) (ok_some ?_))))
            rw [cl (by omega)]; exact e4 c1 k c2
          · rw [if_neg (fun d => c2 d.2)]
            exact ok_t (i2_ge (by omega) (by omega)) (ok_some rfl)
        · rw [if_neg (fun d => c1 d.1)]
          exact ok_t (by rw [lit 0, nI_le' (by omega) (by decide)]; omega) (ok_some rfl)
    · have hw : f_H_isWithin N nx D P y (-1) 7 = some 0 := by
        unfold f_H_isWithin
        by_cases r1 : y < -1
        · rw [if_pos r1]
        · rw [if_neg r1]
          rw [if_pos (show (7 : Int32) < y from Int32.not_le.mp (fun d => r ⟨Int32.not_lt.mp r1, d⟩))]
      rw [if_neg (fun c => r c.2)]
      exact ok_call hw (ok_t rfl (ok_some ⟨rfl, h, Hi.rf⟩))
  · rw [if_neg (fun c => hc c.1)]
    exact ok_call q (ok_t rfl (ok_some ⟨rfl, h, Hi.rf⟩))
end OH
