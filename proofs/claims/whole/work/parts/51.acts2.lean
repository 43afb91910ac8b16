/-! the class's acts: pins stuck, felt for, borne; days; ways back -/
def pushG (g : Gs) : Gs := puP g (pushN (gP g).1, pushU (gP g).1 (gP g).2 (gS g))
def isP (f : Fam) (x : Int32) : Bool := decide (¬ x < 0 ∧ x < nI (fN f))
def isT (f : Fam) (x : Int32) : Bool := decide (¬ x < 0 ∧ x < nI (fK f))
def oStick (g : Gs) (t : Int32) : Int32 × Gs := if isT (gF g) t = true then (if sP (gS g) t.toNatClampNeg < 5 ∧ sW (gS g) ≠ fD (gF g) then (nI (ld (setP (gS g) t.toNatClampNeg 5) 5 8), puS (pushG g) (setP (gS g) t.toNatClampNeg 5)) else (-2, g)) else (-1, g)
def oFeel (g : Gs) (t p : Int32) : Int32 × Gs := if isT (gF g) t = true ∧ isP (gF g) p = true then (if sP (gS g) t.toNatClampNeg = 5 then (nI (ld (setP (gS g) t.toNatClampNeg p.toNatClampNeg) p.toNatClampNeg 8), puS (pushG g) (setP (gS g) t.toNatClampNeg p.toNatClampNeg)) else (-2, g)) else (-1, g)
def oBear (g : Gs) (t p : Int32) : Int32 × Gs := if isT (gF g) t = true ∧ isP (gF g) p = true then (if sP (gS g) t.toNatClampNeg < 5 ∧ sP (gS g) t.toNatClampNeg ≠ p.toNatClampNeg then (nI (sP (gS g) t.toNatClampNeg), puS (pushG g) (setP (gS g) t.toNatClampNeg p.toNatClampNeg)) else (-2, g)) else (-1, g)
def oPass (g : Gs) (n : Int32) : Int32 × Gs := if nI 1 ≤ n ∧ n ≤ nI 24 then (sD (days (gF g) n.toNatClampNeg (gS g)), puS (pushG g) (days (gF g) n.toNatClampNeg (gS g))) else (-1, g)
def oUndo (g : Gs) : Int32 × Gs := if (gP g).1 = 0 then (-2, g) else (nI ((gP g).1 - 1), puP (puS g ((gP g).2 ((gP g).1 - 1))) ((gP g).1 - 1, (gP g).2))
def oKeep (g : Gs) : Int32 × Gs := if (gK g).1 < 2 then (nI ((gK g).1 + 1), puK g ((gK g).1 + 1, fun i => if i = (gK g).1 then gS g else (gK g).2 i)) else (-3, g)
def oBack (g : Gs) : Int32 × Gs := if (gK g).1 = 0 then (-2, g) else (nI ((gK g).1 - 1), puK (puP (puS g ((gK g).2 ((gK g).1 - 1))) (0, (gP g).2)) ((gK g).1 - 1, (gK g).2))
theorem num_up {x : Int32} {K : Nat} (hK : K < 1000) (h1 : ¬ x < 0) (h2 : x < nI K) : ∃ n, x = nI n ∧ n < K := by
  have h1 : nI 0 ≤ x := Int32.not_lt.mp h1
  obtain ⟨n, hn, -, h3⟩ := up (a := 0) (b := K) h1 (Int32.le_of_lt h2) hK (by decide)
  refine ⟨n, hn, ?_⟩
  rw [hn, nI_lt' (by omega) (by omega)] at h2
  exact h2
theorem isP_up {f : Fam} (hf : FamOK f) {x : Int32} (h : isP f x = true) : ∃ n, x = nI n ∧ n < fN f := by
  have h := of_decide_eq_true h
  have := hf.2.1
  exact num_up (by omega) h.1 h.2
theorem isT_up {f : Fam} (hf : FamOK f) {x : Int32} (h : isT f x = true) : ∃ n, x = nI n ∧ n < fK f := by
  have h := of_decide_eq_true h
  have := hf.2.2.1
  exact num_up (by omega) h.1 h.2
theorem TXc.nn {D E : Dt} {t : Nat × (Nat → Nat)} (h : TXc D t) (h1 : E 1 = D 1) (h2 : E 2 = D 2) : TXc E t := by
  unfold TXc; rw [h1, h2]; exact h
section OB
variable {N nx : Nat} {D : Dt} {P : Ft} {g : Gs}
theorem hasPerson_i {f : Fam} {a : Nat} (hfa : FaA nx P a) (h4 : CF D a f) (hf : FamOK f) (x : Int32) : f_F_hasPerson N nx D P a x = some (if isP f x = true then 1 else 0) := by
  rw [hasPerson_eq hfa h4.1 hf]
  unfold isP
  by_cases q : ¬ x < 0 ∧ x < nI (fN f)
  · rw [if_pos q, if_pos (decide_eq_true q)]
  · rw [if_neg q, if_neg (fun e => q (of_decide_eq_true e))]
theorem hasPin_i {f : Fam} {a : Nat} (hfa : FaA nx P a) (h4 : CF D a f) (hf : FamOK f) (x : Int32) : f_F_hasPin N nx D P a x = some (if isT f x = true then 1 else 0) := by
  rw [hasPin_eq hfa h4.2.1 hf.2.2.1]
  unfold isT
  by_cases q : ¬ x < 0 ∧ x < nI (fK f)
  · rw [if_pos q, if_pos (decide_eq_true q)]
  · rw [if_neg q, if_neg (fun e => q (of_decide_eq_true e))]
/-- what stands now and the ways back have changed, nothing else that is kept -/
theorem CR.st {D E : Dt} {P P' : Ft} {s : St} {p : Nat × (Nat → St)} (h : CR D P g) (hP : PB P') (hE : ∀ q, ¬ (14 ≤ q ∧ q ≤ 16) → ¬ (20 ≤ q ∧ q < 46) → E q = D q) (hs : CS E 14 s) (hp : ShR E P' 20 8 p.1 p.2) : CR E P' (puP (puS g s) p) := by
  obtain ⟨hP0, ht, hf, -, -, hk, hnr⟩ := h
  exact ⟨hP, ht.nn (hE 1 (by decide) (by decide)) (hE 2 (by decide) (by decide)), hf.nn (hE 4 (by decide) (by decide)) (hE 5 (by decide) (by decide)) (hE 6 (by decide) (by decide)) (hE 7 (by decide) (by decide)), hs, hp, (hk.nn (fun q h1 h2 => hE q (by omega) (by omega))).pp hP0 hP (by decide), hnr.nn (fun q h1 h2 => hE q (by omega) (by omega))⟩
/-- what there is when the way back has been kept -/
theorem put_all (h : CR D P g) (hn : 97 ≤ nx) (hN : 100 ≤ N) : OkP (fun z => PB z.2 ∧ ShR z.1 z.2 20 8 (pushN (gP g).1) (pushU (gP g).1 (gP g).2 (gS g)) ∧ CS z.1 14 (gS g) ∧ CF z.1 4 (gF g) ∧ ∀ q, ¬ (20 ≤ q ∧ q < 46) → z.1 q = D q) (f_S_put N nx D P 20 14) := by
  obtain ⟨hP, ht, hf, hs, hp, hk, hnr⟩ := h
  refine ok_imp (put20 hP hn hp hs hN) ?_
  rintro ⟨E, P'⟩ ⟨h1, h2, h3⟩
  have e : ∀ q, ¬ (20 ≤ q ∧ q < 46) → E q = D q := fun q hq => by
    have h3 : ∀ q, q ≠ 20 → (q < 20 + 2 ∨ 20 + 2 + 3 * 8 ≤ q) → E q = D q := h3
    exact h3 q (by omega) (by omega)
  exact ⟨h1, h2, hs.at1 (e 14 (by decide)) (e 15 (by decide)) (e 16 (by decide)), hf.nn (e 4 (by decide)) (e 5 (by decide)) (e 6 (by decide)) (e 7 (by decide)), e⟩
/-- an act on what stands now, after the way back has been kept -/
theorem acted {E : Dt} (z : Dt × Ft) {s' : St} (h : CR D P g) (hz : PB z.2 ∧ ShR z.1 z.2 20 8 (pushN (gP g).1) (pushU (gP g).1 (gP g).2 (gS g)) ∧ CS z.1 14 (gS g) ∧ CF z.1 4 (gF g) ∧ ∀ q, ¬ (20 ≤ q ∧ q < 46) → z.1 q = D q) (hE : CS E 14 s' ∧ Fr3 z.1 E 14) : CR E z.2 (puS (pushG g) s') ∧ Hi D E := by
  obtain ⟨h1, h2, h3, h4, h5⟩ := hz
  refine ⟨h.st h1 (fun q a b => ?_) hE.1 (h2.nn (fun q a b => hE.2 q (by omega) (by omega) (by omega))), fun q hq => ?_⟩
  · rw [hE.2 q (by omega) (by omega) (by omega)]; exact h5 q b
  · rw [hE.2 q (by omega) (by omega) (by omega)]; exact h5 q (by omega)
theorem H_stick (h : CR D P g) (ho : GOK g) (hn : 97 ≤ nx) (hN : 100 ≤ N) (x : Int32) : OkP (fun z => z.1 = (oStick g x).1 ∧ CR z.2.1 z.2.2 (oStick g x).2 ∧ Hi D z.2.1) (f_H_stick N nx D P 0 x) := by
  have hP := h.1
  have hf := ho.1
  have hfa := FaA.of4 (nx := nx) hP hn
  have hsa := StA.of (nx := nx) (a := 14) hP hn (by decide)
  unfold f_H_stick oStick
  refine ok_t (kd_at (by omega) rfl) (ok_nn (hP.at (by decide) (show P0 0 1 = some 4 from rfl)) (ok_t hfa.1 (ok_call (hasPin_i hfa h.2.2.1 hf x) ?_)))
  by_cases q : isT (gF g) x = true
  · obtain ⟨t, rfl, ht⟩ := isT_up hf q
    have hk := hf.2.2.1
    have h8 := (ho.2.1).p8 hf
    rw [if_pos q, if_pos q, cl (by omega)]
    refine ok_f (by decide) (ok_nn (hP.at (by decide) (show P0 0 3 = some 14 from rfl)) (ok_t hsa.1 (ok_call (canStick_eq hsa hfa h.2.2.1 h.2.2.2.1 hf ho.2.1 t (by omega)) ?_)))
    by_cases w : sP (gS g) t < 5 ∧ sW (gS g) ≠ fD (gF g)
    · rw [if_pos w, if_pos w]
      refine ok_f (by decide) (ok_nn (hP.at (by decide) (show P0 0 5 = some 20 from rfl)) (ok_t (kd_at (by omega) rfl) (ok_bind (put_all h hn hN) ?_)))
      rintro ⟨E, P'⟩ hz
      have hz' := hz
      obtain ⟨z1, z2, z3, z4, z5⟩ := hz'
      have hfa' := FaA.of4 (nx := nx) (P := P') z1 hn
      have hsa' := StA.of (nx := nx) (a := 14) (P := P') z1 hn (by decide)
      refine ok_nn (PB.at (P := P') z1 (by decide) (show P0 0 3 = some 14 from rfl)) (ok_t hsa'.1 (ok_bind (stickIn_ok hsa' hfa' z4 z3 hf ho.2.1 t (by omega)) (fun F hF => ?_)))
      rw [if_pos w] at hF
      have h9 : ∀ j, sP (setP (gS g) t 5) j ≤ 8 := fun j => by
        show (if j = t then 5 else sP (gS g) j) ≤ 8
        split
        · decide
        · exact h8 j
      exact ok_call (heartSum_eq hsa' hF.1 h9 hN) (ok_some ⟨rfl, acted (E, P') h hz hF⟩)
    · rw [if_neg w, if_neg w]
      exact ok_t rfl (ok_some ⟨rfl, h, Hi.rf⟩)
  · rw [if_neg q, if_neg q]
    exact ok_t rfl (ok_some ⟨rfl, h, Hi.rf⟩)
theorem set8 {s : St} {t p : Nat} (h : ∀ j, sP s j ≤ 8) (hp : p ≤ 8) (j : Nat) : sP (setP s t p) j ≤ 8 := by
  show (if j = t then p else sP s j) ≤ 8
  split
  · exact hp
  · exact h j
theorem H_feel (h : CR D P g) (ho : GOK g) (hn : 97 ≤ nx) (hN : 100 ≤ N) (x y : Int32) : OkP (fun z => z.1 = (oFeel g x y).1 ∧ CR z.2.1 z.2.2 (oFeel g x y).2 ∧ Hi D z.2.1) (f_H_feel N nx D P 0 x y) := by
  have hP := h.1
  have hf := ho.1
  have h8 := (ho.2.1).p8 hf
  have hk := hf.2.2.1
  have hn5 := hf.2.1
  have hfa := FaA.of4 (nx := nx) hP hn
  have hsa := StA.of (nx := nx) (a := 14) hP hn (by decide)
  unfold f_H_feel oFeel
  refine ok_t (kd_at (by omega) rfl) (ok_nn (hP.at (by decide) (show P0 0 1 = some 4 from rfl)) (ok_t hfa.1 (ok_call (hasPin_i hfa h.2.2.1 hf x) ?_)))
  by_cases q : isT (gF g) x = true
  · rw [if_pos q]
    refine ok_f (by decide) (ok_call (hasPerson_i hfa h.2.2.1 hf y) ?_)
    by_cases r : isP (gF g) y = true
    · obtain ⟨t, rfl, ht⟩ := isT_up hf q
      obtain ⟨p, rfl, hp⟩ := isP_up hf r
      rw [if_pos r, if_pos ⟨q, r⟩, cl (by omega), cl (by omega)]
      refine ok_f (by decide) (ok_nn (hP.at (by decide) (show P0 0 3 = some 14 from rfl)) (ok_t hsa.1 (ok_call (canFeel_eq hsa h.2.2.2.1 h8 t (by omega)) ?_)))
      by_cases w : sP (gS g) t = 5
      · rw [if_pos w, if_pos w]
        refine ok_f (by decide) (ok_nn (hP.at (by decide) (show P0 0 5 = some 20 from rfl)) (ok_t (kd_at (by omega) rfl) (ok_bind (put_all h hn hN) ?_)))
        rintro ⟨E, P'⟩ hz
        obtain ⟨z1, z2, z3, z4, z5⟩ := id hz
        have hfa' := FaA.of4 (nx := nx) (P := P') z1 hn
        have hsa' := StA.of (nx := nx) (a := 14) (P := P') z1 hn (by decide)
        refine ok_nn (PB.at (P := P') z1 (by decide) (show P0 0 3 = some 14 from rfl)) (ok_t hsa'.1 (ok_bind (feelFor_ok hsa' hfa' z4 z3 hf ho.2.1 t p (by omega) hp) (fun F hF => ?_)))
        rw [if_pos w] at hF
        exact ok_call (loadOf_eq hsa' hF.1 (set8 h8 (by omega)) hN p (by omega)) (ok_some ⟨rfl, acted (E, P') h hz hF⟩)
      · rw [if_neg w, if_neg w]
        exact ok_t rfl (ok_some ⟨rfl, h, Hi.rf⟩)
    · rw [if_neg r, if_neg (fun e => r e.2)]
      exact ok_t rfl (ok_some ⟨rfl, h, Hi.rf⟩)
  · rw [if_neg q, if_neg (fun e => q e.1)]
    exact ok_t rfl (ok_some ⟨rfl, h, Hi.rf⟩)
theorem H_bear (h : CR D P g) (ho : GOK g) (hn : 97 ≤ nx) (hN : 100 ≤ N) (x y : Int32) : OkP (fun z => z.1 = (oBear g x y).1 ∧ CR z.2.1 z.2.2 (oBear g x y).2 ∧ Hi D z.2.1) (f_H_bear N nx D P 0 x y) := by
  have hP := h.1
  have hf := ho.1
  have h8 := (ho.2.1).p8 hf
  have hk := hf.2.2.1
  have hn5 := hf.2.1
  have hfa := FaA.of4 (nx := nx) hP hn
  have hsa := StA.of (nx := nx) (a := 14) hP hn (by decide)
  unfold f_H_bear oBear
  refine ok_t (kd_at (by omega) rfl) (ok_nn (hP.at (by decide) (show P0 0 1 = some 4 from rfl)) (ok_t hfa.1 (ok_call (hasPin_i hfa h.2.2.1 hf x) ?_)))
  by_cases q : isT (gF g) x = true
  · rw [if_pos q]
    refine ok_f (by decide) (ok_call (hasPerson_i hfa h.2.2.1 hf y) ?_)
    by_cases r : isP (gF g) y = true
    · obtain ⟨t, rfl, ht⟩ := isT_up hf q
      obtain ⟨p, rfl, hp⟩ := isP_up hf r
      rw [if_pos r, if_pos ⟨q, r⟩, cl (by omega), cl (by omega)]
      refine ok_f (by decide) (ok_nn (hP.at (by decide) (show P0 0 3 = some 14 from rfl)) (ok_t hsa.1 (ok_call (canGive_eq hsa h.2.2.2.1 h8 t (by omega) p (by omega)) ?_)))
      by_cases w : sP (gS g) t < 5 ∧ sP (gS g) t ≠ p
      · rw [if_pos w, if_pos w]
        refine ok_f (by decide) (ok_call (whereIs_eq hsa h.2.2.2.1 t (by omega)) (ok_nn (hP.at (by decide) (show P0 0 5 = some 20 from rfl)) (ok_t (kd_at (by omega) rfl) (ok_bind (put_all h hn hN) ?_))))
        rintro ⟨E, P'⟩ hz
        obtain ⟨z1, z2, z3, z4, z5⟩ := id hz
        have hfa' := FaA.of4 (nx := nx) (P := P') z1 hn
        have hsa' := StA.of (nx := nx) (a := 14) (P := P') z1 hn (by decide)
        refine ok_nn (PB.at (P := P') z1 (by decide) (show P0 0 3 = some 14 from rfl)) (ok_t hsa'.1 (ok_bind (giveTo_ok hsa' hfa' z4 z3 hf ho.2.1 t p (by omega) hp) (fun F hF => ?_)))
        rw [if_pos w] at hF
        exact ok_some ⟨cw_per w.1, acted (E, P') h hz hF⟩
      · rw [if_neg w, if_neg w]
        exact ok_t rfl (ok_some ⟨rfl, h, Hi.rf⟩)
    · rw [if_neg r, if_neg (fun e => r e.2)]
      exact ok_t rfl (ok_some ⟨rfl, h, Hi.rf⟩)
  · rw [if_neg q, if_neg (fun e => q e.1)]
    exact ok_t rfl (ok_some ⟨rfl, h, Hi.rf⟩)
theorem in_nI {a b c : Nat} (h1 : a ≤ c) (h2 : c ≤ b) (hb : b < 1000) : nI a ≤ nI c ∧ nI c ≤ nI b := ⟨by rw [nI_le' (by omega) (by omega)]; exact h1, by rw [nI_le' (by omega) (by omega)]; exact h2⟩
theorem H_pass (h : CR D P g) (ho : GOK g) (hn : 97 ≤ nx) (hN : 100 ≤ N) (x : Int32) : OkP (fun z => z.1 = (oPass g x).1 ∧ CR z.2.1 z.2.2 (oPass g x).2 ∧ Hi D z.2.1) (f_H_pass N nx D P 0 x) := by
  have hP := h.1
  have hf := ho.1
  unfold f_H_pass oPass
  refine ok_t (kd_at (by omega) rfl) ?_
  rcases isW (N := N) (nx := nx) (D := D) (P := P) (x := x) (a := 1) (b := 24) (by decide) (by decide) with ⟨q, c, rfl, hc1, hc2⟩ | ⟨q, hc⟩
  · rw [if_pos (in_nI hc1 hc2 (by decide)), cl (by omega)]
    refine ok_call q (ok_f (by decide) (ok_nn (hP.at (by decide) (show P0 0 5 = some 20 from rfl)) (ok_nn (hP.at (by decide) (show P0 0 3 = some 14 from rfl)) (ok_t (kd_at (by omega) rfl) (ok_bind (put_all h hn hN) ?_)))))
    rintro ⟨E, P'⟩ hz
    obtain ⟨z1, z2, z3, z4, z5⟩ := id hz
    have hfa' := FaA.of4 (nx := nx) (P := P') z1 hn
    have hsa' := StA.of (nx := nx) (a := 14) (P := P') z1 hn (by decide)
    refine ok_nn (PB.at (P := P') z1 (by decide) (show P0 0 3 = some 14 from rfl)) (ok_t hsa'.1 (ok_bind (goDays_ok hsa' hfa' z4 z3 hf ho.2.1 (by decide) c (by omega) hN) (fun F hF => ?_)))
    exact ok_some ⟨hF.1.2.1, acted (E, P') h hz hF⟩
  · rw [if_neg hc]
    exact ok_call q (ok_t rfl (ok_some ⟨rfl, h, Hi.rf⟩))
theorem H_undo (h : CR D P g) (ho : GOK g) (hn : 97 ≤ nx) (hN : 100 ≤ N) : OkP (fun z => z.1 = (oUndo g).1 ∧ CR z.2 P (oUndo g).2 ∧ Hi D z.2) (f_H_undo N nx D P 0) := by
  have hP := h.1
  have hA := ShA.of20 (nx := nx) hP hn
  have hsa := StA.of (nx := nx) (a := 14) hP hn (by decide)
  have hp := h.2.2.2.2.1
  unfold f_H_undo oUndo
  refine ok_t (kd_at (by omega) rfl) (ok_nn (hP.at (by decide) (show P0 0 5 = some 20 from rfl)) (ok_nn (hP.at (by decide) (show P0 0 3 = some 14 from rfl)) (ok_t (kd_at (by omega) rfl) ?_)))
  by_cases q : (gP g).1 = 0
  · rw [if_pos q]
    rw [q] at hp
    exact ok_call (take_none hA hp) (ok_t rfl (ok_some ⟨rfl, h, Hi.rf⟩))
  · rw [if_neg q]
    obtain ⟨m, hm⟩ : ∃ m, (gP g).1 = m + 1 := ⟨(gP g).1 - 1, by omega⟩
    rw [hm] at hp ⊢
    refine ok_bind (take_ok hA hsa (by decide) hp hN) ?_
    rintro ⟨w, E⟩ ⟨h1, h2, h3, h4⟩
    have h1 : w = 1 := h1
    have h4 : ∀ q, q ≠ 20 → q ≠ 14 → q ≠ 14 + 1 → q ≠ 14 + 2 → E q = D q := h4
    refine ok_f (by show ¬ w = 0; rw [h1]; decide) (ok_some ⟨h2.1, ?_, fun q hq => h4 q (by omega) (by omega) (by omega) (by omega)⟩)
    exact h.st (E := E) hP (fun q a b => h4 q (by omega) (by omega) (by omega) (by omega)) h3 h2
theorem H_keep (h : CR D P g) (ho : GOK g) (hn : 97 ≤ nx) (hN : 100 ≤ N) : OkP (fun z => z.1 = (oKeep g).1 ∧ CR z.2.1 z.2.2 (oKeep g).2 ∧ Hi D z.2.1) (f_H_keep N nx D P 0) := by
  have hA := ShA.of46 (nx := nx) h.1 hn
  have hsa := StA.of (nx := nx) (a := 14) h.1 hn (by decide)
  have hm2 := ho.2.2.2.2.1.1
  obtain ⟨hP, ht, hf, hs, hp, hk, hnr⟩ := id h
  unfold f_H_keep oKeep
  refine ok_t (kd_at (by omega) rfl) (ok_nn (hP.at (by decide) (show P0 0 6 = some 46 from rfl)) (ok_t (kd_at (by omega) rfl) ?_))
  rw [hk.1]
  by_cases q : (gK g).1 < 2
  · rw [if_pos q]
    refine ok_t (by rw [lit 2, nI_lt' (by omega) (by decide)]; exact q) (ok_nn (hP.at (by decide) (show P0 0 3 = some 14 from rfl)) (ok_bind (put_in hA hsa (by decide) hk q hs hN) ?_))
    rintro ⟨E, P'⟩ ⟨h1, h2, h3⟩
    have h1 : P' = P := h1
    subst h1
    have e : ∀ q, q < 46 ∨ 54 ≤ q → E q = D q := fun q hq => by
      have h3 : ∀ q, q ≠ 46 → (q < 46 + 2 ∨ 46 + 2 + 3 * 2 ≤ q) → E q = D q := h3
      exact h3 q (by omega) (by omega)
    refine ok_nn (hP.at (by decide) (show P0 0 6 = some 46 from rfl)) (ok_t (kd_at (by omega) rfl) (ok_some ⟨h2.1, ?_, fun q hq => e q (by omega)⟩))
    exact ⟨hP, ht.nn (e 1 (by decide)) (e 2 (by decide)), hf.nn (e 4 (by decide)) (e 5 (by decide)) (e 6 (by decide)) (e 7 (by decide)), hs.at1 (e 14 (by decide)) (e 15 (by decide)) (e 16 (by decide)), hp.nn (fun q h1 h2 => e q (by omega)), h2, hnr.nn (fun q h1 h2 => e q (by omega))⟩
  · rw [if_neg q]
    exact ok_f (by rw [lit 2, nI_lt' (by omega) (by decide)]; exact q) (ok_some ⟨rfl, h, Hi.rf⟩)
theorem S_clear {b c m : Nat} {u : Nat → St} (hA : ShA nx P b c) (h : ShR D P b c m u) : ∃ E, f_S_clear N nx D P b = some E ∧ (∀ q, q ≠ b → E q = D q) ∧ ShR E P b c 0 u := by
  refine ⟨upd2 D b 1 0, ?_, fun q hq => upd2_n hq, ?_, Nat.zero_le _, ?_⟩
  · unfold f_S_clear
    rw [if_pos hA.1]; rfl
  · rw [upd2_s, upd_s]; rfl
  · obtain ⟨h1, h2, g, hg, hu⟩ := h
    exact ⟨g, hg, fun i hi => absurd hi (Nat.not_lt_zero i)⟩
theorem H_back (h : CR D P g) (ho : GOK g) (hn : 97 ≤ nx) (hN : 100 ≤ N) : OkP (fun z => z.1 = (oBack g).1 ∧ CR z.2 P (oBack g).2 ∧ Hi D z.2) (f_H_back N nx D P 0) := by
  have hA := ShA.of46 (nx := nx) h.1 hn
  have hA2 := ShA.of20 (nx := nx) h.1 hn
  have hsa := StA.of (nx := nx) (a := 14) h.1 hn (by decide)
  obtain ⟨hP, ht, hf, hs, hp, hk, hnr⟩ := id h
  unfold f_H_back oBack
  refine ok_t (kd_at (by omega) rfl) (ok_nn (hP.at (by decide) (show P0 0 6 = some 46 from rfl)) (ok_nn (hP.at (by decide) (show P0 0 3 = some 14 from rfl)) (ok_t (kd_at (by omega) rfl) ?_)))
  by_cases q : (gK g).1 = 0
  · rw [if_pos q]
    rw [q] at hk
    exact ok_call (take_none hA hk) (ok_t rfl (ok_some ⟨rfl, h, Hi.rf⟩))
  · rw [if_neg q]
    obtain ⟨m, hm⟩ : ∃ m, (gK g).1 = m + 1 := ⟨(gK g).1 - 1, by omega⟩
    rw [hm] at hk ⊢
    refine ok_bind (take_ok hA hsa (by decide) hk hN) ?_
    rintro ⟨w, E⟩ ⟨h1, h2, h3, h4⟩
    have h1 : w = 1 := h1
    have h4 : ∀ q, q ≠ 46 → q ≠ 14 → q ≠ 14 + 1 → q ≠ 14 + 2 → E q = D q := h4
    obtain ⟨F, f1, f2, f3⟩ := S_clear (N := N) (D := E) hA2 (hp.nn (fun q a b => h4 q (by omega) (by omega) (by omega) (by omega)))
    have e : ∀ q, q ≠ 20 → q ≠ 46 → q ≠ 14 → q ≠ 15 → q ≠ 16 → F q = D q := fun q a b c d e => (f2 q a).trans (h4 q b c d e)
    refine ok_f (by show ¬ w = 0; rw [h1]; decide) (ok_nn (hP.at (by decide) (show P0 0 5 = some 20 from rfl)) (ok_t (kd_at (by omega) rfl) (ok_call f1 (ok_some ⟨?_, ?_, fun q hq => e q (by omega) (by omega) (by omega) (by omega) (by omega)⟩))))
    · show F 46 1 = nI (m + 1 - 1)
      rw [f2 46 (by decide)]; exact h2.1
    · exact ⟨hP, ht.nn (e 1 (by decide) (by decide) (by decide) (by decide) (by decide)) (e 2 (by decide) (by decide) (by decide) (by decide) (by decide)), hf.nn (e 4 (by decide) (by decide) (by decide) (by decide) (by decide)) (e 5 (by decide) (by decide) (by decide) (by decide) (by decide)) (e 6 (by decide) (by decide) (by decide) (by decide) (by decide)) (e 7 (by decide) (by decide) (by decide) (by decide) (by decide)), h3.at1 (f2 14 (by decide)) (f2 15 (by decide)) (f2 16 (by decide)), f3, h2.nn (fun q a b => f2 q (by omega)), hnr.nn (fun q h1 h2 => e q (by omega) (by omega) (by omega) (by omega) (by omega))⟩
end OB
