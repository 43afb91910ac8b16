/-! the class: pairs, relief, kinds, the best set -/
/-- the first index from j on, among n -/
def fsi (c : Nat → Bool) : Nat → Nat → Option Nat
  | 0, _ => none
  | n + 1, j => if c j = true then some j else fsi c n (j + 1)
def prC (s : St) (v i j : Nat) : Bool := decide (sP s i < 6 ∧ sP s j < 6 ∧ sZ s i + sZ s j = v)
def prO (s : St) (v : Nat) : Nat → Nat → Int32
  | 0, _ => -4
  | n + 1, i => match fsi (prC s v i) n (i + 1) with
    | some j => nI (10 * i + j)
    | none => prO s v n (i + 1)
theorem fsi_s {c : Nat → Bool} {n j : Nat} : fsi c (n + 1) j = if c j = true then some j else fsi c n (j + 1) := rfl
theorem prO_s {s : St} {v n i : Nat} : prO s v (n + 1) i = match fsi (prC s v i) n (i + 1) with
    | some j => nI (10 * i + j)
    | none => prO s v n (i + 1) := rfl
def oPair (g : Gs) (v : Int32) : Int32 := if nI 2 ≤ v ∧ v ≤ nI 80 then prO (gS g) v.toNatClampNeg 8 0 else -1
def rlS (f : Fam) (s : St) (t : Nat) (b : Option (Nat × Nat)) : Option (Nat × Nat) := if sP s t < 5 then (match b with
  | none => some (t, ct (brk f (setP s t 8)) (fN f))
  | some u => if ct (brk f (setP s t 8)) (fN f) < u.2 then some (t, ct (brk f (setP s t 8)) (fN f)) else if ct (brk f (setP s t 8)) (fN f) = u.2 ∧ sZ s u.1 < sZ s t then some (t, ct (brk f (setP s t 8)) (fN f)) else b) else b
def rl (f : Fam) (s : St) : Nat → Option (Nat × Nat)
  | 0 => none
  | t + 1 => rlS f s t (rl f s t)
def oRelief (g : Gs) (w : Int32) : Int32 := if nI 0 ≤ w ∧ w ≤ nI 1 then (match rl (gF g) (gS g) 8 with
  | none => -4
  | some u => if w = 0 then nI u.1 else nI u.2) else -1
def lbN (k : Nat) (d : Int32) : Nat → Nat → Nat → Nat
  | 0, _, z => z
  | n + 1, i, z => if z = 0 then 0 else lbN k d n (i + 1) (gr k z (ev (d + nI i)))
theorem lbN_s {k : Nat} {d : Int32} {n i z : Nat} : lbN k d (n + 1) i z = if z = 0 then 0 else lbN k d n (i + 1) (gr k z (ev (d + nI i))) := rfl
def fit (g : Gs) (t k : Nat) : Bool := decide (∀ i, i < (gN g).1 → ((gN g).2 i).1 = t → lbN k (sD (gS g)) ((gN g).2 i).2.1 0 (sZ (gS g) t) = ((gN g).2 i).2.2)
def oKinds (g : Gs) (t : Int32) : Int32 := if isT (gF g) t = true then nI (bt (fit g t.toNatClampNeg) 4) else -1
section OE
variable {N nx : Nat} {D : Dt} {P : Ft} {g : Gs}
theorem isAbout_i {s : St} {a : Nat} (hs : StA nx P a) (hc : CS D a s) (hp : ∀ t, sP s t ≤ 8) (t : Nat) (ht : t < 8) : f_C_isAbout N nx D P a (nI t) = some (if sP s t < 6 then 1 else 0) := by
  have h1 := cw_ge1 (sP s t) (by have := hp t; omega)
  have h2 := cw_lt1 (sP s t) (by have := hp t; omega)
  rw [isAbout_eq hs hc hp t ht]
theorem H_pair (h : CR D P g) (ho : GOK g) (hn : 97 ≤ nx) (hN : 100 ≤ N) (x : Int32) : f_H_pair N nx D P 0 x = some (oPair g x) := by
  have hP := h.1
  have h8 := (ho.2.1).p8 ho.1
  have hsa := StA.of (nx := nx) (a := 14) hP hn (by decide)
  have hP3 : P 0 3 = some 14 := hP.at (by decide) rfl
  apply ok_val
  unfold f_H_pair oPair
  refine ok_t (kd_at (by omega) rfl) ?_
  rcases isW (N := N) (nx := nx) (D := D) (P := P) (x := x) (a := 2) (b := 80) (by decide) (by decide) with ⟨q, v, rfl, hv1, hv2⟩ | ⟨q, hc⟩
  · rw [if_pos (in_nI hv1 hv2 (by decide)), cl (by omega)]
    refine ok_call q (ok_f (by decide) ?_)
    refine wk1_run (I := fun t i => i = nI t ∧ prO (gS g) v (8 - t) t = prO (gS g) v 8 0) 8 N _ (by omega) ⟨rfl, rfl⟩ ?_ ?_
    · rintro t ht i ⟨rfl, heq⟩ rec hrec
      unfold f_H_pair_14
      refine ok_f (le8 ht) ?_
      rw [nI_1]
      rw [show 8 - t = (7 - t) + 1 by omega] at heq
      rw [prO_s] at heq
      refine wk1_run (I := fun u i => i = nI (t + 1 + u) ∧ t + 1 + u ≤ 8 ∧ fsi (prC (gS g) v t) (7 - t - u) (t + 1 + u) = fsi (prC (gS g) v t) (7 - t) (t + 1)) (7 - t) N _ (by omega) ⟨rfl, by omega, rfl⟩ ?_ ?_
      · rintro u hu i ⟨rfl, h88, hfs⟩ rec2 hrec2
        unfold f_H_pair_24
        refine ok_f (le8 (by omega)) (ok_nn hP3 (ok_t hsa.1 (ok_call (isAbout_i hsa h.2.2.2.1 h8 t ht) ?_)))
        rw [show 7 - t - u = (7 - t - (u + 1)) + 1 by omega] at hfs
        rw [fsi_s] at hfs
        have hz1 := ho.2.1.z40 t
        have hz2 := ho.2.1.z40 (t + 1 + u)
        have next : prC (gS g) v t (t + 1 + u) = false → OkP (fun z => z = prO (gS g) v 8 0) (rec2 (nI (t + 1 + u) + 1)) := by
          intro hf
          rw [if_neg (by rw [hf]; decide)] at hfs
          rw [nI_1]
          exact hrec2 _ ⟨rfl, by omega, hfs⟩
        by_cases c1 : sP (gS g) t < 6
        · rw [if_pos c1]
          refine ok_f (by decide) (ok_call (isAbout_i hsa h.2.2.2.1 h8 (t + 1 + u) (by omega)) ?_)
          by_cases c2 : sP (gS g) (t + 1 + u) < 6
          · rw [if_pos c2]
            refine ok_f (by decide) (ok_call (largeOf_eq hsa h.2.2.2.1 t ht) (ok_call (largeOf_eq hsa h.2.2.2.1 (t + 1 + u) (by omega)) ?_))
            rw [nI_add]
            refine ok_ite (fun e => ?_) (fun e => ?_)
            · have e := (nI_inj (by omega) (by omega)).mp e
              have hp : prC (gS g) v t (t + 1 + u) = true := decide_eq_true ⟨c1, c2, e⟩
              rw [if_pos hp] at hfs
              rw [← hfs] at heq
              refine ok_some ?_
              rw [← heq]
              have : ∀ a, a < 8 → ∀ b, b < 9 → (10 : Int32) * nI a + nI b = nI (10 * a + b) := by decide
              exact this t ht _ (by omega)
            · refine next (decide_eq_false (fun c => e ?_))
              rw [c.2.2]
          · rw [if_neg c2]
            exact ok_t rfl (next (decide_eq_false (fun c => c2 c.2.1)))
        · rw [if_neg c1]
          exact ok_t rfl (next (decide_eq_false (fun c => c1 c.1)))
      · rintro i ⟨rfl, h88, hfs⟩ rec2
        unfold f_H_pair_24
        rw [show 7 - t - (7 - t) = 0 by omega] at hfs
        rw [show fsi (prC (gS g) v t) 0 (t + 1 + (7 - t)) = none from rfl] at hfs
        rw [← hfs] at heq
        refine ok_t (by rw [show t + 1 + (7 - t) = 8 by omega]; decide) ?_
        rw [nI_1]
        exact hrec _ ⟨rfl, by rw [show 8 - (t + 1) = 7 - t by omega]; exact heq⟩
    · rintro i ⟨rfl, heq⟩ rec
      unfold f_H_pair_14
      exact ok_t (by decide) (ok_some heq)
  · rw [if_neg hc]
    exact ok_call q (ok_t rfl (ok_some rfl))
theorem CR.same {E : Dt} (h : CR D P g) (hE : CS E 14 (gS g) ∧ Fr3 D E 14) : CR E P g ∧ Hi D E :=
  ⟨h.st h.1 (fun q a b => hE.2 q (by omega) (by omega) (by omega)) hE.1 (h.2.2.2.2.1.nn (fun q a b => hE.2 q (by omega) (by omega) (by omega))), fun q hq => hE.2 q (by omega) (by omega) (by omega)⟩
theorem H_relief (h : CR D P g) (ho : GOK g) (hn : 97 ≤ nx) (hN : 100 ≤ N) (x : Int32) : OkP (fun z => z.1 = oRelief g x ∧ CR z.2 P g ∧ Hi D z.2) (f_H_relief N nx D P 0 x) := by
  have hP := h.1
  have hf := ho.1
  have h8 := (ho.2.1).p8 hf
  have hn5 := hf.2.1
  have hfa := FaA.of4 (nx := nx) hP hn
  have hsa := StA.of (nx := nx) (a := 14) hP hn (by decide)
  have hP3 : P 0 3 = some 14 := hP.at (by decide) rfl
  unfold f_H_relief oRelief
  refine ok_t (kd_at (by omega) rfl) ?_
  rcases isW (N := N) (nx := nx) (D := D) (P := P) (x := x) (a := 0) (b := 1) (by decide) (by decide) with ⟨q, w, rfl, hw1, hw2⟩ | ⟨q, hc⟩
  · rw [if_pos (in_nI hw1 hw2 (by decide))]
    refine ok_call q (ok_f (by decide) ?_)
    refine wk4_run (I := fun t E i2 i3 i => i = nI t ∧ CR E P g ∧ Hi D E ∧ match rl (gF g) (gS g) t with | none => i2 = (-4 : Int32) | some u => i2 = nI u.1 ∧ i3 = nI u.2 ∧ u.1 < 8 ∧ u.2 ≤ 5) 8 N _ _ _ _ (by omega) ⟨rfl, h, Hi.rf, rfl⟩ ?_ ?_
    · rintro t ht E i2 i3 i ⟨rfl, hE, hhi, hb⟩ rec hrec
      have hw := whereIs_eq (N := N) hsa hE.2.2.2.1 t ht
      have hz := cw_neg (sP (gS g) t) (by have := h8 t; omega)
      have hc5 : ct (brk (gF g) (setP (gS g) t 8)) (fN (gF g)) ≤ 5 := Nat.le_trans (ct_le _ _) hn5
      unfold f_H_relief_19
      refine ok_f (le8 ht) (ok_nn hP3 (ok_t hsa.1 (ok_call hw ?_)))
      by_cases c1 : sP (gS g) t < 5
      · refine ok_f (Int32.not_lt.mpr (hz.mpr c1)) (ok_bind (breakingWithout_ok hsa hfa hE.2.2.1 hE.2.2.2.1 hf ho.2.1 (by decide) t ht hN) ?_)
        rintro ⟨z, F⟩ ⟨hz1, hz2⟩
        have hz1 : z = nI (ct (brk (gF g) (setP (gS g) t 8)) (fN (gF g))) := hz1
        obtain ⟨hF, hF2⟩ := hE.same hz2
        subst hz1
        cases e : rl (gF g) (gS g) t with
        | none =>
          rw [e] at hb
          have hb : i2 = -4 := hb
          refine ok_t (by rw [hb]; decide) ?_
          unfold f_H_relief_85
          rw [nI_1]
          refine hrec _ _ _ _ ⟨rfl, hF, hhi.tr hF2, ?_⟩
          have : rl (gF g) (gS g) (t + 1) = some (t, ct (brk (gF g) (setP (gS g) t 8)) (fN (gF g))) := by
            show rlS _ _ t (rl (gF g) (gS g) t) = _
            rw [e]; exact if_pos c1
          rw [this]
          exact ⟨rfl, rfl, ht, hc5⟩
        | some u =>
          rw [e] at hb
          obtain ⟨rfl, rfl, hu1, hu2⟩ : i2 = nI u.1 ∧ i3 = nI u.2 ∧ u.1 < 8 ∧ u.2 ≤ 5 := hb
          have er : rl (gF g) (gS g) (t + 1) = if ct (brk (gF g) (setP (gS g) t 8)) (fN (gF g)) < u.2 then some (t, ct (brk (gF g) (setP (gS g) t 8)) (fN (gF g))) else if ct (brk (gF g) (setP (gS g) t 8)) (fN (gF g)) = u.2 ∧ sZ (gS g) u.1 < sZ (gS g) t then some (t, ct (brk (gF g) (setP (gS g) t 8)) (fN (gF g))) else some u := by
            show rlS _ _ t (rl (gF g) (gS g) t) = _
            rw [e]; exact if_pos c1
          refine ok_f (nI_nneg (by omega)) ?_
          unfold f_H_relief_85
          refine ok_ite (fun c2 => ?_) (fun c2 => ok_ite (fun c3 => ?_) (fun c3 => ?_))
          · have c2 := (nI_lt' (by omega) (by omega)).mp c2
            rw [nI_1]
            refine hrec _ _ _ _ ⟨rfl, hF, hhi.tr hF2, ?_⟩
            rw [er, if_pos c2]
            exact ⟨rfl, rfl, ht, hc5⟩
          · have c2 : ¬ _ < u.2 := fun c => c2 ((nI_lt' (by omega) (by omega)).mpr c)
            have c3 := (nI_inj (by omega) (by omega)).mp c3
            refine ok_call (largeOf_eq hsa hF.2.2.2.1 t ht) (ok_call (largeOf_eq hsa hF.2.2.2.1 u.1 hu1) ?_)
            have hz1 := ho.2.1.z40 t
            have hz2 := ho.2.1.z40 u.1
            rw [nI_1]
            refine ok_ite (fun c4 => ?_) (fun c4 => ?_)
            · have c4 := (nI_le' (by omega) (by omega)).mp c4
              refine hrec _ _ _ _ ⟨rfl, hF, hhi.tr hF2, ?_⟩
              rw [er, if_neg c2, if_neg (fun c => by omega)]
              exact ⟨rfl, rfl, hu1, hu2⟩
            · have c4 : ¬ _ ≤ sZ (gS g) u.1 := fun c => c4 ((nI_le' (by omega) (by omega)).mpr c)
              refine hrec _ _ _ _ ⟨rfl, hF, hhi.tr hF2, ?_⟩
              rw [er, if_neg c2, if_pos ⟨c3, by omega⟩]
              exact ⟨rfl, rfl, ht, hc5⟩
          · have c2 : ¬ _ < u.2 := fun c => c2 ((nI_lt' (by omega) (by omega)).mpr c)
            have c3 : ¬ _ = u.2 := fun c => c3 ((nI_inj (by omega) (by omega)).mpr c)
            rw [nI_1]
            refine hrec _ _ _ _ ⟨rfl, hF, hhi.tr hF2, ?_⟩
            rw [er, if_neg c2, if_neg (fun c => c3 c.1)]
            exact ⟨rfl, rfl, hu1, hu2⟩
      · refine ok_t (Int32.not_le.mp (fun c => c1 (hz.mp c))) ?_
        rw [nI_1]
        refine hrec _ _ _ _ ⟨rfl, hE, hhi, ?_⟩
        have : rl (gF g) (gS g) (t + 1) = rl (gF g) (gS g) t := if_neg c1
        rw [this]; exact hb
    · rintro E i2 i3 i ⟨rfl, hE, hhi, hb⟩ rec
      unfold f_H_relief_19
      refine ok_t (by decide) ?_
      cases e : rl (gF g) (gS g) 8 with
      | none =>
        rw [e] at hb
        have hb : i2 = -4 := hb
        exact ok_t (by rw [hb]; decide) (ok_some ⟨hb, hE, hhi⟩)
      | some u =>
        rw [e] at hb
        obtain ⟨rfl, rfl, hu1, hu2⟩ : i2 = nI u.1 ∧ i3 = nI u.2 ∧ u.1 < 8 ∧ u.2 ≤ 5 := hb
        refine ok_f (nI_nneg (by omega)) (ok_ite (fun c => ok_some ⟨?_, hE, hhi⟩) (fun c => ok_some ⟨?_, hE, hhi⟩))
        · show nI u.1 = if nI w = 0 then _ else _
          rw [if_pos c]
        · show nI u.2 = if nI w = 0 then _ else _
          rw [if_neg c]
  · rw [if_neg hc]
    exact ok_call q (ok_t rfl (ok_some ⟨rfl, h, Hi.rf⟩))
theorem largeBehind_eq {k z n : Nat} {d : Int32} (hk : k ≤ 3) (hz : z ≤ 40) (hn : n ≤ 60) (hN : 100 ≤ N) : f_H_largeBehind N nx D P (nI k) (nI z) d (nI n) = some (nI (lbN k d n 0 z)) := by
  apply ok_val
  unfold f_H_largeBehind
  refine wk2_run (I := fun t i4 i5 => i5 = nI t ∧ ∃ y, y ≤ 40 ∧ i4 = nI y ∧ lbN k d (n - t) t y = lbN k d n 0 z) n N _ _ (by omega) ⟨rfl, z, hz, rfl, rfl⟩ ?_ ?_
  · rintro t ht i4 i5 ⟨rfl, y, hy, rfl, heq⟩ rec hrec
    unfold f_H_largeBehind_6
    rw [show n - t = (n - (t + 1)) + 1 by omega] at heq
    rw [lbN_s] at heq
    refine ok_f (i2_lt ht (by omega)) (ok_ite (fun c => ?_) (fun c => ?_))
    · rw [lit 0, nI_le' (by omega) (by decide)] at c
      rw [if_pos (by omega)] at heq
      refine ok_some ?_
      rw [← heq, show y = 0 by omega]
    · rw [lit 0, nI_le' (by omega) (by decide)] at c
      rw [if_neg (by omega)] at heq
      refine ok_call (lbd_eq hk ⟨by omega, hy⟩) ?_
      rw [nI_1]
      exact hrec _ _ ⟨rfl, _, gr_le hy, rfl, heq⟩
  · rintro i4 i5 ⟨rfl, y, hy, rfl, heq⟩ rec
    unfold f_H_largeBehind_6
    rw [show n - n = 0 by omega] at heq
    exact ok_t (i2_ge (Nat.le_refl _) (by omega)) (ok_some (by rw [← heq]; rfl))
theorem H_kinds (h : CR D P g) (ho : GOK g) (hn : 97 ≤ nx) (hN : 100 ≤ N) (x : Int32) : f_H_kinds N nx D P 0 x = some (oKinds g x) := by
  have hP := h.1
  have hf := ho.1
  have hk8 := hf.2.2.1
  have hm := ho.2.2.2.2.2.1
  have hfa := FaA.of4 (nx := nx) hP hn
  have hsa := StA.of (nx := nx) (a := 14) hP hn (by decide)
  have hk4 : kd nx 54 = 4 := kd_at (by omega) rfl
  obtain ⟨n4, n5, n6, n7⟩ := h.2.2.2.2.2.2
  apply ok_val
  unfold f_H_kinds oKinds
  refine ok_t (kd_at (by omega) rfl) (ok_nn (hP.at (by decide) (show P0 0 1 = some 4 from rfl)) (ok_t hfa.1 (ok_call (hasPin_i hfa h.2.2.1 hf x) ?_)))
  by_cases q : isT (gF g) x = true
  · obtain ⟨t, rfl, ht⟩ := isT_up hf q
    rw [if_pos q, if_pos q, cl (by omega)]
    refine ok_f (by decide) ?_
    have hz := ho.2.1.z40 t
    have hall : ∀ k, k ≤ 3 → f_N_allSeenFit N nx D P 54 (nI t) (nI k) (nI (sZ (gS g) t)) (D 14 4) = some (if fit g t k = true then 1 else 0) := by
      intro k hk
      apply ok_val
      unfold f_N_allSeenFit
      refine ok_t hk4 ?_
      rw [h.2.2.2.1.2.1]
      refine wk1_run (I := fun j i => i = nI j ∧ ∀ i, i < j → ((gN g).2 i).1 = t → lbN k (sD (gS g)) ((gN g).2 i).2.1 0 (sZ (gS g) t) = ((gN g).2 i).2.2) (gN g).1 N _ (by omega) ⟨rfl, fun i hi => absurd hi (Nat.not_lt_zero i)⟩ ?_ ?_
      · rintro j hj i ⟨rfl, hI⟩ rec hrec
        obtain ⟨b1, b2, b3⟩ := hm.2 j hj
        obtain ⟨s1, s2, s3⟩ := n6 j hj
        have ab : ∀ a, a = 55 ∨ a = 56 ∨ a = 57 → ab nx a 3 (nI j) = true := by
          rintro a (rfl | rfl | rfl) <;> exact ab_ok (t := 3) (N := 8) (kd_at (by omega) rfl) (by omega) (by decide)
        unfold f_N_allSeenFit_3
        rw [n4]
        refine ok_f (i2_lt hj (by omega)) (ok_f (le8 (by omega)) (ok_nn (hP.at (by decide) (show P0 54 0 = some 55 from rfl)) (ok_t (ab 55 (by decide)) ?_)))
        rw [cl (by omega), s1]
        have next : (((gN g).2 j).1 = t → lbN k (sD (gS g)) ((gN g).2 j).2.1 0 (sZ (gS g) t) = ((gN g).2 j).2.2) → OkP (fun z => z = if fit g t k = true then (1 : Int32) else 0) (rec (nI j + 1)) := by
          intro hj'
          rw [nI_1]
          refine hrec _ ⟨rfl, fun i hi => ?_⟩
          rcases Nat.lt_or_ge i j with w | w
          · exact hI i w
          · rw [show i = j by omega]; exact hj'
        refine ok_ite (fun c => ?_) (fun c => ?_)
        · have c := (nI_inj (by omega) (by omega)).mp c
          refine ok_nn (hP.at (by decide) (show P0 54 1 = some 56 from rfl)) (ok_t (ab 56 (by decide)) ?_)
          rw [s2]
          refine ok_call (largeBehind_eq hk hz (by omega) hN) (ok_nn (hP.at (by decide) (show P0 54 2 = some 57 from rfl)) (ok_t (ab 57 (by decide)) ?_))
          rw [s3]
          have hl40 : ∀ n i z, z ≤ 40 → lbN k (sD (gS g)) n i z ≤ 40 := by
            intro n
            induction n with
            | zero => intro i z hz; exact hz
            | succ n ih =>
              intro i z hz
              unfold lbN
              split
              · omega
              · exact ih _ _ (gr_le hz)
          have hl := hl40 ((gN g).2 j).2.1 0 (sZ (gS g) t) hz
          refine ok_ite (fun c2 => next (fun _ => (nI_inj (by omega) (by omega)).mp c2)) (fun c2 => ok_some ?_)
          rw [if_neg]
          intro hfit
          exact c2 (by rw [of_decide_eq_true hfit j hj c])
        · exact next (fun c2 => absurd (by rw [c2]) c)
      · rintro i ⟨rfl, hI⟩ rec
        unfold f_N_allSeenFit_3
        rw [n4]
        exact ok_t (i2_ge (Nat.le_refl _) (by omega)) (ok_some (by rw [if_pos (show fit g t k = true from decide_eq_true hI)]))
    refine wk2_run (I := fun k i2 i3 => i3 = nI k ∧ i2 = nI (bt (fit g t) k)) 4 N _ _ (by omega) ⟨rfl, rfl⟩ ?_ ?_
    · rintro k hk i2 i3 ⟨rfl, rfl⟩ rec hrec
      unfold f_H_kinds_17
      refine ok_f (by rw [lit 4, nI_le' (by decide) (by omega)]; omega) (ok_nn (hP.at (by decide) (show P0 0 7 = some 54 from rfl)) (ok_nn (hP.at (by decide) (show P0 0 3 = some 14 from rfl)) (ok_t hsa.1 (ok_call (largeOf_eq hsa h.2.2.2.1 t (by omega)) (ok_t hk4 (ok_call (hall k (by omega)) ?_))))))
      rw [nI_1]
      by_cases c : fit g t k = true
      · rw [if_pos c, or_bit (bt_lt _ k) (by omega)]
        refine ok_f (by decide) (hrec _ _ ⟨rfl, ?_⟩)
        show _ = nI (bt (fit g t) k + if fit g t k = true then 2 ^ k else 0)
        rw [if_pos c]
      · rw [if_neg c]
        refine ok_t rfl (hrec _ _ ⟨rfl, ?_⟩)
        show _ = nI (bt (fit g t) k + if fit g t k = true then 2 ^ k else 0)
        rw [if_neg c]; rfl
    · rintro i2 i3 ⟨rfl, rfl⟩ rec
      unfold f_H_kinds_17
      exact ok_t (by decide) (ok_some rfl)
  · rw [if_neg q, if_neg q]
    exact ok_t rfl (ok_some rfl)
end OE
