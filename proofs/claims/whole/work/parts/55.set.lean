/-! the class: the best set of pins to stick -/
def stkS (f : Fam) (b : Nat) (s : St) (t : Nat) : St := if b.testBit t = true then (if sP s t < 5 ∧ sW s ≠ fD f then setP s t 5 else s) else s
def stkN (f : Fam) (b : Nat) (s : St) : Nat → St
  | 0 => s
  | t + 1 => stkS f b (stkN f b s t) t
def calmN (f : Fam) : Nat → St → Bool
  | 0, s => calm f s
  | n + 1, s => if calm f s = true then calmN f n (day f s) else false
def subB (a b : Int32) : Bool := decide (a &&& (b ^^^ (-1)) = 0)
def bsN (f : Fam) (s : St) (n : Nat) (b : Nat) : Nat → Option Nat
  | 0 => none
  | t + 1 => if subB (nI t) (nI b) = true ∧ (match bsN f s n b t with | none => true | some u => decide (pc t < pc u)) = true ∧ calmN f n (stkN f t s 8) = true then some t else bsN f s n b t
def oBest (g : Gs) (n w : Int32) : Int32 := if (nI 0 ≤ n ∧ n ≤ nI 20) ∧ (nI 0 ≤ w ∧ w ≤ nI 1) then (match bsN (gF g) (gS g) n.toNatClampNeg (bt (br' (gS g)) 8) 256 with
  | none => -4
  | some u => if w = 0 then nI (pc u) else nI u) else -1
theorem pc_le (b : Nat) : pc b ≤ 8 := ct_le _ 8
theorem setP_ok {f : Fam} {s : St} (hv : StOK f s) {t q : Nat} (ht : t < fK f) (hq : q < fN f ∨ q = 5) (h1 : 1 ≤ sZ s t) : StOK f (setP s t q) := by
  refine ⟨fun j hj => ?_, fun j hj => ?_, hv.2.2⟩
  · show ((if j = t then q else sP s j) < fN f ∨ (if j = t then q else sP s j) = 5 ∨ (if j = t then q else sP s j) = 6 ∨ (if j = t then q else sP s j) = 7) ∧ sZ s j ≤ 40 ∧ ((if j = t then q else sP s j) < 6 → 1 ≤ sZ s j)
    obtain ⟨a, b, c⟩ := hv.1 j hj
    by_cases w : j = t
    · rw [if_pos w]
      exact ⟨by omega, b, fun _ => by rw [w]; exact h1⟩
    · rw [if_neg w]; exact ⟨a, b, c⟩
  · show (if j = t then q else sP s j) = 8 ∧ sZ s j = 0
    rw [if_neg (by omega)]; exact hv.2.1 j hj
theorem stkS_ok {f : Fam} {s : St} (hf : FamOK f) (hv : StOK f s) (b t : Nat) : StOK f (stkS f b s t) := by
  unfold stkS
  split
  · split
    · rename_i h
      have ht : t < fK f := by
        rcases Nat.lt_or_ge t (fK f) with q | q
        · exact q
        · have := (hv.2.1 t q).1; omega
      exact setP_ok hv ht (Or.inr rfl) ((hv.1 t ht).2.2 (by omega))
    · exact hv
  · exact hv
theorem stkN_ok {f : Fam} {s : St} (hf : FamOK f) (hv : StOK f s) (b : Nat) : ∀ t, StOK f (stkN f b s t)
  | 0 => hv
  | t + 1 => stkS_ok hf (stkN_ok hf hv b t) b t
def hasB (x i : Int32) : Bool := decide ((x >>> (i &&& 31)) &&& 1 = 1)
theorem has_ok : ∀ b, b < 256 → ∀ t, t < 8 → hasB (nI b) (nI t) = b.testBit t := by decide +kernel
section OF
variable {N nx : Nat} {D : Dt} {P : Ft} {g : Gs}
theorem isCalmWith_ok (h : CR D P g) (ho : GOK g) (hn : 97 ≤ nx) (hN : 100 ≤ N) {b n : Nat} (hb : b < 256) (hn20 : n ≤ 60) : OkP (fun z => z.1 = (if calmN (gF g) n (stkN (gF g) b (gS g) 8) = true then (1 : Int32) else 0) ∧ Fr3 D z.2 17) (f_H_isCalmWith N nx D P 0 (nI b) (nI n)) := by
  have hP := h.1
  have hf := ho.1
  have hfa := FaA.of4 (nx := nx) hP hn
  have hsa := StA.of (nx := nx) (a := 14) hP hn (by decide)
  have hsb := StA.of (nx := nx) (a := 17) hP hn (by decide)
  have hP4 : P 0 4 = some 17 := hP.at (by decide) rfl
  unfold f_H_isCalmWith
  refine ok_t (kd_at (by omega) rfl) (ok_nn hP4 (ok_nn (hP.at (by decide) (show P0 0 3 = some 14 from rfl)) (ok_t hsb.1 (ok_bind (copyFrom_ok hsb hsa (by decide) h.2.2.2.1 hN) (fun E hE => ?_)))))
  refine wk2_run (I := fun t F i => i = nI t ∧ Fr3 D F 17 ∧ CS F 17 (stkN (gF g) b (gS g) t)) 8 N _ _ (by omega) ⟨rfl, hE.2, hE.1⟩ ?_ ?_
  · rintro t ht F i ⟨rfl, hfr, hc⟩ rec hrec
    have hcf := h.2.2.1.fr hfr (by decide)
    have hv := stkN_ok hf ho.2.1 b t
    have hh := has_ok b hb t ht
    unfold f_H_isCalmWith_13
    refine ok_f (le8 ht) ?_
    by_cases q : b.testBit t = true
    · rw [q] at hh
      refine ok_t (of_decide_eq_true hh) (ok_nn hP4 (ok_t hsb.1 (ok_bind (stickIn_ok hsb hfa hcf hc hf hv t ht) (fun G hG => ?_))))
      rw [nI_1]
      refine hrec _ _ ⟨rfl, hfr.tr hG.2, ?_⟩
      show CS G 17 (stkS (gF g) b (stkN (gF g) b (gS g) t) t)
      unfold stkS
      rw [if_pos q]; exact hG.1
    · have hh' : hasB (nI b) (nI t) = false := by rw [hh]; exact Bool.eq_false_iff.mpr q
      refine ok_f (of_decide_eq_false hh') ?_
      rw [nI_1]
      refine hrec _ _ ⟨rfl, hfr, ?_⟩
      show CS F 17 (stkS (gF g) b (stkN (gF g) b (gS g) t) t)
      unfold stkS
      rw [if_neg q]; exact hc
  · rintro F i ⟨rfl, hfr, hc⟩ rec
    have hv := stkN_ok hf ho.2.1 b 8
    unfold f_H_isCalmWith_13
    refine ok_t (by decide) ?_
    generalize stkN (gF g) b (gS g) 8 = s0 at hc hv
    refine wk2_run (I := fun t G i => i = nI t ∧ Fr3 D G 17 ∧ ∃ s, StOK (gF g) s ∧ CS G 17 s ∧ calmN (gF g) (n - t) s = calmN (gF g) n s0) n N _ _ (by omega) ⟨rfl, hfr, s0, hv, hc, rfl⟩ ?_ ?_
    · rintro t ht G i ⟨rfl, hfr, s, hv, hc, heq⟩ rec hrec
      have hcf := h.2.2.1.fr hfr (by decide)
      unfold f_H_isCalmWith_44
      rw [show n - t = (n - (t + 1)) + 1 by omega, show calmN (gF g) (n - (t + 1) + 1) s = if calm (gF g) s = true then calmN (gF g) (n - (t + 1)) (day (gF g) s) else false from rfl] at heq
      refine ok_f (i2_lt ht (by omega)) (ok_nn hP4 (ok_t hsb.1 (ok_call (isCalm_eq hsb hfa hcf hc hf hv hN) ?_)))
      by_cases q : calm (gF g) s = true
      · rw [if_pos q] at heq ⊢
        refine ok_f (by decide) (ok_bind (goDay_ok hsb hfa hcf hc hf hv (by decide) hN) (fun H hH => ?_))
        rw [nI_1]
        exact hrec _ _ ⟨rfl, hfr.tr hH.2, day (gF g) s, day_ok hf hv, hH.1, heq⟩
      · rw [if_neg q] at heq ⊢
        exact ok_t rfl (ok_some ⟨by rw [← heq]; rfl, hfr⟩)
    · rintro G i ⟨rfl, hfr, s, hv, hc, heq⟩ rec
      have hcf := h.2.2.1.fr hfr (by decide)
      unfold f_H_isCalmWith_44
      rw [show n - n = 0 by omega, show calmN (gF g) 0 s = calm (gF g) s from rfl] at heq
      refine ok_t (i2_ge (Nat.le_refl _) (by omega)) (ok_nn hP4 (ok_t hsb.1 (ok_call (isCalm_eq hsb hfa hcf hc hf hv hN) ?_)))
      rw [heq]
      by_cases q : calmN (gF g) n s0 = true
      · rw [if_pos q]; exact ok_t (Or.inr rfl) (ok_some ⟨rfl, hfr⟩)
      · rw [if_neg q]; exact ok_t (Or.inl rfl) (ok_some ⟨rfl, hfr⟩)
theorem H_best (h : CR D P g) (ho : GOK g) (hn : 97 ≤ nx) (hN : 500 ≤ N) (x y : Int32) : OkP (fun z => z.1 = oBest g x y ∧ CR z.2 P g ∧ Hi D z.2) (f_H_best N nx D P 0 x y) := by
  have hP := h.1
  have hf := ho.1
  have h8 := (ho.2.1).p8 hf
  have hsa := StA.of (nx := nx) (a := 14) hP hn (by decide)
  have hB : bt (br' (gS g)) 8 < 256 := bt_lt _ 8
  unfold f_H_best oBest
  refine ok_t (kd_at (by omega) rfl) ?_
  rcases isW (N := N) (nx := nx) (D := D) (P := P) (x := x) (a := 0) (b := 20) (by decide) (by decide) with ⟨q, n, rfl, hn1, hn2⟩ | ⟨q, hc⟩
  · refine ok_call q (ok_f (by decide) ?_)
    rcases isW (N := N) (nx := nx) (D := D) (P := P) (x := y) (a := 0) (b := 1) (by decide) (by decide) with ⟨r, w, rfl, hw1, hw2⟩ | ⟨r, hr⟩
    · rw [if_pos ⟨in_nI hn1 hn2 (by decide), in_nI hw1 hw2 (by decide)⟩, cl (by omega)]
      refine ok_call r (ok_f (by decide) (ok_bind (Q1 := fun z => CR z.2 P g ∧ Hi D z.2 ∧ match bsN (gF g) (gS g) n (bt (br' (gS g)) 8) 256 with | none => z.1 = (-4 : Int32) | some u => z.1 = nI u ∧ u < 256) ?_ ?_))
      · unfold f_H_bestSet
        refine ok_t (kd_at (by omega) rfl) (ok_nn (hP.at (by decide) (show P0 0 3 = some 14 from rfl)) (ok_t hsa.1 (ok_call (borneBits_eq hsa h.2.2.2.1 h8 (by omega)) ?_)))
        generalize bt (br' (gS g)) 8 = B at hB
        refine wk4_run (I := fun t E i2 i3 i => i = nI t ∧ CR E P g ∧ Hi D E ∧ match bsN (gF g) (gS g) n B t with | none => i2 = (-4 : Int32) ∧ i3 = 9 | some u => i2 = nI u ∧ i3 = nI (pc u) ∧ u < 256) 256 N _ _ _ _ (by omega) ⟨rfl, h, Hi.rf, rfl, rfl⟩ ?_ ?_
        · rintro t ht E i2 i3 i ⟨rfl, hE, hhi, hb⟩ rec hrec
          have hpt := pc_le t
          have es : bsN (gF g) (gS g) n B (t + 1) = if subB (nI t) (nI B) = true ∧ (match bsN (gF g) (gS g) n B t with | none => true | some u => decide (pc t < pc u)) = true ∧ calmN (gF g) n (stkN (gF g) t (gS g) 8) = true then some t else bsN (gF g) (gS g) n B t := rfl
          have less : (i3 ≤ nI (pc t)) ↔ ¬ (match bsN (gF g) (gS g) n B t with | none => true | some u => decide (pc t < pc u)) = true := by
            cases e : bsN (gF g) (gS g) n B t with
            | none =>
              rw [e] at hb
              obtain ⟨-, rfl⟩ : i2 = (-4 : Int32) ∧ i3 = 9 := hb
              rw [lit 9, nI_le' (by decide) (by omega)]
              exact ⟨fun c => by omega, fun c => absurd rfl c⟩
            | some u =>
              rw [e] at hb
              obtain ⟨-, rfl, -⟩ : i2 = nI u ∧ i3 = nI (pc u) ∧ u < 256 := hb
              have := pc_le u
              rw [nI_le' (by omega) (by omega)]
              exact ⟨fun c d => by have := of_decide_eq_true d; omega, fun c => Nat.not_lt.mp (fun d => c (decide_eq_true d))⟩
          unfold f_H_bestSet_18
          refine ok_f (by rw [lit 256, nI_le' (by decide) (by omega)]; omega) (ok_call (bitCount_eq ht) ?_)
          have keep : bsN (gF g) (gS g) n B (t + 1) = bsN (gF g) (gS g) n B t → ∀ F, CR F P g → Hi D F → OkP (fun z => CR z.2 P g ∧ Hi D z.2 ∧ match bsN (gF g) (gS g) n B 256 with | none => z.1 = (-4 : Int32) | some u => z.1 = nI u ∧ u < 256) (rec F i2 i3 (nI t + 1)) := by
            intro e F hF hF2
            rw [nI_1]
            exact hrec _ _ _ _ ⟨rfl, hF, hF2, by rw [e]; exact hb⟩
          refine ok_ite (fun c1 => ok_ite (fun c2 => ?_) (fun c2 => ?_)) (fun c1 => ?_)
          · exact keep (by rw [es, if_neg (fun d => (less.mp c2) d.2.1)]) E hE hhi
          · refine ok_bind (isCalmWith_ok hE ho hn (by omega) ht (by omega)) ?_
            rintro ⟨z, F⟩ ⟨hz1, hz2⟩
            have hF := Fr3.cr hz2 hE
            by_cases c3 : calmN (gF g) n (stkN (gF g) t (gS g) 8) = true
            · have hz1 : z = if calmN (gF g) n (stkN (gF g) t (gS g) 8) = true then (1 : Int32) else 0 := hz1
              rw [if_pos c3] at hz1
              refine ok_f (by show ¬ z = 0; rw [hz1]; decide) ?_
              rw [nI_1]
              refine hrec _ _ _ _ ⟨rfl, hF.1, hhi.tr hF.2, ?_⟩
              have c4 : (match bsN (gF g) (gS g) n B t with | none => true | some u => decide (pc t < pc u)) = true := Decidable.byContradiction (fun d => c2 (less.mpr d))
              rw [es, if_pos ⟨decide_eq_true c1, c4, c3⟩]
              exact ⟨rfl, rfl, ht⟩
            · have hz1 : z = if calmN (gF g) n (stkN (gF g) t (gS g) 8) = true then (1 : Int32) else 0 := hz1
              rw [if_neg c3] at hz1
              exact ok_t hz1 (keep (by rw [es, if_neg (fun d => c3 d.2.2)]) F hF.1 (hhi.tr hF.2))
          · exact keep (by rw [es, if_neg (fun d => c1 (of_decide_eq_true d.1))]) E hE hhi
        · rintro E i2 i3 i ⟨rfl, hE, hhi, hb⟩ rec
          unfold f_H_bestSet_18
          refine ok_t (by decide) (ok_some ⟨hE, hhi, ?_⟩)
          cases e : bsN (gF g) (gS g) n B 256 with
          | none => rw [e] at hb; exact hb.1
          | some u => rw [e] at hb; exact ⟨hb.1, hb.2.2⟩
      · rintro ⟨z, E⟩ ⟨hE, hhi, hz⟩
        cases e : bsN (gF g) (gS g) n (bt (br' (gS g)) 8) 256 with
        | none =>
          rw [e] at hz
          have hz : z = -4 := hz
          exact ok_f (by show ¬ 0 ≤ z; rw [hz]; decide) (ok_some ⟨rfl, hE, hhi⟩)
        | some u =>
          rw [e] at hz
          obtain ⟨rfl, hu⟩ : z = nI u ∧ u < 256 := hz
          refine ok_t (by show (0 : Int32) ≤ nI u; rw [lit 0, nI_le' (by decide) (by omega)]; omega) (ok_ite (fun c => ?_) (fun c => ?_))
          · refine ok_call (bitCount_eq hu) (ok_some ⟨?_, hE, hhi⟩)
            show nI (pc u) = if nI w = 0 then _ else _
            rw [if_pos c]
          · refine ok_some ⟨?_, hE, hhi⟩
            show nI u = if nI w = 0 then _ else _
            rw [if_neg c]
    · rw [if_neg (fun c => hr c.2)]
      exact ok_call r (ok_t rfl (ok_some ⟨rfl, h, Hi.rf⟩))
  · rw [if_neg (fun c => hc c.1)]
    exact ok_call q (ok_t rfl (ok_some ⟨rfl, h, Hi.rf⟩))
end OF
