/-! what is asked of the class: persons, pins, the heart, counts, what lies behind -/
def pc (b : Nat) : Nat := ct (fun i => b.testBit i) 8
def jb (x : Int32) : Option Int32 := f_J_bitCount 0 0 (fun _ _ => 0) (fun _ _ => none) x
theorem jb_ok : ∀ b, b < 256 → jb (nI b) = some (nI (pc b)) := by decide +kernel
theorem bitCount_eq {N nx : Nat} {D : Dt} {P : Ft} {b : Nat} (h : b < 256) : f_J_bitCount N nx D P (nI b) = some (nI (pc b)) := jb_ok b h
theorem pc_bt (q : Nat → Bool) : pc (bt q 8) = ct q 8 := ct_cong (fun i hi => by rw [bt_bit, decide_eq_true hi, Bool.true_and])
def bI (b : Bool) : Int32 := if b = true then 1 else 0
def oPerson (g : Gs) (p w : Int32) : Int32 := if isP (gF g) p = true then (if w = 0 then nI (fC (gF g) p.toNatClampNeg) else if w = 1 then nI (ld (gS g) p.toNatClampNeg 8) else if w = 2 then nI (bt (at' (gS g) p.toNatClampNeg) 8) else if w = 3 then bI (brk (gF g) (gS g) p.toNatClampNeg) else -1) else -1
def oPin (g : Gs) (t w : Int32) : Int32 := if isT (gF g) t = true then (if w = 0 then nI (fO (gF g) t.toNatClampNeg) else if w = 1 then nI (fS (gF g) t.toNatClampNeg) else if w = 2 then nI (sZ (gS g) t.toNatClampNeg) else if w = 3 then nI (sP (gS g) t.toNatClampNeg - 4) else if w = 4 then (if sP (gS g) t.toNatClampNeg < 5 then nI (sP (gS g) t.toNatClampNeg) else -4) else -1) else -1
def oHeart (g : Gs) (w : Int32) : Int32 := if w = 0 then nI (fR (gF g)) else if w = 1 then nI (fD (gF g)) else if w = 2 then nI (fQ (gF g)) else if w = 3 then nI (sW (gS g)) else if w = 4 then nI (ld (gS g) 5 8) else if w = 5 then bI (full (gF g) (gS g)) else if w = 6 then bI (decide (sW (gS g) = fD (gF g))) else -1
def oCount (g : Gs) (w : Int32) : Int32 := if w = 0 then nI (fN (gF g)) else if w = 1 then nI (fK (gF g)) else if w = 2 then sD (gS g) else if w = 3 then nI (ct (br' (gS g)) 8) else if w = 4 then nI (ct (at' (gS g) 5) 8) else if w = 5 then nI (ct (at' (gS g) 6) 8) else if w = 6 then nI (ct (at' (gS g) 7) 8) else if w = 7 then nI (ct (brk (gF g) (gS g)) (fN (gF g))) else if w = 8 then nI (gN g).1 else if w = 9 then nI (gM g).1 else if w = 10 then nI (gP g).1 else if w = 11 then nI (gK g).1 else if w = 12 then nI (gT g).1 else -1
def oBehind (g : Gs) (n p : Int32) : Int32 := if (nI 0 ≤ n ∧ n ≤ nI 60) ∧ isP (gF g) p = true then nI (ld (days (gF g) n.toNatClampNeg (gS g)) p.toNatClampNeg 8) else -1
def oWalked (g : Gs) (n : Int32) : Int32 := if nI 0 ≤ n ∧ n ≤ nI 60 then nI (sW (days (gF g) n.toNatClampNeg (gS g))) else -1
/-- the first day on which it holds -/
def fstD (f : Fam) (c : St → Bool) : Nat → Nat → St → Int32
  | 0, _, _ => -4
  | n + 1, i, s => if c s = true then nI i else fstD f c n (i + 1) (day f s)
def oBreaks (g : Gs) (p : Int32) : Int32 := if isP (gF g) p = true then fstD (gF g) (fun s => brk (gF g) s p.toNatClampNeg) 61 0 (gS g) else -1
def oDoor (g : Gs) : Int32 := fstD (gF g) (fun s => decide (sW s = fD (gF g))) 61 0 (gS g)
section OC
variable {N nx : Nat} {D : Dt} {P : Ft} {g : Gs}
theorem Fr3.cr {E : Dt} (hf : Fr3 D E 17) (h : CR D P g) : CR E P g ∧ Hi D E := ⟨h.sc (fun q h1 h2 => by
  have h1 : ¬ (q = 3 ∨ (9 ≤ q ∧ q ≤ 13) ∨ (17 ≤ q ∧ q ≤ 19) ∨ 59 ≤ q) := h1
  exact hf q (by omega) (by omega) (by omega)) (fun k _ => by rw [hf 1 (by decide) (by decide) (by decide)]), fun q hq => hf q (by omega) (by omega) (by omega)⟩
theorem H_person (h : CR D P g) (ho : GOK g) (hn : 97 ≤ nx) (hN : 100 ≤ N) (x w : Int32) : f_H_person N nx D P 0 x w = some (oPerson g x w) := by
  have hP := h.1
  have hf := ho.1
  have h8 := (ho.2.1).p8 hf
  have hn5 := hf.2.1
  have hfa := FaA.of4 (nx := nx) hP hn
  have hsa := StA.of (nx := nx) (a := 14) hP hn (by decide)
  have hP3 : P 0 3 = some 14 := hP.at (by decide) rfl
  apply ok_val
  unfold f_H_person oPerson
  refine ok_t (kd_at (by omega) rfl) (ok_nn (hP.at (by decide) (show P0 0 1 = some 4 from rfl)) (ok_t hfa.1 (ok_call (hasPerson_i hfa h.2.2.1 hf x) ?_)))
  by_cases q : isP (gF g) x = true
  · obtain ⟨p, rfl, hp⟩ := isP_up hf q
    rw [if_pos q, if_pos q, cl (by omega)]
    refine ok_f (by decide) (ok_ite (fun e => ?_) (fun e => ok_ite (fun e1 => ?_) (fun e1 => ok_ite (fun e2 => ?_) (fun e2 => ok_ite (fun e3 => ?_) (fun e3 => ?_)))))
    · rw [if_pos e]
      exact ok_call (bearableBy_eq hfa h.2.2.1 hf p hp) (ok_some rfl)
    · rw [if_neg e, if_pos e1]
      exact ok_nn hP3 (ok_t hsa.1 (ok_call (loadOf_eq hsa h.2.2.2.1 h8 hN p (by omega)) (ok_some rfl)))
    · rw [if_neg e, if_neg e1, if_pos e2]
      refine ok_nn hP3 (ok_t hsa.1 (ok_call (y := nI (bt (at' (gS g) p) 8)) ?_ (ok_some rfl)))
      rw [← cw_per (show p < 5 by omega)]
      exact pinsWith_eq hsa h.2.2.2.1 h8 hN p (by omega)
    · rw [if_neg e, if_neg e1, if_neg e2, if_pos e3]
      refine ok_nn hP3 (ok_t hsa.1 (ok_call (isBroken_eq hsa hfa h.2.2.1 h.2.2.2.1 hf h8 (fun t => ho.2.1.z40 t) hN p hp) ?_))
      unfold bI
      by_cases r : brk (gF g) (gS g) p = true
      · rw [if_pos r]; exact ok_f (by decide) (ok_some rfl)
      · rw [if_neg r]; exact ok_t rfl (ok_some rfl)
    · rw [if_neg e, if_neg e1, if_neg e2, if_neg e3]
      exact ok_some rfl
  · rw [if_neg q, if_neg q]
    exact ok_t rfl (ok_some rfl)
theorem H_heart (h : CR D P g) (ho : GOK g) (hn : 97 ≤ nx) (hN : 100 ≤ N) (w : Int32) : f_H_heart N nx D P 0 w = some (oHeart g w) := by
  have hP := h.1
  have hf := ho.1
  have h8 := (ho.2.1).p8 hf
  have hfa := FaA.of4 (nx := nx) hP hn
  have hsa := StA.of (nx := nx) (a := 14) hP hn (by decide)
  have hP3 : P 0 3 = some 14 := hP.at (by decide) rfl
  have hP1 : P 0 1 = some 4 := hP.at (by decide) rfl
  apply ok_val
  unfold f_H_heart oHeart
  refine ok_t (kd_at (by omega) rfl) (ok_ite (fun e => ?_) (fun e => ok_ite (fun e1 => ?_) (fun e1 => ok_ite (fun e2 => ?_) (fun e2 => ok_ite (fun e3 => ?_) (fun e3 => ok_ite (fun e4 => ?_) (fun e4 => ok_ite (fun e5 => ?_) (fun e5 => ok_ite (fun e6 => ?_) (fun e6 => ?_))))))))
  · rw [if_pos e]; exact ok_nn hP1 (ok_t hfa.1 (ok_some h.2.2.1.2.2.1))
  · rw [if_neg e, if_pos e1]; exact ok_nn hP1 (ok_t hfa.1 (ok_some h.2.2.1.2.2.2.1))
  · rw [if_neg e, if_neg e1, if_pos e2]; exact ok_nn hP1 (ok_t hfa.1 (ok_some h.2.2.1.2.2.2.2.1))
  · rw [if_neg e, if_neg e1, if_neg e2, if_pos e3]; exact ok_nn hP3 (ok_t hsa.1 (ok_some h.2.2.2.1.1))
  · rw [if_neg e, if_neg e1, if_neg e2, if_neg e3, if_pos e4]; exact ok_nn hP3 (ok_t hsa.1 (ok_call (heartSum_eq hsa h.2.2.2.1 h8 hN) (ok_some rfl)))
  · rw [if_neg e, if_neg e1, if_neg e2, if_neg e3, if_neg e4, if_pos e5]
    refine ok_nn hP3 (ok_t hsa.1 (ok_call (isFull_eq hsa hfa h.2.2.1 h.2.2.2.1 hf ho.2.1 hN) ?_))
    unfold bI
    by_cases r : full (gF g) (gS g) = true
    · rw [if_pos r]; exact ok_f (by decide) (ok_some rfl)
    · rw [if_neg r]; exact ok_t rfl (ok_some rfl)
  · rw [if_neg e, if_neg e1, if_neg e2, if_neg e3, if_neg e4, if_neg e5, if_pos e6]
    refine ok_nn hP3 (ok_t hsa.1 (ok_call (isAtDoor_eq hsa hfa h.2.2.1 h.2.2.2.1 hf ho.2.1) ?_))
    unfold bI
    by_cases r : sW (gS g) = fD (gF g)
    · rw [if_pos r, if_pos (decide_eq_true r)]; exact ok_f (by decide) (ok_some rfl)
    · rw [if_neg r, if_neg (fun e => r (of_decide_eq_true e))]; exact ok_t rfl (ok_some rfl)
  · rw [if_neg e, if_neg e1, if_neg e2, if_neg e3, if_neg e4, if_neg e5, if_neg e6]; exact ok_some rfl
theorem H_pin (h : CR D P g) (ho : GOK g) (hn : 97 ≤ nx) (hN : 100 ≤ N) (x w : Int32) : f_H_pin N nx D P 0 x w = some (oPin g x w) := by
  have hP := h.1
  have hf := ho.1
  have h8 := (ho.2.1).p8 hf
  have hk8 := hf.2.2.1
  have hfa := FaA.of4 (nx := nx) hP hn
  have hsa := StA.of (nx := nx) (a := 14) hP hn (by decide)
  have hP3 : P 0 3 = some 14 := hP.at (by decide) rfl
  apply ok_val
  unfold f_H_pin oPin
  refine ok_t (kd_at (by omega) rfl) (ok_nn (hP.at (by decide) (show P0 0 1 = some 4 from rfl)) (ok_t hfa.1 (ok_call (hasPin_i hfa h.2.2.1 hf x) ?_)))
  by_cases q : isT (gF g) x = true
  · obtain ⟨t, rfl, ht⟩ := isT_up hf q
    have hw := whereIs_eq (N := N) hsa h.2.2.2.1 t (by omega)
    have hv := (ho.2.1.1 t ht).1
    have h9 : sP (gS g) t < 9 := by have := h8 t; omega
    rw [if_pos q, if_pos q, cl (by omega)]
    refine ok_f (by decide) (ok_ite (fun e => ?_) (fun e => ok_ite (fun e1 => ?_) (fun e1 => ok_ite (fun e2 => ?_) (fun e2 => ok_ite (fun e3 => ?_) (fun e3 => ok_ite (fun e4 => ?_) (fun e4 => ?_))))))
    · rw [if_pos e]; exact ok_call (ownerOf_eq hfa h.2.2.1 hf t ht) (ok_some rfl)
    · rw [if_neg e, if_pos e1]; exact ok_call (kindOf_eq hfa h.2.2.1 hf t ht) (ok_some rfl)
    · rw [if_neg e, if_neg e1, if_pos e2]; exact ok_nn hP3 (ok_t hsa.1 (ok_call (largeOf_eq hsa h.2.2.2.1 t (by omega)) (ok_some rfl)))
    · rw [if_neg e, if_neg e1, if_neg e2, if_pos e3]
      refine ok_nn hP3 (ok_t hsa.1 (ok_call hw (ok_call ?_ (ok_some rfl))))
      have : ∀ p, p < 9 → p ≠ 8 → (if cw p = (-3) then some 3 else if cw p = (-2) then some 2 else if cw p = (-1) then some (1 : Int32) else some 0) = some (nI (p - 4)) := by decide
      exact this _ h9 (by have := hf.2.1; omega)
    · rw [if_neg e, if_neg e1, if_neg e2, if_neg e3, if_pos e4]
      refine ok_nn hP3 (ok_t hsa.1 (ok_call hw ?_))
      have hz := cw_neg (sP (gS g) t) h9
      by_cases r : sP (gS g) t < 5
      · rw [if_pos r]
        exact ok_f (Int32.not_lt.mpr (hz.mpr r)) (ok_call hw (ok_some (cw_per r)))
      · rw [if_neg r]
        exact ok_t (Int32.not_le.mp (fun e => r (hz.mp e))) (ok_some rfl)
    · rw [if_neg e, if_neg e1, if_neg e2, if_neg e3, if_neg e4]; exact ok_some rfl
  · rw [if_neg q, if_neg q]
    exact ok_t rfl (ok_some rfl)
theorem howManyAt_eq {s : St} {a : Nat} (hs : StA nx P a) (hc : CS D a s) (hp : ∀ t, sP s t ≤ 8) (hN : 100 ≤ N) (q : Nat) (hq : q < 9) : f_C_howManyAt N nx D P a (cw q) = some (nI (ct (at' s q) 8)) := by
  unfold f_C_howManyAt
  rw [if_pos hs.1, pinsWith_eq hs hc hp hN q hq, bnd_some, bitCount_eq (Nat.lt_of_lt_of_le (bt_lt _ 8) (by decide)), bnd_some, pc_bt]
theorem howManyBorne_eq {s : St} {a : Nat} (hs : StA nx P a) (hc : CS D a s) (hp : ∀ t, sP s t ≤ 8) (hN : 100 ≤ N) : f_C_howManyBorne N nx D P a = some (nI (ct (br' s) 8)) := by
  unfold f_C_howManyBorne
  rw [if_pos hs.1, borneBits_eq hs hc hp hN, bnd_some, bitCount_eq (Nat.lt_of_lt_of_le (bt_lt _ 8) (by decide)), bnd_some, pc_bt]
theorem H_count (h : CR D P g) (ho : GOK g) (hn : 97 ≤ nx) (hN : 100 ≤ N) (w : Int32) : f_H_count N nx D P 0 w = some (oCount g w) := by
  have hP := h.1
  have hf := ho.1
  have h8 := (ho.2.1).p8 hf
  have hfa := FaA.of4 (nx := nx) hP hn
  have hsa := StA.of (nx := nx) (a := 14) hP hn (by decide)
  have hP3 : P 0 3 = some 14 := hP.at (by decide) rfl
  have hP1 : P 0 1 = some 4 := hP.at (by decide) rfl
  apply ok_val
  unfold f_H_count oCount
  refine ok_t (kd_at (by omega) rfl) ?_
  refine ok_ite (fun e => ?_) (fun e => ?_)
  · rw [if_pos e]; exact ok_nn hP1 (ok_t hfa.1 (ok_some h.2.2.1.1))
  rw [if_neg e]
  refine ok_ite (fun e => ?_) (fun e => ?_)
  · rw [if_pos e]; exact ok_nn hP1 (ok_t hfa.1 (ok_some h.2.2.1.2.1))
  rw [if_neg e]
  refine ok_ite (fun e => ?_) (fun e => ?_)
  · rw [if_pos e]; exact ok_nn hP3 (ok_t hsa.1 (ok_some h.2.2.2.1.2.1))
  rw [if_neg e]
  refine ok_ite (fun e => ?_) (fun e => ?_)
  · rw [if_pos e]; exact ok_nn hP3 (ok_t hsa.1 (ok_call (howManyBorne_eq hsa h.2.2.2.1 h8 hN) (ok_some rfl)))
  rw [if_neg e]
  refine ok_ite (fun e => ?_) (fun e => ?_)
  · rw [if_pos e]; exact ok_nn hP3 (ok_t hsa.1 (ok_call (howManyAt_eq hsa h.2.2.2.1 h8 hN 5 (by decide)) (ok_some rfl)))
  rw [if_neg e]
  refine ok_ite (fun e => ?_) (fun e => ?_)
  · rw [if_pos e]; exact ok_nn hP3 (ok_t hsa.1 (ok_call (howManyAt_eq hsa h.2.2.2.1 h8 hN 6 (by decide)) (ok_some rfl)))
  rw [if_neg e]
  refine ok_ite (fun e => ?_) (fun e => ?_)
  · rw [if_pos e]; exact ok_nn hP3 (ok_t hsa.1 (ok_call (howManyAt_eq hsa h.2.2.2.1 h8 hN 7 (by decide)) (ok_some rfl)))
  rw [if_neg e]
  refine ok_ite (fun e => ?_) (fun e => ?_)
  · rw [if_pos e]; exact ok_nn hP3 (ok_t hsa.1 (ok_call (howManyBreak_eq hsa hfa h.2.2.1 h.2.2.2.1 hf h8 (fun t => ho.2.1.z40 t) hN) (ok_some rfl)))
  rw [if_neg e]
  refine ok_ite (fun e => ?_) (fun e => ?_)
  · rw [if_pos e]; exact ok_nn (hP.at (by decide) (show P0 0 7 = some 54 from rfl)) (ok_t (kd_at (by omega) rfl) (ok_some h.2.2.2.2.2.2.1))
  rw [if_neg e]
  refine ok_ite (fun e => ?_) (fun e => ?_)
  · rw [if_pos e]; exact ok_nn (hP.at (by decide) (show P0 0 7 = some 54 from rfl)) (ok_t (kd_at (by omega) rfl) (ok_some h.2.2.2.2.2.2.2.1))
  rw [if_neg e]
  refine ok_ite (fun e => ?_) (fun e => ?_)
  · rw [if_pos e]; exact ok_nn (hP.at (by decide) (show P0 0 5 = some 20 from rfl)) (ok_t (kd_at (by omega) rfl) (ok_some h.2.2.2.2.1.1))
  rw [if_neg e]
  refine ok_ite (fun e => ?_) (fun e => ?_)
  · rw [if_pos e]; exact ok_nn (hP.at (by decide) (show P0 0 6 = some 46 from rfl)) (ok_t (kd_at (by omega) rfl) (ok_some h.2.2.2.2.2.1.1))
  rw [if_neg e]
  refine ok_ite (fun e => ?_) (fun e => ?_)
  · rw [if_pos e]; exact ok_nn (hP.at (by decide) (show P0 0 0 = some 1 from rfl)) (ok_t (kd_at (by omega) rfl) (ok_some h.2.1.1))
  rw [if_neg e]
  exact ok_some rfl
theorem lookBehind_ok (h : CR D P g) (ho : GOK g) (hn : 97 ≤ nx) (hN : 100 ≤ N) {n : Nat} (hn60 : n ≤ 60) : OkP (fun E => CS E 17 (days (gF g) n (gS g)) ∧ Fr3 D E 17) (f_H_lookBehind N nx D P 0 (nI n)) := by
  have hP := h.1
  have hfa := FaA.of4 (nx := nx) hP hn
  have hsa := StA.of (nx := nx) (a := 14) hP hn (by decide)
  have hsb := StA.of (nx := nx) (a := 17) hP hn (by decide)
  unfold f_H_lookBehind
  refine ok_t (kd_at (by omega) rfl) (ok_nn (hP.at (by decide) (show P0 0 4 = some 17 from rfl)) (ok_nn (hP.at (by decide) (show P0 0 3 = some 14 from rfl)) (ok_t hsb.1 (ok_bind (copyFrom_ok hsb hsa (by decide) h.2.2.2.1 hN) (fun E hE => ?_)))))
  exact ok_bind (goDays_ok hsb hfa (h.2.2.1.fr hE.2 (by decide)) hE.1 ho.1 ho.2.1 (by decide) n hn60 hN) (fun F hF => ok_some ⟨hF.1, hE.2.tr hF.2⟩)
theorem H_behind (h : CR D P g) (ho : GOK g) (hn : 97 ≤ nx) (hN : 100 ≤ N) (x y : Int32) : OkP (fun z => z.1 = oBehind g x y ∧ CR z.2 P g ∧ Hi D z.2) (f_H_behind N nx D P 0 x y) := by
  have hP := h.1
  have hf := ho.1
  have hn5 := hf.2.1
  have hfa := FaA.of4 (nx := nx) hP hn
  have hsb := StA.of (nx := nx) (a := 17) hP hn (by decide)
  unfold f_H_behind oBehind
  refine ok_t (kd_at (by omega) rfl) ?_
  rcases isW (N := N) (nx := nx) (D := D) (P := P) (x := x) (a := 0) (b := 60) (by decide) (by decide) with ⟨q, c, rfl, hc1, hc2⟩ | ⟨q, hc⟩
  · refine ok_call q (ok_f (by decide) (ok_nn (hP.at (by decide) (show P0 0 1 = some 4 from rfl)) (ok_t hfa.1 (ok_call (hasPerson_i hfa h.2.2.1 hf y) ?_))))
    by_cases r : isP (gF g) y = true
    · obtain ⟨p, rfl, hp⟩ := isP_up hf r
      rw [if_pos r, if_pos ⟨in_nI hc1 hc2 (by decide), r⟩, cl (by omega), cl (by omega)]
      refine ok_f (by decide) (ok_bind (lookBehind_ok h ho hn hN hc2) (fun E hE => ok_nn (hP.at (by decide) (show P0 0 4 = some 17 from rfl)) (ok_t hsb.1 ?_)))
      exact ok_call (loadOf_eq hsb hE.1 ((days_ok hf c ho.2.1).p8 hf) hN p (by omega)) (ok_some ⟨rfl, hE.2.cr h⟩)
    · rw [if_neg r, if_neg (fun e => r e.2)]
      exact ok_t rfl (ok_some ⟨rfl, h, Hi.rf⟩)
  · rw [if_neg (fun e => hc e.1)]
    exact ok_call q (ok_t rfl (ok_some ⟨rfl, h, Hi.rf⟩))
theorem H_walked (h : CR D P g) (ho : GOK g) (hn : 97 ≤ nx) (hN : 100 ≤ N) (x : Int32) : OkP (fun z => z.1 = oWalked g x ∧ CR z.2 P g ∧ Hi D z.2) (f_H_walked N nx D P 0 x) := by
  have hP := h.1
  have hsb := StA.of (nx := nx) (a := 17) hP hn (by decide)
  unfold f_H_walked oWalked
  refine ok_t (kd_at (by omega) rfl) ?_
  rcases isW (N := N) (nx := nx) (D := D) (P := P) (x := x) (a := 0) (b := 60) (by decide) (by decide) with ⟨q, c, rfl, hc1, hc2⟩ | ⟨q, hc⟩
  · rw [if_pos (in_nI hc1 hc2 (by decide)), cl (by omega)]
    exact ok_call q (ok_f (by decide) (ok_bind (lookBehind_ok h ho hn hN hc2) (fun E hE => ok_nn (hP.at (by decide) (show P0 0 4 = some 17 from rfl)) (ok_t hsb.1 (ok_some ⟨hE.1.1, hE.2.cr h⟩)))))
  · rw [if_neg hc]
    exact ok_call q (ok_t rfl (ok_some ⟨rfl, h, Hi.rf⟩))
theorem H_breaks (h : CR D P g) (ho : GOK g) (hn : 97 ≤ nx) (hN : 100 ≤ N) (x : Int32) : OkP (fun z => z.1 = oBreaks g x ∧ CR z.2 P g ∧ Hi D z.2) (f_H_breaks N nx D P 0 x) := by
  have hP := h.1
  have hf := ho.1
  have hn5 := hf.2.1
  have hfa := FaA.of4 (nx := nx) hP hn
  have hsa := StA.of (nx := nx) (a := 14) hP hn (by decide)
  have hsb := StA.of (nx := nx) (a := 17) hP hn (by decide)
  have hP4 : P 0 4 = some 17 := hP.at (by decide) rfl
  unfold f_H_breaks oBreaks
  refine ok_t (kd_at (by omega) rfl) (ok_nn (hP.at (by decide) (show P0 0 1 = some 4 from rfl)) (ok_t hfa.1 (ok_call (hasPerson_i hfa h.2.2.1 hf x) ?_)))
  by_cases r : isP (gF g) x = true
  · obtain ⟨p, rfl, hp⟩ := isP_up hf r
    rw [if_pos r, if_pos r, cl (by omega)]
    refine ok_f (by decide) (ok_nn hP4 (ok_nn (hP.at (by decide) (show P0 0 3 = some 14 from rfl)) (ok_t hsb.1 (ok_bind (copyFrom_ok hsb hsa (by decide) h.2.2.2.1 hN) (fun E hE => ?_)))))
    refine wk2_run (I := fun t F i => i = nI t ∧ Fr3 D F 17 ∧ ∃ s, StOK (gF g) s ∧ CS F 17 s ∧ fstD (gF g) (fun s => brk (gF g) s p) (61 - t) t s = fstD (gF g) (fun s => brk (gF g) s p) 61 0 (gS g)) 61 N _ _ (by omega) ⟨rfl, hE.2, gS g, ho.2.1, hE.1, rfl⟩ ?_ ?_
    · rintro t ht F i ⟨rfl, hfr, s, hv, hc, heq⟩ rec hrec
      have hcf := h.2.2.1.fr hfr (by decide)
      unfold f_H_breaks_26
      refine ok_f (by rw [lit 60, nI_lt' (by decide) (by omega)]; omega) (ok_nn hP4 (ok_t hsb.1 (ok_call (isBroken_eq hsb hfa hcf hc hf (hv.p8 hf) (fun t => hv.z40 t) hN p hp) ?_)))
      rw [show 61 - t = (61 - (t + 1)) + 1 by omega] at heq
      unfold fstD at heq
      by_cases w : brk (gF g) s p = true
      · rw [if_pos w] at heq ⊢
        exact ok_f (by decide) (ok_some ⟨heq, hfr.cr h⟩)
      · rw [if_neg w] at heq ⊢
        refine ok_t rfl (ok_bind (goDay_ok hsb hfa hcf hc hf hv (by decide) hN) (fun G hG => ?_))
        rw [nI_1]
        exact hrec _ _ ⟨rfl, hfr.tr hG.2, day (gF g) s, day_ok hf hv, hG.1, heq⟩
    · rintro F i ⟨rfl, hfr, s, hv, hc, heq⟩ rec
      unfold f_H_breaks_26
      exact ok_t (by decide) (ok_some ⟨heq, hfr.cr h⟩)
  · rw [if_neg r, if_neg r]
    exact ok_t rfl (ok_some ⟨rfl, h, Hi.rf⟩)
theorem H_door (h : CR D P g) (ho : GOK g) (hn : 97 ≤ nx) (hN : 100 ≤ N) : OkP (fun z => z.1 = oDoor g ∧ CR z.2 P g ∧ Hi D z.2) (f_H_door N nx D P 0) := by
  have hP := h.1
  have hf := ho.1
  have hfa := FaA.of4 (nx := nx) hP hn
  have hsa := StA.of (nx := nx) (a := 14) hP hn (by decide)
  have hsb := StA.of (nx := nx) (a := 17) hP hn (by decide)
  have hP4 : P 0 4 = some 17 := hP.at (by decide) rfl
  unfold f_H_door oDoor
  refine ok_t (kd_at (by omega) rfl) (ok_nn hP4 (ok_nn (hP.at (by decide) (show P0 0 3 = some 14 from rfl)) (ok_t hsb.1 (ok_bind (copyFrom_ok hsb hsa (by decide) h.2.2.2.1 hN) (fun E hE => ?_)))))
  refine wk2_run (I := fun t F i => i = nI t ∧ Fr3 D F 17 ∧ ∃ s, StOK (gF g) s ∧ CS F 17 s ∧ fstD (gF g) (fun s => decide (sW s = fD (gF g))) (61 - t) t s = fstD (gF g) (fun s => decide (sW s = fD (gF g))) 61 0 (gS g)) 61 N _ _ (by omega) ⟨rfl, hE.2, gS g, ho.2.1, hE.1, rfl⟩ ?_ ?_
  · rintro t ht F i ⟨rfl, hfr, s, hv, hc, heq⟩ rec hrec
    have hcf := h.2.2.1.fr hfr (by decide)
    unfold f_H_door_13
    refine ok_f (by rw [lit 60, nI_lt' (by decide) (by omega)]; omega) (ok_nn hP4 (ok_t hsb.1 (ok_call (isAtDoor_eq hsb hfa hcf hc hf hv) ?_)))
    rw [show 61 - t = (61 - (t + 1)) + 1 by omega] at heq
    unfold fstD at heq
    by_cases w : sW s = fD (gF g)
    · rw [if_pos (decide_eq_true w)] at heq
      rw [if_pos w]
      exact ok_f (by decide) (ok_some ⟨heq, hfr.cr h⟩)
    · rw [if_neg (fun e => w (of_decide_eq_true e))] at heq
      rw [if_neg w]
      refine ok_t rfl (ok_bind (goDay_ok hsb hfa hcf hc hf hv (by decide) hN) (fun G hG => ?_))
      rw [nI_1]
      exact hrec _ _ ⟨rfl, hfr.tr hG.2, day (gF g) s, day_ok hf hv, hG.1, heq⟩
  · rintro F i ⟨rfl, hfr, s, hv, hc, heq⟩ rec
    unfold f_H_door_13
    exact ok_t (by decide) (ok_some ⟨heq, hfr.cr h⟩)
end OC
