/-! the class: a month by draws -/
def drw (z i : Nat) : Nat := ((7919 * z + 6151 * i + 1) * (7919 * z + 6151 * i + 1)) % 65521
theorem drw_lt (z i : Nat) : drw z i < 65521 := Nat.mod_lt _ (by decide)
def tn (f : Fam) (d : Nat) (s : St) : St := if fK f < 1 then s else if d % 8 ≤ 2 then (if sP s (d / 8 % fK f) < 5 ∧ sW s ≠ fD f then setP s (d / 8 % fK f) 5 else s) else if d % 8 = 3 then (if sP s (d / 8 % fK f) = 5 then setP s (d / 8 % fK f) (d / 64 % fN f) else s) else if d % 8 = 4 then (if sP s (d / 8 % fK f) < 5 ∧ sP s (d / 8 % fK f) ≠ d / 64 % fN f then setP s (d / 8 % fK f) (d / 64 % fN f) else s) else s
def monN (f : Fam) (z : Nat) : Nat → Nat → St → St
  | 0, _, s => s
  | n + 1, i, s => monN f z n (i + 1) (day f (tn f (drw z i) s))
def oMonth (g : Gs) (z n w : Int32) : Int32 := if (nI 0 ≤ z ∧ z ≤ nI 9999) ∧ (nI 1 ≤ n ∧ n ≤ nI 60) ∧ (nI 0 ≤ w ∧ w ≤ nI 1) then (if w = 0 then nI (borneS (monN (gF g) z.toNatClampNeg n.toNatClampNeg 0 (gS g)) 8) else nI (sW (monN (gF g) z.toNatClampNeg n.toNatClampNeg 0 (gS g)))) else -1
theorem up2 {x : Int32} {a b : Nat} (h : nI a ≤ x) (h2 : x ≤ nI b) (hb : b < 100000) (ha : a < 100000) : ∃ n, x = nI n ∧ a ≤ n ∧ n ≤ b := by
  have e1 := Int32.le_iff_toInt_le.mp h
  have e2 : (nI a).toInt = a := nI_toInt (by omega)
  have e3 := Int32.le_iff_toInt_le.mp h2
  have e4 : (nI b).toInt = b := nI_toInt (by omega)
  refine ⟨x.toInt.toNat, Int32.toInt_inj.mp ?_, by omega, by omega⟩
  rw [nI_toInt (by omega)]; omega
theorem isW2 {N nx : Nat} {D : Dt} {P : Ft} {x : Int32} {a b : Nat} (ha : a < 100000) (hb : b < 100000) : (f_H_isWithin N nx D P x (nI a) (nI b) = some 1 ∧ ∃ n, x = nI n ∧ a ≤ n ∧ n ≤ b) ∨ (f_H_isWithin N nx D P x (nI a) (nI b) = some 0 ∧ ¬ (nI a ≤ x ∧ x ≤ nI b)) := by
  unfold f_H_isWithin
  by_cases q : x < nI a
  · exact Or.inr ⟨if_pos q, fun e => Int32.not_lt.mpr e.1 q⟩
  · rw [if_neg q]
    by_cases w : nI b < x
    · exact Or.inr ⟨if_pos w, fun e => Int32.not_lt.mpr e.2 w⟩
    · exact Or.inl ⟨if_neg w, up2 (Int32.not_lt.mp q) (Int32.not_lt.mp w) hb ha⟩
theorem draw_val {z i : Nat} (hz : z ≤ 9999) (hi : i ≤ 60) : Int64.toInt32 ((((7919 * (Int32.toInt64 (nI z))) + (6151 * (Int32.toInt64 (nI i)))) + 1) * (((7919 * (Int32.toInt64 (nI z))) + (6151 * (Int32.toInt64 (nI i)))) + 1) - (((7919 * (Int32.toInt64 (nI z))) + (6151 * (Int32.toInt64 (nI i)))) + 1) * (((7919 * (Int32.toInt64 (nI z))) + (6151 * (Int32.toInt64 (nI i)))) + 1) / 65521 * 65521) = nI (drw z i) := by
  have hx : 7919 * z + 6151 * i + 1 ≤ 80000000 := by omega
  have hxx : (7919 * z + 6151 * i + 1) * (7919 * z + 6151 * i + 1) ≤ 80000000 * 80000000 := Nat.mul_le_mul hx hx
  have e : ((7919 : Int64) * (Int32.toInt64 (nI z))) + (6151 * (Int32.toInt64 (nI i))) + 1 = lN (7919 * z + 6151 * i + 1) := by
    rw [nI_l (by omega), nI_l (by omega)]
    show lN 7919 * lN z + lN 6151 * lN i + lN 1 = _
    rw [lN_mul, lN_mul, lN_add, lN_add]
  rw [e, lN_mul]
  show Int64.toInt32 (lN ((7919 * z + 6151 * i + 1) * (7919 * z + 6151 * i + 1)) - lN ((7919 * z + 6151 * i + 1) * (7919 * z + 6151 * i + 1)) / lN 65521 * lN 65521) = _
  rw [pk_lRem (by omega) (by decide) (by decide), lN_i]
  rfl
theorem tn_ok {f : Fam} {s : St} (hf : FamOK f) (hv : StOK f s) (d : Nat) : StOK f (tn f d s) := by
  unfold tn
  split
  · exact hv
  · rename_i hk
    have ht : d / 8 % fK f < fK f := Nat.mod_lt _ (by omega)
    have hp : d / 64 % fN f < fN f := Nat.mod_lt _ hf.1
    have h1 := (hv.1 _ ht).2.2
    split
    · split
      · exact setP_ok hv ht (Or.inr rfl) (h1 (by omega))
      · exact hv
    · split
      · split
        · exact setP_ok hv ht (Or.inl hp) (h1 (by omega))
        · exact hv
      · split
        · split
          · exact setP_ok hv ht (Or.inl hp) (h1 (by omega))
          · exact hv
        · exact hv
theorem monN_ok {f : Fam} (hf : FamOK f) (z : Nat) : ∀ (n i : Nat) {s : St}, StOK f s → StOK f (monN f z n i s)
  | 0, _, _, hv => hv
  | n + 1, i, _, hv => monN_ok hf z n (i + 1) (day_ok hf (tn_ok hf hv _))
section OG
variable {N nx : Nat} {D : Dt} {P : Ft} {g : Gs}
theorem actByDraw_ok {s : St} (hP : PB P) (hn : 97 ≤ nx) (hcf : CF D 4 (gF g)) (hc : CS D 17 s) (hf : FamOK (gF g)) (hv : StOK (gF g) s) {d : Nat} (hd : d < 65521) : OkP (fun E => CS E 17 (tn (gF g) d s) ∧ Fr3 D E 17) (f_H_actByDraw N nx D P 0 17 (nI d)) := by
  have hfa := FaA.of4 (nx := nx) hP hn
  have hsb := StA.of (nx := nx) (a := 17) hP hn (by decide)
  have hk8 := hf.2.2.1
  have hn1 := hf.1
  have hn5 := hf.2.1
  have e8 : nI d - nI d / 8 * 8 = nI (d % 8) := pk_rem (d := 8) (by omega) (by decide) (by decide)
  have et : nI d / 8 = nI (d / 8) := pk_div (d := 8) (by omega) (by decide) (by decide)
  have ep : nI d / 64 = nI (d / 64) := pk_div (d := 64) (by omega) (by decide) (by decide)
  unfold f_H_actByDraw tn
  refine ok_t (kd_at (by omega) rfl) (ok_nn (hP.at (by decide) (show P0 0 1 = some 4 from rfl)) (ok_t hfa.1 ?_))
  rw [hcf.1, hcf.2.1, e8, et, ep]
  by_cases k0 : fK (gF g) < 1
  · rw [if_pos k0]
    exact ok_t (by rw [lit 1, nI_lt' (by omega) (by decide)]; exact k0) (ok_some ⟨hc, Fr3.rf⟩)
  · have ht : d / 8 % fK (gF g) < fK (gF g) := Nat.mod_lt _ (by omega)
    have hp : d / 64 % fN (gF g) < fN (gF g) := Nat.mod_lt _ hn1
    rw [if_neg k0, pk_rem (a := d / 8) (by omega) (by omega) (by omega), pk_rem (a := d / 64) (by omega) (by omega) (by omega)]
    have hk0 : ¬ nI (fK (gF g)) = 0 := by rw [lit 0, nI_inj (by omega) (by decide)]; omega
    have hn0 : ¬ nI (fN (gF g)) = 0 := by rw [lit 0, nI_inj (by omega) (by decide)]; omega
    refine ok_f (by rw [lit 1, nI_lt' (by omega) (by decide)]; exact k0) (ok_t (by rw [lit 1, nI_le' (by decide) (by omega)]; omega) (ok_f hk0 (ok_f hn0 ?_)))
    refine ok_ite (fun c => ?_) (fun c => ?_)
    · rw [lit 2, nI_lt' (by decide) (by omega)] at c
      rw [if_neg (show ¬ d % 8 ≤ 2 by omega)]
      refine ok_ite (fun c3 => ?_) (fun c3 => ?_)
      · rw [lit 3, nI_inj (by omega) (by decide)] at c3
        rw [if_pos c3]
        exact ok_t hsb.1 (ok_bind (feelFor_ok hsb hfa hcf hc hf hv _ _ (by omega) hp) (fun E hE => ok_some hE))
      · rw [lit 3, nI_inj (by omega) (by decide)] at c3
        rw [if_neg c3]
        refine ok_ite (fun c4 => ?_) (fun c4 => ?_)
        · rw [lit 4, nI_inj (by omega) (by decide)] at c4
          rw [if_pos c4]
          exact ok_t hsb.1 (ok_bind (giveTo_ok hsb hfa hcf hc hf hv _ _ (by omega) hp) (fun E hE => ok_some hE))
        · rw [lit 4, nI_inj (by omega) (by decide)] at c4
          rw [if_neg c4]
          exact ok_some ⟨hc, Fr3.rf⟩
    · rw [lit 2, nI_lt' (by decide) (by omega)] at c
      rw [if_pos (show d % 8 ≤ 2 by omega)]
      exact ok_t hsb.1 (ok_bind (stickIn_ok hsb hfa hcf hc hf hv _ (by omega)) (fun E hE => ok_some hE))
theorem H_month (h : CR D P g) (ho : GOK g) (hn : 97 ≤ nx) (hN : 100 ≤ N) (x y v : Int32) : OkP (fun z => z.1 = oMonth g x y v ∧ CR z.2 P g ∧ Hi D z.2) (f_H_month N nx D P 0 x y v) := by
  have hP := h.1
  have hf := ho.1
  have hfa := FaA.of4 (nx := nx) hP hn
  have hsa := StA.of (nx := nx) (a := 14) hP hn (by decide)
  have hsb := StA.of (nx := nx) (a := 17) hP hn (by decide)
  have hP4 : P 0 4 = some 17 := hP.at (by decide) rfl
  unfold f_H_month oMonth
  refine ok_t (kd_at (by omega) rfl) ?_
  rcases isW2 (N := N) (nx := nx) (D := D) (P := P) (x := x) (a := 0) (b := 9999) (by decide) (by decide) with ⟨q, z, rfl, hz1, hz2⟩ | ⟨q, hc⟩
  · refine ok_call q (ok_f (by decide) ?_)
    rcases isW (N := N) (nx := nx) (D := D) (P := P) (x := y) (a := 1) (b := 60) (by decide) (by decide) with ⟨r, n, rfl, hn1, hn2⟩ | ⟨r, hr⟩
    · refine ok_call r (ok_f (by decide) ?_)
      rcases isW (N := N) (nx := nx) (D := D) (P := P) (x := v) (a := 0) (b := 1) (by decide) (by decide) with ⟨t, w, rfl, hw1, hw2⟩ | ⟨t, ht⟩
      · rw [if_pos ⟨⟨by rw [nI_le' (by decide) (by omega)]; exact hz1, by rw [nI_le' (by omega) (by decide)]; exact hz2⟩, in_nI hn1 hn2 (by decide), in_nI hw1 hw2 (by decide)⟩, cl (by omega), cl (by omega)]
        refine ok_call t (ok_f (by decide) (ok_nn hP4 (ok_nn (hP.at (by decide) (show P0 0 3 = some 14 from rfl)) (ok_t hsb.1 (ok_bind (copyFrom_ok hsb hsa (by decide) h.2.2.2.1 hN) (fun E hE => ?_))))))
        refine wk2_run (I := fun t F i => i = nI t ∧ Fr3 D F 17 ∧ ∃ s, StOK (gF g) s ∧ CS F 17 s ∧ monN (gF g) z (n - t) t s = monN (gF g) z n 0 (gS g)) n N _ _ (by omega) ⟨rfl, hE.2, gS g, ho.2.1, hE.1, rfl⟩ ?_ ?_
        · rintro t ht F i ⟨rfl, hfr, s, hv, hc, heq⟩ rec hrec
          have hcf := h.2.2.1.fr hfr (by decide)
          rw [show n - t = (n - (t + 1)) + 1 by omega, show monN (gF g) z (n - (t + 1) + 1) t s = monN (gF g) z (n - (t + 1)) (t + 1) (day (gF g) (tn (gF g) (drw z t) s)) from rfl] at heq
          unfold f_H_month_46
          have hdr : f_H_drawOf N nx F P (nI z) (nI t) = some (nI (drw z t)) := congrArg some (draw_val hz2 (by omega))
          refine ok_f (i2_lt ht (by omega)) (ok_nn hP4 (ok_call hdr (ok_bind (actByDraw_ok hP hn hcf hc hf hv (drw_lt z t)) (fun G hG => ok_t hsb.1 ?_))))
          refine ok_bind (goDay_ok hsb hfa (hcf.fr hG.2 (by decide)) hG.1 hf (tn_ok hf hv _) (by decide) hN) (fun H hH => ?_)
          rw [nI_1]
          exact hrec _ _ ⟨rfl, (hfr.tr hG.2).tr hH.2, _, day_ok hf (tn_ok hf hv _), hH.1, heq⟩
        · rintro F i ⟨rfl, hfr, s, hv, hc, heq⟩ rec
          rw [show n - n = 0 by omega, show monN (gF g) z 0 n s = s from rfl] at heq
          subst heq
          unfold f_H_month_46
          refine ok_t (i2_ge (Nat.le_refl _) (by omega)) (ok_ite (fun c => ?_) (fun c => ?_))
          · refine ok_nn hP4 (ok_t hsb.1 (ok_call (borneSum_eq hsb hc (hv.p8 hf) hN) (ok_some ⟨?_, hfr.cr h⟩)))
            show nI (borneS _ 8) = if nI w = 0 then _ else _
            rw [if_pos c]
          · refine ok_nn hP4 (ok_t hsb.1 (ok_some ⟨?_, hfr.cr h⟩))
            show F 17 3 = if nI w = 0 then _ else _
            rw [if_neg c]; exact hc.1
      · rw [if_neg (fun c => ht c.2.2)]
        exact ok_call t (ok_t rfl (ok_some ⟨rfl, h, Hi.rf⟩))
    · rw [if_neg (fun c => hr c.2.1)]
      exact ok_call r (ok_t rfl (ok_some ⟨rfl, h, Hi.rf⟩))
  · rw [if_neg (fun c => hc c.1)]
    exact ok_call q (ok_t rfl (ok_some ⟨rfl, h, Hi.rf⟩))
end OG
