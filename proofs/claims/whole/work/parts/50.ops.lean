/-! the class's acts, one by one: text, notes -/
def oWrite (g : Gs) (x : Int32) : Int32 × Gs := if nI 32 ≤ x ∧ x ≤ nI 126 then (if (gT g).1 = 200 then (-3, g) else (nI ((gT g).1 + 1), puT g ((gT g).1 + 1, fun i => if i = (gT g).1 then x.toNatClampNeg else (gT g).2 i))) else (-1, g)
def oWipe (g : Gs) : Int32 × Gs := (0, puT g (0, (gT g).2))
def oFault (g : Gs) : Int32 := match (rdAll (gT g).1 (gT g).2 200 0 dr0).1 with
  | none => -4
  | some p => nI p
def oForget (g : Gs) : Int32 × Gs := (nI ((gN g).1 + (gM g).1), puM (puN g (0, (gN g).2)) (0, (gM g).2))
def oMark (g : Gs) (x : Int32) : Int32 × Gs := if nI 0 ≤ x ∧ x ≤ nI 40 then (if (gM g).1 < 8 then (nI ((gM g).1 + 1), puM g ((gM g).1 + 1, fun i => if i = (gM g).1 then x.toNatClampNeg else (gM g).2 i)) else (-3, g)) else (-1, g)
def oSee (g : Gs) (t n v : Int32) : Int32 × Gs := if (¬ t < 0 ∧ t < nI (fK (gF g))) ∧ (nI 0 ≤ n ∧ n ≤ nI 20) ∧ (nI 0 ≤ v ∧ v ≤ nI 40) then (if (gN g).1 < 8 then (nI ((gN g).1 + 1), puN g ((gN g).1 + 1, fun i => if i = (gN g).1 then (t.toNatClampNeg, n.toNatClampNeg, v.toNatClampNeg) else (gN g).2 i)) else (-3, g)) else (-1, g)
theorem ch2_ok : ∀ c, c < 127 → vp_nar .char (nI c) = nI c := by decide
section OA
variable {N nx : Nat} {D : Dt} {P : Ft} {g : Gs}
theorem H_write (h : CR D P g) (ho : GOK g) (hn : 97 ≤ nx) (x : Int32) : OkP (fun z => z.1 = (oWrite g x).1 ∧ CR z.2 P (oWrite g x).2 ∧ Hi D z.2) (f_H_write N nx D P 0 x) := by
  have hP := h.1
  have hm := ho.2.2.1.1
  have h12 : D 1 2 = nI (gT g).1 := h.2.1.1
  unfold f_H_write oWrite
  refine ok_t (kd_at (by omega) rfl) ?_
  rcases isW (N := N) (nx := nx) (D := D) (P := P) (x := x) (a := 32) (b := 126) (by decide) (by decide) with ⟨q, c, rfl, hc1, hc2⟩ | ⟨q, hc⟩
  · have e1 : nI 32 ≤ nI c ∧ nI c ≤ nI 126 := ⟨by rw [nI_le' (by decide) (by omega)]; exact hc1, by rw [nI_le' (by omega) (by decide)]; exact hc2⟩
    rw [if_pos e1]
    refine ok_call q (ok_f (by decide) (ok_nn (hP.at (by decide) (show P0 0 0 = some 1 from rfl)) (ok_t (kd_at (by omega) rfl) ?_)))
    rw [ch_ok c (by omega)]
    have e2 : f_H_isWithin N nx D P (D 1 2) 0 199 = some (if 0 ≤ (gT g).1 ∧ (gT g).1 ≤ 199 then 1 else 0) := by rw [h12]; exact isWithin_eq (a := 0) (b := 199) (by omega) (by decide) (by decide)
    by_cases w : (gT g).1 = 200
    · rw [if_pos w]
      have : f_T_add N nx D P 1 (nI c) = some (0, D) := by
        unfold f_T_add
        rw [if_pos (show kd nx 1 = 2 from kd_at (by omega) rfl), e2, if_neg (show ¬ (0 ≤ (gT g).1 ∧ (gT g).1 ≤ 199) by omega)]
        rfl
      exact ok_call this (ok_t rfl (ok_some ⟨rfl, h, Hi.rf⟩))
    · rw [if_neg w, cl (by omega)]
      have : f_T_add N nx D P 1 (nI c) = some (1, upd2 (upd2 D 2 (gT g).1 (nI c)) 1 2 (nI ((gT g).1 + 1))) := by
        unfold f_T_add
        rw [if_pos (show kd nx 1 = 2 from kd_at (by omega) rfl), e2, if_pos (show 0 ≤ (gT g).1 ∧ (gT g).1 ≤ 199 by omega), bnd_some, if_neg (show ¬ (1 : Int32) = 0 by decide), hP.at (by decide) (show P0 1 0 = some 2 from rfl), nn_some, h12, if_pos (ab_ok (t := 2) (N := 200) (kd_at (by omega) rfl) (by omega) (by decide)), cl (by omega), ch2_ok c (by omega)]
        show some (1, upd2 (upd2 D 2 (gT g).1 (nI c)) 1 2 (upd2 D 2 (gT g).1 (nI c) 1 2 + 1)) = _
        rw [upd2_n (show 1 ≠ 2 by decide), h12, nI_1]
      refine ok_call this (ok_f (show ¬ (1 : Int32) = 0 by decide) (ok_some ⟨?_, ?_, ?_⟩))
      · show upd2 (upd2 D 2 (gT g).1 (nI c)) 1 2 (nI ((gT g).1 + 1)) 1 2 = _
        rw [upd2_s, upd_s]
      · obtain ⟨-, ht, hf, hs, hp, hk, hnr⟩ := h
        have e : ∀ q, q ≠ 1 → q ≠ 2 → upd2 (upd2 D 2 (gT g).1 (nI c)) 1 2 (nI ((gT g).1 + 1)) q = D q := fun q a b => by rw [upd2_n a, upd2_n b]
        refine ⟨hP, ⟨?_, fun i hi => ?_⟩, hf.nn (e 4 (by decide) (by decide)) (e 5 (by decide) (by decide)) (e 6 (by decide) (by decide)) (e 7 (by decide) (by decide)), hs.at1 (e 14 (by decide) (by decide)) (e 15 (by decide) (by decide)) (e 16 (by decide) (by decide)), hp.nn (fun q h1 h2 => e q (by omega) (by omega)), hk.nn (fun q h1 h2 => e q (by omega) (by omega)), hnr.nn (fun q h1 h2 => e q (by omega) (by omega))⟩
        · show upd2 (upd2 D 2 (gT g).1 (nI c)) 1 2 (nI ((gT g).1 + 1)) 1 2 = _
          rw [upd2_s, upd_s]; rfl
        · have hi : i < (gT g).1 + 1 := hi
          show upd2 (upd2 D 2 (gT g).1 (nI c)) 1 2 (nI ((gT g).1 + 1)) 2 i = nI (if i = (gT g).1 then c else (gT g).2 i)
          rw [upd2_n (by decide), upd2_s]
          by_cases z : i = (gT g).1
          · rw [if_pos z, z, upd_s]
          · rw [if_neg z, upd_n z]; exact ht.2 i (by omega)
      · intro q hq
        show upd2 (upd2 D 2 (gT g).1 (nI c)) 1 2 (nI ((gT g).1 + 1)) q = _
        rw [upd2_n (by omega), upd2_n (by omega)]
  · rw [if_neg hc]
    exact ok_call q (ok_t rfl (ok_some ⟨rfl, h, Hi.rf⟩))
theorem H_wipe (h : CR D P g) (hn : 97 ≤ nx) : OkP (fun z => z.1 = nI (gT g).1 ∧ CR z.2 P (oWipe g).2 ∧ Hi D z.2) (f_H_wipe N nx D P 0) := by
  obtain ⟨hP, ht, hf, hs, hp, hk, hnr⟩ := h
  unfold f_H_wipe f_T_clear
  refine ok_t (kd_at (by omega) rfl) (ok_nn (hP.at (by decide) (show P0 0 0 = some 1 from rfl)) (ok_t (kd_at (by omega) rfl) (ok_call (if_pos (kd_at (by omega) rfl)) (ok_some ⟨ht.1, ?_, ?_⟩))))
  · have e : ∀ q, q ≠ 1 → upd2 D 1 2 0 q = D q := fun q a => upd2_n a
    refine ⟨hP, ⟨?_, fun i hi => absurd hi (Nat.not_lt_zero i)⟩, hf.nn (e 4 (by decide)) (e 5 (by decide)) (e 6 (by decide)) (e 7 (by decide)), hs.at1 (e 14 (by decide)) (e 15 (by decide)) (e 16 (by decide)), hp.nn (fun q h1 h2 => e q (by omega)), hk.nn (fun q h1 h2 => e q (by omega)), hnr.nn (fun q h1 h2 => e q (by omega))⟩
    show upd2 D 1 2 0 1 2 = nI 0
    rw [upd2_s, upd_s]; rfl
  · intro q hq
    show upd2 D 1 2 0 q = _
    rw [upd2_n (by omega)]
theorem FrD.cr {D E : Dt} (hf : FrD D E) (h : CR D P g) : CR E P g := h.sc (fun q h1 h2 => by
  have h1 : ¬ (q = 3 ∨ (9 ≤ q ∧ q ≤ 13) ∨ (17 ≤ q ∧ q ≤ 19) ∨ 59 ≤ q) := h1
  exact hf.1 q h2 (by omega) (by omega)) hf.2
theorem FrD.hi {D E : Dt} (hf : FrD D E) : Hi D E := fun q hq => hf.1 q (by omega) (by omega) (by omega)
theorem H_fault (h : CR D P g) (ho : GOK g) (hn : 97 ≤ nx) (hN : 500 ≤ N) : OkP (fun z => z.1 = oFault g ∧ CR z.2 P g ∧ Hi D z.2) (f_H_fault N nx D P 0) := by
  have hP := h.1
  unfold f_H_fault oFault
  refine ok_t (kd_at (by omega) rfl) (ok_nn (hP.at (by decide) (show P0 0 0 = some 1 from rfl)) (ok_nn (hP.at (by decide) (show P0 0 2 = some 9 from rfl)) (ok_t (kd_at (by omega) rfl) (ok_bind (readInto_ok hP hn (h.2.1.tx ho) hN) ?_))))
  rintro ⟨z, E⟩ ⟨hfr, hz⟩
  have hfr : FrD D E := hfr
  refine ok_some ⟨?_, hfr.cr h, hfr.hi⟩
  cases e : (rdAll (gT g).1 (gT g).2 200 0 dr0).1 with
  | none => rw [e] at hz; exact hz.1
  | some p => rw [e] at hz; exact hz.1
/-- the notes alone have changed -/
theorem CR.nt {D E : Dt} {n : Nat × (Nat → Nat × Nat × Nat)} {m : Nat × (Nat → Nat)} (h : CR D P g) (hE : ∀ q, q < 54 ∨ 58 < q → E q = D q) (hN : NR E n m) : CR E P (puM (puN g n) m) := by
  obtain ⟨hP, ht, hf, hs, hp, hk, hnr⟩ := h
  exact ⟨hP, ⟨by rw [hE 1 (by decide)]; exact ht.1, by rw [hE 2 (by decide)]; exact ht.2⟩, hf.nn (hE _ (by decide)) (hE _ (by decide)) (hE _ (by decide)) (hE _ (by decide)), hs.at1 (hE _ (by decide)) (hE _ (by decide)) (hE _ (by decide)), hp.nn (fun q h1 h2 => hE q (by omega)), hk.nn (fun q h1 h2 => hE q (by omega)), hN⟩
theorem N_clear (hn : 97 ≤ nx) : ∃ E, f_N_clear N nx D P 54 = some E ∧ (∀ q, q ≠ 54 → E q = D q) ∧ E 54 4 = 0 ∧ E 54 5 = 0 := by
  refine ⟨upd2 (upd2 D 54 4 0) 54 5 0, ?_, fun q hq => by rw [upd2_n hq, upd2_n hq], ?_, ?_⟩
  · unfold f_N_clear
    rw [if_pos (show kd nx 54 = 4 from kd_at (by omega) rfl)]; rfl
  · rw [upd2_s, upd_n (by decide), upd2_s, upd_s]
  · rw [upd2_s, upd_s]
theorem H_forget (h : CR D P g) (ho : GOK g) (hn : 97 ≤ nx) : OkP (fun z => z.1 = (oForget g).1 ∧ CR z.2 P (oForget g).2 ∧ Hi D z.2) (f_H_forget N nx D P 0) := by
  have hP := h.1
  obtain ⟨E, e1, e2, e3, e4⟩ := N_clear (N := N) (P := P) (D := D) hn
  unfold f_H_forget
  refine ok_t (kd_at (by omega) rfl) (ok_nn (hP.at (by decide) (show P0 0 7 = some 54 from rfl)) (ok_t (kd_at (by omega) rfl) (ok_call e1 (ok_some ⟨?_, ?_, fun q hq => e2 q (by omega)⟩))))
  · show D 54 4 + D 54 5 = nI ((gN g).1 + (gM g).1)
    rw [h.2.2.2.2.2.2.1, h.2.2.2.2.2.2.2.1, ← nI_add]
  · exact h.nt (fun q hq => e2 q (by omega)) ⟨e3, e4, fun i hi => absurd hi (Nat.not_lt_zero i), fun i hi => absurd hi (Nat.not_lt_zero i)⟩
theorem H_mark (h : CR D P g) (ho : GOK g) (hn : 97 ≤ nx) (x : Int32) : OkP (fun z => z.1 = (oMark g x).1 ∧ CR z.2 P (oMark g x).2 ∧ Hi D z.2) (f_H_mark N nx D P 0 x) := by
  have hP := h.1
  have hm := ho.2.2.2.2.2.2.1
  obtain ⟨n4, n5, n6, n7⟩ := h.2.2.2.2.2.2
  unfold f_H_mark oMark
  refine ok_t (kd_at (by omega) rfl) ?_
  rcases isW (N := N) (nx := nx) (D := D) (P := P) (x := x) (a := 0) (b := 40) (by decide) (by decide) with ⟨q, c, rfl, hc1, hc2⟩ | ⟨q, hc⟩
  · have e1 : nI 0 ≤ nI c ∧ nI c ≤ nI 40 := ⟨by rw [nI_le' (by decide) (by omega)]; exact hc1, by rw [nI_le' (by omega) (by decide)]; exact hc2⟩
    rw [if_pos e1]
    refine ok_call q (ok_f (by decide) (ok_nn (hP.at (by decide) (show P0 0 7 = some 54 from rfl)) (ok_t (kd_at (by omega) rfl) ?_)))
    have e2 : f_H_isWithin N nx D P (D 54 5) 0 7 = some (if 0 ≤ (gM g).1 ∧ (gM g).1 ≤ 7 then 1 else 0) := by rw [n5]; exact isWithin_eq (a := 0) (b := 7) (by omega) (by decide) (by decide)
    by_cases w : (gM g).1 < 8
    · rw [if_pos w, cl (by omega)]
      have : f_N_addMark N nx D P 54 (nI c) = some (1, upd2 (upd2 D 58 (gM g).1 (nI c)) 54 5 (nI ((gM g).1 + 1))) := by
        unfold f_N_addMark
        rw [if_pos (show kd nx 54 = 4 from kd_at (by omega) rfl), e2, if_pos (show 0 ≤ (gM g).1 ∧ (gM g).1 ≤ 7 by omega), bnd_some, if_neg (show ¬ (1 : Int32) = 0 by decide), hP.at (by decide) (show P0 54 3 = some 58 from rfl), nn_some, n5, if_pos (ab_ok (t := 3) (N := 8) (kd_at (by omega) rfl) (by omega) (by decide)), cl (by omega)]
        show some (1, upd2 (upd2 D 58 (gM g).1 (nI c)) 54 5 (upd2 D 58 (gM g).1 (nI c) 54 5 + 1)) = _
        rw [upd2_n (show 54 ≠ 58 by decide), n5, nI_1]
      refine ok_call this (ok_f (show ¬ (1 : Int32) = 0 by decide) (ok_some ⟨?_, ?_, ?_⟩))
      · show upd2 (upd2 D 58 (gM g).1 (nI c)) 54 5 (nI ((gM g).1 + 1)) 54 5 = _
        rw [upd2_s, upd_s]
      · refine h.nt (n := gN g) (fun q hq => ?_) ⟨?_, ?_, fun i hi => ?_, fun i hi => ?_⟩
        · show upd2 (upd2 D 58 (gM g).1 (nI c)) 54 5 (nI ((gM g).1 + 1)) q = _
          rw [upd2_n (by omega), upd2_n (by omega)]
        · show upd2 (upd2 D 58 (gM g).1 (nI c)) 54 5 (nI ((gM g).1 + 1)) 54 4 = _
          rw [upd2_s, upd_n (by decide), upd2_n (by decide)]; exact n4
        · show upd2 (upd2 D 58 (gM g).1 (nI c)) 54 5 (nI ((gM g).1 + 1)) 54 5 = _
          rw [upd2_s, upd_s]
        · show upd2 (upd2 D 58 (gM g).1 (nI c)) 54 5 (nI ((gM g).1 + 1)) 55 i = _ ∧ upd2 (upd2 D 58 (gM g).1 (nI c)) 54 5 (nI ((gM g).1 + 1)) 56 i = _ ∧ upd2 (upd2 D 58 (gM g).1 (nI c)) 54 5 (nI ((gM g).1 + 1)) 57 i = _
          rw [upd2_n (by decide), upd2_n (by decide), upd2_n (by decide), upd2_n (by decide), upd2_n (by decide), upd2_n (by decide)]
          exact n6 i hi
        · have hi : i < (gM g).1 + 1 := hi
          show upd2 (upd2 D 58 (gM g).1 (nI c)) 54 5 (nI ((gM g).1 + 1)) 58 i = nI (if i = (gM g).1 then c else (gM g).2 i)
          rw [upd2_n (by decide), upd2_s]
          by_cases z : i = (gM g).1
          · rw [if_pos z, z, upd_s]
          · rw [if_neg z, upd_n z]; exact n7 i (by omega)
      · intro q hq
        show upd2 (upd2 D 58 (gM g).1 (nI c)) 54 5 (nI ((gM g).1 + 1)) q = _
        rw [upd2_n (by omega), upd2_n (by omega)]
    · rw [if_neg w]
      have : f_N_addMark N nx D P 54 (nI c) = some (0, D) := by
        unfold f_N_addMark
        rw [if_pos (show kd nx 54 = 4 from kd_at (by omega) rfl), e2, if_neg (show ¬ (0 ≤ (gM g).1 ∧ (gM g).1 ≤ 7) by omega)]
        rfl
      exact ok_call this (ok_t rfl (ok_some ⟨rfl, h, Hi.rf⟩))
  · rw [if_neg hc]
    exact ok_call q (ok_t rfl (ok_some ⟨rfl, h, Hi.rf⟩))
end OA
