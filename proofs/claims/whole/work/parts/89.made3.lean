/-! what the reference's constructor makes -/
theorem P0_out {a k : Nat} (h : 117 ≤ a ∨ 26 ≤ k) : P0 a k = none := by
  unfold P0
  rcases Nat.lt_or_ge a 117 with c | c
  · have hl : ∀ a, a < 117 → (PL.getD a []).length ≤ 26 := by decide +kernel
    have := hl a c
    rw [List.getD_eq_getElem?_getD, List.getElem?_eq_none (by omega)]; rfl
  · have e : PL.getD a [] = [] := by
      have hl : PL.length = 117 := by decide +kernel
      rw [List.getD_eq_getElem?_getD, List.getElem?_eq_none (by omega)]; rfl
    rw [e]; rfl
theorem zP_n {P : Ft} {n a : Nat} (h : a ≠ n) : zP P n a = P a := if_neg h
theorem zP_s {P : Ft} {n : Nat} : zP P n n = fun _ => none := if_pos rfl
set_option maxRecDepth 100000 in
theorem M_made (N : Nat) (D : Dt) (P : Ft) : ∃ D' P', f_M_init N 98 D P 97 = ((f_M_first N 117 D' P' 97).bind fun z58 => (f_M_takeDraft N 117 z58 P' 97).bind fun z59 => some (z59, P')) ∧ (∀ a, a < 98 → D' a = D a) ∧ (∀ a, a < 97 ∨ 117 ≤ a → P' a = P a) ∧ (∀ a, 98 ≤ a → a < 117 → P' a = fun _ => none) ∧ P' 97 = va_up (va_up (va_up (va_up (va_up (va_up (va_up (va_up (va_up (va_up (va_up (va_up (va_up (va_up (va_up (va_up (va_up (va_up (va_up (P 97) 0 (some 98)) 2 (some 99)) 3 (some 100)) 4 (some 101)) 5 (some 102)) 6 (some 103)) 7 (some 104)) 8 (some 105)) 11 (some 106)) 12 (some 107)) 14 (some 108)) 16 (some 109)) 17 (some 110)) 18 (some 111)) 19 (some 112)) 20 (some 113)) 21 (some 114)) 23 (some 115)) 25 (some 116) := by
  refine Exists.intro ?wD (Exists.intro ?wP ⟨?eq, fun a ha => ?f1, fun a ha => ?f2, fun a h1 h2 => ?f4, ?f5⟩)
  case eq =>
    unfold f_M_init
    refine (if_pos (by decide +kernel)).trans ?_
    refine (if_pos (by decide +kernel)).trans ?_
    refine pas_eq.trans ?_
    refine pas_eq.trans ?_
    refine (if_pos (by decide +kernel)).trans ?_
    refine pas_eq.trans ?_
    refine (if_pos (by decide +kernel)).trans ?_
    refine pas_eq.trans ?_
    refine pas_eq.trans ?_
    refine (if_pos (by decide +kernel)).trans ?_
    refine pas_eq.trans ?_
    refine (if_pos (by decide +kernel)).trans ?_
    refine pas_eq.trans ?_
    refine pas_eq.trans ?_
    refine (if_pos (by decide +kernel)).trans ?_
    refine pas_eq.trans ?_
    refine (if_pos (by decide +kernel)).trans ?_
    refine pas_eq.trans ?_
    refine pas_eq.trans ?_
    refine (if_pos (by decide +kernel)).trans ?_
    refine pas_eq.trans ?_
    refine (if_pos (by decide +kernel)).trans ?_
    refine pas_eq.trans ?_
    refine pas_eq.trans ?_
    refine (if_pos (by decide +kernel)).trans ?_
    refine pas_eq.trans ?_
    refine (if_pos (by decide +kernel)).trans ?_
    refine pas_eq.trans ?_
    refine pas_eq.trans ?_
    refine (if_pos (by decide +kernel)).trans ?_
    refine pas_eq.trans ?_
    refine (if_pos (by decide +kernel)).trans ?_
    refine pas_eq.trans ?_
    refine pas_eq.trans ?_
    refine (if_pos (by decide +kernel)).trans ?_
    refine pas_eq.trans ?_
    refine (if_pos (by decide +kernel)).trans ?_
    refine pas_eq.trans ?_
    refine pas_eq.trans ?_
    refine (if_pos (by decide +kernel)).trans ?_
    refine pas_eq.trans ?_
    refine (if_pos (by decide +kernel)).trans ?_
    refine pas_eq.trans ?_
    refine pas_eq.trans ?_
    refine (if_pos (by decide +kernel)).trans ?_
    refine pas_eq.trans ?_
    refine (if_pos (by decide +kernel)).trans ?_
    refine pas_eq.trans ?_
    refine pas_eq.trans ?_
    refine (if_pos (by decide +kernel)).trans ?_
    refine pas_eq.trans ?_
    refine (if_pos (by decide +kernel)).trans ?_
    refine pas_eq.trans ?_
    refine pas_eq.trans ?_
    refine (if_pos (by decide +kernel)).trans ?_
    refine pas_eq.trans ?_
    refine (if_pos (by decide +kernel)).trans ?_
    refine pas_eq.trans ?_
    refine pas_eq.trans ?_
    refine (if_pos (by decide +kernel)).trans ?_
    refine pas_eq.trans ?_
    refine (if_pos (by decide +kernel)).trans ?_
    refine pas_eq.trans ?_
    refine pas_eq.trans ?_
    refine (if_pos (by decide +kernel)).trans ?_
    refine pas_eq.trans ?_
    refine (if_pos (by decide +kernel)).trans ?_
    refine pas_eq.trans ?_
    refine pas_eq.trans ?_
    refine (if_pos (by decide +kernel)).trans ?_
    refine pas_eq.trans ?_
    refine (if_pos (by decide +kernel)).trans ?_
    refine pas_eq.trans ?_
    refine pas_eq.trans ?_
    refine (if_pos (by decide +kernel)).trans ?_
    refine pas_eq.trans ?_
    refine (if_pos (by decide +kernel)).trans ?_
    refine pas_eq.trans ?_
    refine pas_eq.trans ?_
    refine (if_pos (by decide +kernel)).trans ?_
    refine pas_eq.trans ?_
    refine (if_pos (by decide +kernel)).trans ?_
    refine pas_eq.trans ?_
    refine pas_eq.trans ?_
    refine (if_pos (by decide +kernel)).trans ?_
    refine pas_eq.trans ?_
    refine (if_pos (by decide +kernel)).trans ?_
    refine pas_eq.trans ?_
    refine pas_eq.trans ?_
    refine (if_pos (by decide +kernel)).trans ?_
    refine pas_eq.trans ?_
    refine (if_pos (by decide +kernel)).trans ?_
    refine pas_eq.trans ?_
    refine pas_eq.trans ?_
    refine (if_pos (by decide +kernel)).trans ?_
    refine pas_eq.trans ?_
    exact rfl
  · refine (show zD _ _ a = _ from if_neg (by omega)).trans ?_
    refine (show zD _ _ a = _ from if_neg (by omega)).trans ?_
    refine (show zD _ _ a = _ from if_neg (by omega)).trans ?_
    refine (show zD _ _ a = _ from if_neg (by omega)).trans ?_
    refine (show zD _ _ a = _ from if_neg (by omega)).trans ?_
    refine (show zD _ _ a = _ from if_neg (by omega)).trans ?_
    refine (show zD _ _ a = _ from if_neg (by omega)).trans ?_
    refine (show zD _ _ a = _ from if_neg (by omega)).trans ?_
    refine (show zD _ _ a = _ from if_neg (by omega)).trans ?_
    refine (show zD _ _ a = _ from if_neg (by omega)).trans ?_
    refine (show zD _ _ a = _ from if_neg (by omega)).trans ?_
    refine (show zD _ _ a = _ from if_neg (by omega)).trans ?_
    refine (show zD _ _ a = _ from if_neg (by omega)).trans ?_
    refine (show zD _ _ a = _ from if_neg (by omega)).trans ?_
    refine (show zD _ _ a = _ from if_neg (by omega)).trans ?_
    refine (show zD _ _ a = _ from if_neg (by omega)).trans ?_
    refine (show zD _ _ a = _ from if_neg (by omega)).trans ?_
    refine (show zD _ _ a = _ from if_neg (by omega)).trans ?_
    refine (show zD _ _ a = _ from if_neg (by omega)).trans ?_
    rfl
  · refine (updF_n (by omega)).trans ?_
    refine (show zP _ _ a = _ from if_neg (by omega)).trans ?_
    refine (updF_n (by omega)).trans ?_
    refine (show zP _ _ a = _ from if_neg (by omega)).trans ?_
    refine (updF_n (by omega)).trans ?_
    refine (show zP _ _ a = _ from if_neg (by omega)).trans ?_
    refine (updF_n (by omega)).trans ?_
    refine (show zP _ _ a = _ from if_neg (by omega)).trans ?_
    refine (updF_n (by omega)).trans ?_
    refine (show zP _ _ a = _ from if_neg (by omega)).trans ?_
    refine (updF_n (by omega)).trans ?_
    refine (show zP _ _ a = _ from if_neg (by omega)).trans ?_
    refine (updF_n (by omega)).trans ?_
    refine (show zP _ _ a = _ from if_neg (by omega)).trans ?_
    refine (updF_n (by omega)).trans ?_
    refine (show zP _ _ a = _ from if_neg (by omega)).trans ?_
    refine (updF_n (by omega)).trans ?_
    refine (show zP _ _ a = _ from if_neg (by omega)).trans ?_
    refine (updF_n (by omega)).trans ?_
    refine (show zP _ _ a = _ from if_neg (by omega)).trans ?_
    refine (updF_n (by omega)).trans ?_
    refine (show zP _ _ a = _ from if_neg (by omega)).trans ?_
    refine (updF_n (by omega)).trans ?_
    refine (show zP _ _ a = _ from if_neg (by omega)).trans ?_
    refine (updF_n (by omega)).trans ?_
    refine (show zP _ _ a = _ from if_neg (by omega)).trans ?_
    refine (updF_n (by omega)).trans ?_
    refine (show zP _ _ a = _ from if_neg (by omega)).trans ?_
    refine (updF_n (by omega)).trans ?_
    refine (show zP _ _ a = _ from if_neg (by omega)).trans ?_
    refine (updF_n (by omega)).trans ?_
    refine (show zP _ _ a = _ from if_neg (by omega)).trans ?_
    refine (updF_n (by omega)).trans ?_
    refine (show zP _ _ a = _ from if_neg (by omega)).trans ?_
    refine (updF_n (by omega)).trans ?_
    refine (show zP _ _ a = _ from if_neg (by omega)).trans ?_
    refine (updF_n (by omega)).trans ?_
    refine (show zP _ _ a = _ from if_neg (by omega)).trans ?_
    rfl
  · refine (updF_n (by omega)).trans ?_
    by_cases c116 : a = 116
    · subst c116; exact zP_s
    refine (zP_n c116).trans ?_
    refine (updF_n (by omega)).trans ?_
    by_cases c115 : a = 115
    · subst c115; exact zP_s
    refine (zP_n c115).trans ?_
    refine (updF_n (by omega)).trans ?_
    by_cases c114 : a = 114
    · subst c114; exact zP_s
    refine (zP_n c114).trans ?_
    refine (updF_n (by omega)).trans ?_
    by_cases c113 : a = 113
    · subst c113; exact zP_s
    refine (zP_n c113).trans ?_
    refine (updF_n (by omega)).trans ?_
    by_cases c112 : a = 112
    · subst c112; exact zP_s
    refine (zP_n c112).trans ?_
    refine (updF_n (by omega)).trans ?_
    by_cases c111 : a = 111
    · subst c111; exact zP_s
    refine (zP_n c111).trans ?_
    refine (updF_n (by omega)).trans ?_
    by_cases c110 : a = 110
    · subst c110; exact zP_s
    refine (zP_n c110).trans ?_
    refine (updF_n (by omega)).trans ?_
    by_cases c109 : a = 109
    · subst c109; exact zP_s
    refine (zP_n c109).trans ?_
    refine (updF_n (by omega)).trans ?_
    by_cases c108 : a = 108
    · subst c108; exact zP_s
    refine (zP_n c108).trans ?_
    refine (updF_n (by omega)).trans ?_
    by_cases c107 : a = 107
    · subst c107; exact zP_s
    refine (zP_n c107).trans ?_
    refine (updF_n (by omega)).trans ?_
    by_cases c106 : a = 106
    · subst c106; exact zP_s
    refine (zP_n c106).trans ?_
    refine (updF_n (by omega)).trans ?_
    by_cases c105 : a = 105
    · subst c105; exact zP_s
    refine (zP_n c105).trans ?_
    refine (updF_n (by omega)).trans ?_
    by_cases c104 : a = 104
    · subst c104; exact zP_s
    refine (zP_n c104).trans ?_
    refine (updF_n (by omega)).trans ?_
    by_cases c103 : a = 103
    · subst c103; exact zP_s
    refine (zP_n c103).trans ?_
    refine (updF_n (by omega)).trans ?_
    by_cases c102 : a = 102
    · subst c102; exact zP_s
    refine (zP_n c102).trans ?_
    refine (updF_n (by omega)).trans ?_
    by_cases c101 : a = 101
    · subst c101; exact zP_s
    refine (zP_n c101).trans ?_
    refine (updF_n (by omega)).trans ?_
    by_cases c100 : a = 100
    · subst c100; exact zP_s
    refine (zP_n c100).trans ?_
    refine (updF_n (by omega)).trans ?_
    by_cases c99 : a = 99
    · subst c99; exact zP_s
    refine (zP_n c99).trans ?_
    refine (updF_n (by omega)).trans ?_
    by_cases c98 : a = 98
    · subst c98; exact zP_s
    refine (zP_n c98).trans ?_
    omega
  · rw [updF_s, zP_n (show 97 ≠ 116 by decide), updF_s, zP_n (show 97 ≠ 115 by decide), updF_s, zP_n (show 97 ≠ 114 by decide), updF_s, zP_n (show 97 ≠ 113 by decide), updF_s, zP_n (show 97 ≠ 112 by decide), updF_s, zP_n (show 97 ≠ 111 by decide), updF_s, zP_n (show 97 ≠ 110 by decide), updF_s, zP_n (show 97 ≠ 109 by decide), updF_s, zP_n (show 97 ≠ 108 by decide), updF_s, zP_n (show 97 ≠ 107 by decide), updF_s, zP_n (show 97 ≠ 106 by decide), updF_s, zP_n (show 97 ≠ 105 by decide), updF_s, zP_n (show 97 ≠ 104 by decide), updF_s, zP_n (show 97 ≠ 103 by decide), updF_s, zP_n (show 97 ≠ 102 by decide), updF_s, zP_n (show 97 ≠ 101 by decide), updF_s, zP_n (show 97 ≠ 100 by decide), updF_s, zP_n (show 97 ≠ 99 by decide), updF_s, zP_n (show 97 ≠ 98 by decide)]
section HL
variable {N nx : Nat} {D : Dt} {P : Ft} {g : Gs}
theorem H_lay0 (h : CR D P g) (ho : (gT g).1 ≤ 200 ∧ ∀ i, i < (gT g).1 → 32 ≤ (gT g).2 i ∧ (gT g).2 i ≤ 126) (hn : 97 ≤ nx) (hN : 500 ≤ N) : OkP (fun z => z.1 = (oLay g).1 ∧ CR z.2 P (oLay g).2 ∧ Hi D z.2) (f_H_lay N nx D P 0) := by
  have hA := ShA.of46 (nx := nx) h.1 hn
  have hA2 := ShA.of20 (nx := nx) h.1 hn
  have hsa := StA.of (nx := nx) (a := 14) h.1 hn (by decide)
  have hfa := FaA.of4 (nx := nx) h.1 hn
  have hfb := FaA.of9 (nx := nx) h.1 hn
  obtain ⟨hP, ht, hf, hs, hp, hk, hnr⟩ := id h
  unfold f_H_lay oLay
  refine ok_t (kd_at (by omega) rfl) (ok_nn (hP.at (by decide) (show P0 0 0 = some 1 from rfl)) (ok_nn (hP.at (by decide) (show P0 0 2 = some 9 from rfl)) (ok_t (kd_at (by omega) rfl) (ok_bind (readInto_ok hP hn (⟨ht.1, ho.1, fun i hi => ⟨ht.2 i hi, ho.2 i hi⟩⟩ : TX D (gT g).1 (gT g).2) hN) ?_))))
  rintro ⟨z, E⟩ ⟨hfr, hz⟩
  have hfr : FrD D E := hfr
  cases e : rdAll (gT g).1 (gT g).2 200 0 dr0 with
  | mk r d =>
    rw [e] at hz
    cases r with
    | some p =>
      have hz : z = nI p ∧ p < (gT g).1 := hz
      have := ho.1
      have hne : ¬ z = -4 := by
        rw [hz.1]
        intro e4
        have h1 : nI 0 ≤ nI p := by rw [nI_le' (by decide) (by omega)]; exact Nat.zero_le _
        rw [e4] at h1
        exact absurd h1 (by decide)
      rw [if_neg (fun c => by cases c.1)]
      exact ok_f hne (ok_some ⟨rfl, hfr.cr h, hfr.hi⟩)
    | none =>
      obtain ⟨z4, hdr, hd⟩ : z = -4 ∧ DR E 9 d ∧ DOK d := hz
      have hn5 := hd.1
      refine ok_t z4 (ok_t hfb.1 ?_)
      show OkP _ (if 1 ≤ E 9 4 then _ else _)
      rw [hdr.1.1]
      by_cases q : 1 ≤ fN d.1
      · rw [if_pos ⟨rfl, q⟩]
        refine ok_t (by rw [lit 1, nI_le' (by decide) (by omega)]; exact q) (ok_nn (hP.at (by decide) (show P0 0 1 = some 4 from rfl)) (ok_t hfa.1 (ok_bind (famCopy_ok hP hn hdr hd (by omega)) (fun F hF => ?_))))
        have hF : DR F 4 d ∧ Fr5 E F := hF
        refine ok_nn (hP.at (by decide) (show P0 0 3 = some 14 from rfl)) (ok_t hsa.1 (ok_bind (begin_ok hsa hfa hF.1.1 (hd.fam q) (by decide) hF.1.2 (by omega)) (fun G hG => ?_)))
        have e1 : ∀ q, ¬ (q = 1 ∨ q = 3 ∨ (4 ≤ q ∧ q ≤ 16)) → G q = D q := fun q hq => by
          rw [hG.2 q (by omega) (by omega) (by omega), hF.2 q (by omega), hfr.1 q (by omega) (by omega) (by omega)]
        obtain ⟨G1, a1, a2, a3⟩ := S_clear (N := N) (D := G) hA2 (hp.nn (fun q a b => e1 q (by omega)))
        obtain ⟨G2, b1, b2, b3⟩ := S_clear (N := N) (D := G1) hA (hk.nn (fun q a b => (a2 q (by omega)).trans (e1 q (by omega))))
        obtain ⟨G3, c1, c2, c3, c4⟩ := N_clear (nx := nx) (N := N) (P := P) (D := G2) hn
        have e3 : ∀ q, q ≠ 20 → q ≠ 46 → q ≠ 54 → G3 q = G q := fun q a b c => by rw [c2 q c, b2 q b, a2 q a]
        refine ok_nn (hP.at (by decide) (show P0 0 5 = some 20 from rfl)) (ok_t hA2.1 (ok_call a1 (ok_nn (hP.at (by decide) (show P0 0 6 = some 46 from rfl)) (ok_t hA.1 (ok_call b1 (ok_nn (hP.at (by decide) (show P0 0 7 = some 54 from rfl)) (ok_t (kd_at (by omega) rfl) (ok_call c1 (ok_some ⟨?_, ⟨hP, ?_, ?_, ?_, ?_, ?_, ?_⟩, ?_⟩)))))))))
        · show G3 4 4 = _
          rw [e3 4 (by decide) (by decide) (by decide), hG.2 4 (by decide) (by decide) (by decide)]; exact hF.1.1.1
        · refine ⟨?_, ?_⟩
          · show G3 1 2 = _
            rw [e3 1 (by decide) (by decide) (by decide), hG.2 1 (by decide) (by decide) (by decide), hF.2 1 (by decide), hfr.2 2 (by decide)]; exact ht.1
          · show ∀ i, i < (gT g).1 → G3 2 i = _
            rw [e3 2 (by decide) (by decide) (by decide), e1 2 (by decide)]; exact ht.2
        · exact hF.1.1.nn ((e3 4 (by decide) (by decide) (by decide)).trans (hG.2 4 (by decide) (by decide) (by decide))) ((e3 5 (by decide) (by decide) (by decide)).trans (hG.2 5 (by decide) (by decide) (by decide))) ((e3 6 (by decide) (by decide) (by decide)).trans (hG.2 6 (by decide) (by decide) (by decide))) ((e3 7 (by decide) (by decide) (by decide)).trans (hG.2 7 (by decide) (by decide) (by decide)))
        · exact hG.1.at1 (e3 14 (by decide) (by decide) (by decide)) (e3 15 (by decide) (by decide) (by decide)) (e3 16 (by decide) (by decide) (by decide))
        · exact a3.nn (fun q h1 h2 => (c2 q (by omega)).trans (b2 q (by omega)))
        · exact b3.nn (fun q h1 h2 => c2 q (by omega))
        · exact ⟨c3, c4, fun i hi => absurd hi (Nat.not_lt_zero i), fun i hi => absurd hi (Nat.not_lt_zero i)⟩
        · intro q hq
          show G3 q = D q
          rw [e3 q (by omega) (by omega) (by omega), e1 q (by omega)]
      · rw [if_neg (fun c => q c.2)]
        exact ok_f (by rw [lit 1, nI_le' (by decide) (by omega)]; exact q) (ok_some ⟨rfl, hfr.cr h, hfr.hi⟩)
end HL
