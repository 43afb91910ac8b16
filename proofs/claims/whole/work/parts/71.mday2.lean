/-! the reference: a day goes by, whole -/
section MK
variable {N nx q : Nat} {D : Dt} {P : Ft} {f : Fam} {s : St}
theorem rmix {r : Nat → Int32} {s' : St} {t : Nat} (h : RStd r 0 (setP (setZ (mixS t s s') t (sZ s' t)) t (sP s' t))) : RStd r 0 (mixS (t + 1) s s') := by
  refine h.cong (fun j hj => ⟨?_, ?_⟩) rfl rfl
  · show mp (if j < t + 1 then sP s' j else sP s j) = mp (if j = t then sP s' t else if j < t then sP s' j else sP s j)
    by_cases c : j = t
    · rw [if_pos c, if_pos (by omega), c]
    · rw [if_neg c]
      by_cases d : j < t
      · rw [if_pos d, if_pos (by omega)]
      · rw [if_neg d, if_neg (by omega)]
  · show (if j < t + 1 then sZ s' j else sZ s j) = (if j = t then sZ s' t else if j < t then sZ s' j else sZ s j)
    by_cases c : j = t
    · rw [if_pos c, if_pos (by omega), c]
    · rw [if_neg c]
      by_cases d : j < t
      · rw [if_pos d, if_pos (by omega)]
      · rw [if_neg d, if_neg (by omega)]
theorem rsame {r : Nat → Int32} {s' : St} {t : Nat} (h : RStd r 0 (mixS t s s')) (h1 : sP s' t = sP s t) (h2 : sZ s' t = sZ s t) : RStd r 0 (mixS (t + 1) s s') := by
  refine h.cong (fun j hj => ⟨?_, ?_⟩) rfl rfl
  · show mp (if j < t + 1 then sP s' j else sP s j) = mp (if j < t then sP s' j else sP s j)
    by_cases c : j = t
    · rw [c, if_pos (by omega), if_neg (by omega), h1]
    · by_cases d : j < t
      · rw [if_pos d, if_pos (by omega)]
      · rw [if_neg d, if_neg (by omega)]
  · show (if j < t + 1 then sZ s' j else sZ s j) = (if j < t then sZ s' j else sZ s j)
    by_cases c : j = t
    · rw [c, if_pos (by omega), if_neg (by omega), h2]
    · by_cases d : j < t
      · rw [if_pos d, if_pos (by omega)]
      · rw [if_neg d, if_neg (by omega)]
theorem pass165_ok (hP : PB P) (hn : 117 ≤ nx) (hm : MF D f) (hf : FamOK f) (hq : kd nx q = 30018) (hq2 : 104 < q) {s2 : St} {w : Nat} (hv2 : StOK f s2) (hs : RStd (D q) 0 s2) (hw : w ≤ fD f) (hN : 100 ≤ N) : OkP (fun E => RStd (E q) 0 (if out f (sD s2 + 1) = true then (fun t => if sP s2 t = 5 then 6 else sP s2 t, sZ s2, 0, sD s2 + 1) else (sP s2, sZ s2, w, sD s2 + 1)) ∧ FrO q D E) (f_M_passOn_165 N nx D P 97 q q 1 (nI w)) := by
  have ab1 : ab nx q 3 1 = true := ab_ok (t := 3) (N := 18) hq (n := 1) (by decide) (by decide)
  have ab0 : ab nx q 3 0 = true := ab_ok (t := 3) (N := 18) hq (n := 0) (by decide) (by decide)
  have hQ1 := hf.2.2.2.2.2.2.1
  have hQ2 := hf.2.2.2.2.2.2.2.1
  unfold f_M_passOn_165
  refine ok_t ab1 (ok_pas (ok_t ab0 (ok_t ab0 (ok_pas (ok_t ab0 (ok_nn (hP.at (by decide) (show P0 97 4 = some 101 from rfl)) (ok_t (ab_ok (t := 3) (N := 6) (kd_at (by omega) rfl) (n := 2) (by decide) (by decide)) ?_)))))))
  show OkP _ (if upd2 (upd2 D q 1 (nI w)) q 0 (upd2 D q 1 (nI w) q 0 + 1) 101 2 = 0 then none else if upd2 (upd2 D q 1 (nI w)) q 0 (upd2 D q 1 (nI w) q 0 + 1) q 0 - upd2 (upd2 D q 1 (nI w)) q 0 (upd2 D q 1 (nI w) q 0 + 1) q 0 / upd2 (upd2 D q 1 (nI w)) q 0 (upd2 D q 1 (nI w) q 0 + 1) 101 2 * upd2 (upd2 D q 1 (nI w)) q 0 (upd2 D q 1 (nI w) q 0 + 1) 101 2 = 0 then wk2 N (f_M_passOn_189 N nx P 97 q) (upd2 (upd2 D q 1 (nI w)) q 0 (upd2 D q 1 (nI w) q 0 + 1)) 0 else some (upd2 (upd2 D q 1 (nI w)) q 0 (upd2 D q 1 (nI w) q 0 + 1)))
  have e0 : upd2 D q 1 (nI w) q 0 = sD s2 := by rw [upd2_s, upd_n (by decide)]; exact hs.day
  rw [e0]
  have e1 : upd2 (upd2 D q 1 (nI w)) q 0 (sD s2 + 1) 101 2 = nI (fQ f) := by
    rw [upd2_n (show 101 ≠ q by omega), upd2_n (show 101 ≠ q by omega)]; exact hm.2.2.2.2.1
  have e2 : upd2 (upd2 D q 1 (nI w)) q 0 (sD s2 + 1) q 0 = sD s2 + 1 := by rw [upd2_s, upd_s]
  rw [e1, e2]
  have hfr : FrO q D (upd2 (upd2 D q 1 (nI w)) q 0 (sD s2 + 1)) := FrO.up.tr FrO.up
  have hr : RStd (upd2 (upd2 D q 1 (nI w)) q 0 (sD s2 + 1) q) 0 (sP s2, sZ s2, w, sD s2 + 1) := by
    rw [upd2_s, upd2_s]
    exact (hs.putW (w := w)).putD (d := sD s2 + 1)
  refine ok_f (by rw [lit 0, nI_inj (by omega) (by decide)]; omega) (ok_ite (fun c => ?_) (fun c => ?_))
  · rw [if_pos (show out f (sD s2 + 1) = true from decide_eq_true c)]
    refine ok_imp (pass189_ok (s := (sP s2, sZ s2, w, sD s2 + 1)) hP hn (hm.fo hfr hq2) hf ⟨hv2.1, hv2.2.1, hw⟩ hq hq2 hr hN) (fun E hE => ⟨hE.1, hfr.tr hE.2⟩)
  · rw [if_neg (show ¬ out f (sD s2 + 1) = true from fun d => c (of_decide_eq_true d))]
    exact ok_some ⟨hr, hfr⟩
end MK
