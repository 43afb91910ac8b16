/-! the reference: a day goes by -/
theorem st18_p {s : St} {t : Nat} (ht : t < 8) : st18 s (2 + t) = nI (mp (sP s t)) := by
  unfold st18
  rw [if_neg (by omega), if_neg (by omega), if_pos (by omega), show 2 + t - 2 = t by omega]
theorem st18_z {s : St} {t : Nat} : st18 s (10 + t) = nI (sZ s t) := by
  unfold st18
  rw [if_neg (by omega), if_neg (by omega), if_neg (by omega), show 10 + t - 10 = t by omega]
theorem RStd.cong {r : Nat → Int32} {o : Nat} {s s' : St} (h : RStd r o s) (h1 : ∀ t, t < 8 → mp (sP s' t) = mp (sP s t) ∧ sZ s' t = sZ s t) (h2 : sW s' = sW s) (h3 : sD s' = sD s) : RStd r o s' := by
  intro j hj
  rw [h j hj]
  unfold st18
  rw [h2, h3]
  by_cases a : j = 0
  · rw [if_pos a, if_pos a]
  · rw [if_neg a, if_neg a]
    by_cases b : j = 1
    · rw [if_pos b, if_pos b]
    · rw [if_neg b, if_neg b]
      by_cases c : j < 10
      · rw [if_pos c, if_pos c, (h1 (j - 2) (by omega)).1]
      · rw [if_neg c, if_neg c, (h1 (j - 10) (by omega)).2]
theorem RStd.putZ {r : Nat → Int32} {s : St} (h : RStd r 0 s) {t z : Nat} : RStd (upd r (10 + t) (nI z)) 0 (setZ s t z) := by
  intro j hj
  have hh := h j hj
  rw [Nat.zero_add] at hh ⊢
  by_cases c : j = 10 + t
  · rw [c, upd_s, st18_z]
    show _ = nI (if t = t then z else sZ s t)
    rw [if_pos rfl]
  · rw [upd_n c, hh]
    unfold st18
    by_cases a : j = 0
    · rw [if_pos a, if_pos a]; rfl
    · rw [if_neg a, if_neg a]
      by_cases b : j = 1
      · rw [if_pos b, if_pos b]; rfl
      · rw [if_neg b, if_neg b]
        by_cases d : j < 10
        · rw [if_pos d, if_pos d]; rfl
        · rw [if_neg d, if_neg d]
          show _ = nI (if j - 10 = t then z else sZ s (j - 10))
          rw [if_neg (by omega)]
theorem RStd.putP {r : Nat → Int32} {s : St} (h : RStd r 0 s) {t p : Nat} (ht : t < 8) : RStd (upd r (2 + t) (nI (mp p))) 0 (setP s t p) := by
  intro j hj
  have hh := h j hj
  rw [Nat.zero_add] at hh ⊢
  by_cases c : j = 2 + t
  · rw [c, upd_s, st18_p ht]
    show _ = nI (mp (if t = t then p else sP s t))
    rw [if_pos rfl]
  · rw [upd_n c, hh]
    unfold st18
    by_cases a : j = 0
    · rw [if_pos a, if_pos a]; rfl
    · rw [if_neg a, if_neg a]
      by_cases b : j = 1
      · rw [if_pos b, if_pos b]; rfl
      · rw [if_neg b, if_neg b]
        by_cases d : j < 10
        · rw [if_pos d, if_pos d]
          show _ = nI (mp (if j - 2 = t then p else sP s (j - 2)))
          rw [if_neg (by omega)]
        · rw [if_neg d, if_neg d]; rfl
theorem RStd.putW {r : Nat → Int32} {s : St} (h : RStd r 0 s) {w : Nat} : RStd (upd r 1 (nI w)) 0 (sP s, sZ s, w, sD s) := by
  intro j hj
  have hh := h j hj
  rw [Nat.zero_add] at hh ⊢
  by_cases c : j = 1
  · rw [c, upd_s]; rfl
  · rw [upd_n c, hh]
    unfold st18
    rw [if_neg c, if_neg c]
    rfl
theorem RStd.putD {r : Nat → Int32} {s : St} (h : RStd r 0 s) {d : Int32} : RStd (upd r 0 d) 0 (sP s, sZ s, sW s, d) := by
  intro j hj
  have hh := h j hj
  rw [Nat.zero_add] at hh ⊢
  by_cases c : j = 0
  · rw [c, upd_s]; rfl
  · rw [upd_n c, hh]
    unfold st18
    rw [if_neg c, if_neg c]
    rfl
/-- only one place has changed -/
def FrO (q : Nat) (D E : Dt) : Prop := ∀ x, x ≠ q → E x = D x
theorem FrO.tr {q : Nat} {D E F : Dt} (h : FrO q D E) (k : FrO q E F) : FrO q D F := fun x a => (k x a).trans (h x a)
theorem FrO.up {q k : Nat} {D : Dt} {x : Int32} : FrO q D (upd2 D q k x) := fun _ a => upd2_n a
theorem MF.fo {q : Nat} {D E : Dt} {f : Fam} (h : MF D f) (k : FrO q D E) (hq : 104 < q) : MF E f := h.nn (fun x a b => k x (by omega))
section MJ
variable {N nx q : Nat} {D : Dt} {P : Ft} {f : Fam} {s : St}
theorem pass94_ok {Q : Dt → Prop} {rec : Dt → Int32 → Option Dt} {z t : Nat} {i2 : Int32} (hq : kd nx q = 30018) (ht : t < 8) (hz : z < 1000) (hp : sP s t < 6) (hs : RStd (D q) 0 s) (hrec : ∀ E, RStd (E q) 0 (setP (setZ s t z) t (if z = 0 then 7 else sP s t)) → FrO q D E → OkP Q (rec E (nI (t + 1)))) : OkP Q (f_M_passOn_94 N nx rec D P 97 q i2 (nI t) (nI z) q (nI (10 + t)) (nI z)) := by
  have hmp : mp (sP s t) = sP s t := if_pos (by omega)
  unfold f_M_passOn_94
  rw [ix2, nI_1]
  refine ok_t (ab_ok (t := 3) (N := 18) hq (by omega) (by decide)) (ok_pas ?_)
  rw [cl (by omega), cl (by omega)]
  have h1 : RStd (upd2 D q (10 + t) (nI z) q) 0 (setZ s t z) := by rw [upd2_s]; exact hs.putZ
  have ab2 : ab nx q 3 (nI (2 + t)) = true := ab_ok (t := 3) (N := 18) hq (by omega) (by decide)
  by_cases c : z = 0
  · refine ok_f (by rw [lit 0, nI_lt' (by decide) (by omega)]; omega) (ok_t ab2 (ok_pas (hrec _ ?_ (FrO.up.tr FrO.up))))
    rw [if_pos c, upd2_s]
    exact h1.putP (p := 7) ht
  · refine ok_t (by rw [lit 0, nI_lt' (by decide) (by omega)]; omega) (ok_t ab2 (ok_t ab2 (ok_pas (hrec _ ?_ (FrO.up.tr FrO.up)))))
    have e : upd2 D q (10 + t) (nI z) q (2 + t) = nI (mp (sP s t)) := by
      rw [upd2_s, upd_n (by omega)]; exact hs.pl ht
    rw [if_neg c, e, upd2_s]
    exact h1.putP (p := sP s t) ht
theorem pass189_ok (hP : PB P) (hn : 117 ≤ nx) (hm : MF D f) (hf : FamOK f) (hv : StOK f s) (hq : kd nx q = 30018) (hq2 : 104 < q) (hs : RStd (D q) 0 s) (hN : 100 ≤ N) : OkP (fun E => RStd (E q) 0 (fun t => if sP s t = 5 then 6 else sP s t, sZ s, 0, sD s) ∧ FrO q D E) (wk2 N (f_M_passOn_189 N nx P 97 q) D 0) := by
  have hk := hf.2.2.1
  refine wk2_run (I := fun t E i => i = nI t ∧ FrO q D E ∧ RStd (E q) 0 (fun j => if j < t ∧ sP s j = 5 then 6 else sP s j, sZ s, sW s, sD s)) (fK f) N _ _ (by omega) ⟨rfl, fun x _ => rfl, hs.cong (fun t ht => ⟨by show mp (if t < 0 ∧ sP s t = 5 then 6 else sP s t) = _; rw [if_neg (by omega)], rfl⟩) rfl rfl⟩ ?_ ?_
  · rintro t ht E i ⟨rfl, hfr, hE⟩ rec hrec
    obtain ⟨m1, m2, m3⟩ := many_M hP hn (hm.fo hfr hq2)
    have ab2 : ab nx q 3 (nI (2 + t)) = true := ab_ok (t := 3) (N := 18) hq (by omega) (by decide)
    have hmp := (mp_eq hf hv ht)
    have epl : E q (2 + t) = nI (sP s t) := by
      rw [hE.pl (by omega)]
      show nI (mp (if t < t ∧ sP s t = 5 then 6 else sP s t)) = _
      rw [if_neg (by omega), hmp.1]
    unfold f_M_passOn_189
    rw [ix2, nI_1]
    refine ok_nn m1 (ok_t m2 ?_)
    rw [m3]
    refine ok_f (i2_lt ht (by omega)) (ok_t ab2 ?_)
    rw [cl (by omega), epl]
    refine ok_ite (fun c => ok_t ab2 (ok_pas (hrec _ _ ⟨rfl, hfr.tr FrO.up, ?_⟩))) (fun c => ok_t ab2 (ok_t ab2 (ok_pas (hrec _ _ ⟨rfl, hfr.tr FrO.up, ?_⟩))))
    · have c := (nI_inj (b := 5) (by omega) (by decide)).mp c
      rw [upd2_s]
      refine (hE.putP (p := 6) (by omega : t < 8)).cong (fun j hj => ⟨?_, rfl⟩) rfl rfl
      show mp (if j < t + 1 ∧ sP s j = 5 then 6 else sP s j) = mp (if j = t then 6 else if j < t ∧ sP s j = 5 then 6 else sP s j)
      by_cases d : j = t
      · rw [if_pos d, if_pos ⟨by omega, by rw [d]; exact c⟩]
      · rw [if_neg d]
        by_cases w : j < t ∧ sP s j = 5
        · rw [if_pos w, if_pos ⟨by omega, w.2⟩]
        · rw [if_neg w, if_neg (fun v => w ⟨by omega, v.2⟩)]
    · have c : ¬ sP s t = 5 := fun d => c (by rw [d]; rfl)
      rw [upd2_s]
      have := hE.putP (p := sP s t) (by omega : t < 8)
      rw [hmp.1] at this
      refine this.cong (fun j hj => ⟨?_, rfl⟩) rfl rfl
      show mp (if j < t + 1 ∧ sP s j = 5 then 6 else sP s j) = mp (if j = t then sP s t else if j < t ∧ sP s j = 5 then 6 else sP s j)
      by_cases d : j = t
      · rw [if_pos d, if_neg (fun v => c (by rw [← d]; exact v.2)), d]
      · rw [if_neg d]
        by_cases w : j < t ∧ sP s j = 5
        · rw [if_pos w, if_pos ⟨by omega, w.2⟩]
        · rw [if_neg w, if_neg (fun v => w ⟨by omega, v.2⟩)]
  · rintro E i ⟨rfl, hfr, hE⟩ rec
    obtain ⟨m1, m2, m3⟩ := many_M hP hn (hm.fo hfr hq2)
    unfold f_M_passOn_189
    refine ok_nn m1 (ok_t m2 ?_)
    rw [m3]
    refine ok_t (i2_ge (Nat.le_refl _) (by omega)) (ok_t (ab_ok (t := 3) (N := 18) hq (n := 1) (by decide) (by decide)) (ok_pas (ok_some ⟨?_, hfr.tr FrO.up⟩)))
    rw [upd2_s]
    refine (hE.putW (w := 0)).cong (fun j hj => ⟨?_, rfl⟩) rfl rfl
    show mp (if sP s j = 5 then 6 else sP s j) = mp (if j < fK f ∧ sP s j = 5 then 6 else sP s j)
    by_cases c : sP s j = 5
    · have : j < fK f := by
        rcases Nat.lt_or_ge j (fK f) with w | w
        · exact w
        · have := (hv.2.1 j w).1; omega
      rw [if_pos c, if_pos ⟨this, c⟩]
    · rw [if_neg c, if_neg (fun v => c v.2)]
end MJ
