/-! days -/
def gz (f : Fam) (s : St) (t : Nat) : Nat := if full f s = true ∧ sP s t = 5 then (if gr (fS f t) (sZ s t) (ev (sD s)) + 1 < 40 then gr (fS f t) (sZ s t) (ev (sD s)) + 1 else 40) else gr (fS f t) (sZ s t) (ev (sD s))
def dayP (f : Fam) (s : St) (t : Nat) : Nat := if sP s t < 6 then (if gz f s t = 0 then 7 else sP s t) else sP s t
def dayZ (f : Fam) (s : St) (t : Nat) : Nat := if sP s t < 6 then gz f s t else sZ s t
def dayW (f : Fam) (s : St) : Nat := if full f s = true then (if sW s + 1 < fD f then sW s + 1 else fD f) else sW s - 1
def out (f : Fam) (d : Int32) : Bool := decide (d - d / nI (fQ f) * nI (fQ f) = 0)
def day (f : Fam) (s : St) : St := if out f (sD s + 1) = true then (fun t => if dayP f s t = 5 then 6 else dayP f s t, dayZ f s, 0, sD s + 1) else (dayP f s, dayZ f s, dayW f s, sD s + 1)
def days (f : Fam) : Nat → St → St
  | 0, s => s
  | n + 1, s => days f n (day f s)
theorem days_succ {f : Fam} : ∀ (n : Nat) (s : St), days f (n + 1) s = day f (days f n s)
  | 0, _ => rfl
  | n + 1, s => days_succ n (day f s)
theorem gz_le {f : Fam} {s : St} (hv : StOK f s) (t : Nat) : gz f s t ≤ 40 := by
  have := gr_le (k := fS f t) (e := ev (sD s)) (hv.z40 t)
  unfold gz
  split
  · split <;> omega
  · exact this
theorem day_P {f : Fam} {s : St} (t : Nat) : sP (day f s) t = if out f (sD s + 1) = true then (if dayP f s t = 5 then 6 else dayP f s t) else dayP f s t := by
  unfold day; split <;> rfl
theorem day_Z {f : Fam} {s : St} (t : Nat) : sZ (day f s) t = dayZ f s t := by
  unfold day; split <;> rfl
theorem day_W {f : Fam} {s : St} : sW (day f s) = if out f (sD s + 1) = true then 0 else dayW f s := by
  unfold day; split <;> rfl
theorem day_D {f : Fam} {s : St} : sD (day f s) = sD s + 1 := by
  unfold day; split <;> rfl
theorem day_ok {f : Fam} {s : St} (hf : FamOK f) (hv : StOK f s) : StOK f (day f s) := by
  refine ⟨fun t ht => ?_, fun t ht => ?_, ?_⟩
  · obtain ⟨h1, h2, h3⟩ := hv.1 t ht
    have h4 := gz_le hv t
    have h5 := hf.2.1
    rw [day_P, day_Z]
    unfold dayP dayZ
    by_cases q : sP s t < 6
    · rw [if_pos q, if_pos q]
      by_cases w : gz f s t = 0
      · rw [if_pos w]
        split <;> (try split) <;> omega
      · rw [if_neg w]
        split <;> (try split) <;> omega
    · rw [if_neg q, if_neg q]
      split <;> (try split) <;> omega
  · obtain ⟨h1, h2⟩ := hv.2.1 t ht
    rw [day_P, day_Z]
    unfold dayP dayZ
    rw [h1, h2]
    simp
  · have h := hv.2.2
    rw [day_W]
    unfold dayW
    split
    · omega
    · split
      · split <;> omega
      · omega
theorem days_ok {f : Fam} (hf : FamOK f) : ∀ (n : Nat) {s : St}, StOK f s → StOK f (days f n s)
  | 0, _, h => h
  | n + 1, _, h => days_ok hf n (day_ok hf h)
theorem min40 (x : Nat) : (if x + 1 < 40 then x + 1 else 40) ≤ 40 := by split <;> omega
section SDy
variable {N nx a : Nat} {D : Dt} {P : Ft} {f : Fam} {s : St}
theorem cp46_ok (hs : StA nx P a) {s0 : St} (hc : CS D a s0) (t v : Nat) (ht : t < 8) (hv : v ≤ 40) : OkP (fun D' => CS D' a (setP (setZ s0 t v) t (if v = 0 then 7 else sP s0 t)) ∧ Fr3 D D' a) (f_C_changePin_46 N nx D P a (nI t) (nI v)) := by
  obtain ⟨k1, k2, k3, p0, p1, p2⟩ := hs
  have h0 : (0 : Int32) < nI v ↔ 0 < v := by rw [lit 0, nI_lt' (by decide) (by omega)]
  unfold f_C_changePin_46
  refine ok_nn p1 (ok_t (ab_ok k2 ht (by decide)) (ok_pas ?_))
  rw [cl (by omega)]
  have e : (if 0 < nI v then nI v else 0) = nI v := by
    by_cases q : 0 < v
    · rw [if_pos (h0.mpr q)]
    · rw [if_neg (fun z => q (h0.mp z)), show v = 0 by omega]; rfl
  rw [e]
  refine ok_ite (fun h => ok_some ?_) (fun h => ok_nn p2 (ok_t (ab_ok k3 ht (by decide)) (ok_pas (ok_some ?_))))
  · have hv0 := h0.mp h
    rw [if_neg (by omega)]
    exact ⟨setP_same rfl hc.putZ, Fr3.u1⟩
  · have hv0 : v = 0 := by
      have := Nat.not_lt.mp (fun z => h (h0.mpr z))
      omega
    rw [if_pos hv0]
    exact ⟨(hc.putZ (z := v)).putP (q := 7), Fr3.u1.tr Fr3.u2⟩
theorem changePin_ok (hs : StA nx P a) (hfa : FaA nx P 4) (hcf : CF D 4 f) (hf : FamOK f) {s0 : St} (hc : CS D a s0) (t : Nat) (ht : t < fK f) (hz : 1 ≤ sZ s0 t ∧ sZ s0 t ≤ 40) (b : Bool) :
    OkP (fun D' => CS D' a (setP (setZ s0 t (if b = true then (if gr (fS f t) (sZ s0 t) (ev (sD s0)) + 1 < 40 then gr (fS f t) (sZ s0 t) (ev (sD s0)) + 1 else 40) else gr (fS f t) (sZ s0 t) (ev (sD s0)))) t (if (if b = true then (if gr (fS f t) (sZ s0 t) (ev (sD s0)) + 1 < 40 then gr (fS f t) (sZ s0 t) (ev (sD s0)) + 1 else 40) else gr (fS f t) (sZ s0 t) (ev (sD s0))) = 0 then 7 else sP s0 t)) ∧ Fr3 D D' a) (f_C_changePin N nx D P a (nI t) (if b = true then 1 else 0)) := by
  have h8 : t < 8 := by have := hf.2.2.1; omega
  have hk3 := (hf.2.2.2.2.2.2.2.2.2 t ht).2
  have hg := gr_le (k := fS f t) (e := ev (sD s0)) hz.2
  unfold f_C_changePin
  refine ok_t hs.1 (ok_f (nI_nneg (by omega)) (ok_t (by rw [lit 8, nI_lt' (by omega) (by decide)]; exact h8) (ok_nn hs.2.2.2.1 (ok_t hfa.1 (ok_call (kindOf_eq hfa hcf hf t ht) (ok_nn hs.2.2.2.2.1 (ok_t (ab_ok hs.2.1 h8 (by decide)) ?_)))))))
  rw [cl (by omega), (hc.2.2 t h8).1, hc.2.1]
  refine ok_call (lbd_eq hk3 hz) ?_
  cases b with
  | false =>
    refine ok_t rfl ?_
    exact cp46_ok hs hc t _ h8 hg
  | true =>
    refine ok_f (by decide) ?_
    have e : (if nI (gr (fS f t) (sZ s0 t) (ev (sD s0))) + 1 < 40 then nI (gr (fS f t) (sZ s0 t) (ev (sD s0))) + 1 else 40) = nI (if gr (fS f t) (sZ s0 t) (ev (sD s0)) + 1 < 40 then gr (fS f t) (sZ s0 t) (ev (sD s0)) + 1 else 40) := by
      rw [nI_1]
      by_cases q : gr (fS f t) (sZ s0 t) (ev (sD s0)) + 1 < 40
      · rw [if_pos q, if_pos (by rw [lit 40, nI_lt' (by omega) (by decide)]; exact q)]
      · rw [if_neg q, if_neg (by rw [lit 40, nI_lt' (by omega) (by decide)]; exact q)]; rfl
    rw [e]
    exact cp46_ok hs hc t _ h8 (min40 _)
theorem shakeOut_ok (hs : StA nx P a) (hc : CS D a s) (hp : ∀ t, sP s t ≤ 8) (hN : 100 ≤ N) : OkP (fun D' => CS D' a (fun t => if sP s t = 5 then 6 else sP s t, sZ s, 0, sD s) ∧ Fr3 D D' a) (f_C_shakeOut N nx D P a) := by
  obtain ⟨k1, k2, k3, p0, p1, p2⟩ := hs
  unfold f_C_shakeOut
  refine ok_t k1 ?_
  refine wk2_run (I := fun t E i => CS E a (mixS t s (fun t => if sP s t = 5 then 6 else sP s t, sZ s, 0, sD s)) ∧ Fr3 D E a ∧ i = nI t) 8 N _ _ (by omega) ⟨mix0 hc, Fr3.rf, rfl⟩ ?_ ?_
  · rintro t ht E i ⟨hE, hfr, rfl⟩ rec hrec
    unfold f_C_shakeOut_2
    have hh := hE.2.2 t ht
    rw [mix_at.1, mix_at.2] at hh
    have hn := cw_lit (sP s t) (by have := hp t; omega) 5 (by decide)
    refine ok_f (le8 ht) (ok_nn p2 (ok_t (ab_ok k3 ht (by decide)) ?_))
    rw [cl (by omega), hh.2]
    refine ok_ite (fun h => ?_) (fun h => ?_)
    · have h5 := hn.mp h
      refine ok_t (ab_ok k3 ht (by decide)) (ok_pas (hrec _ _ ⟨?_, hfr.tr Fr3.u2, nI_1 t⟩))
      have e : (-2 : Int32) = cw (if sP s t = 5 then 6 else sP s t) := by rw [if_pos h5]; rfl
      rw [e]
      refine mixPZ ((setZ_same ?_ hE).putP)
      exact mix_at.2
    · refine hrec _ _ ⟨mixN hE ?_ rfl, hfr, nI_1 t⟩
      exact if_neg (fun e => h (hn.mpr e))
  · rintro E i ⟨hE, hfr, rfl⟩ rec
    unfold f_C_shakeOut_2
    refine ok_t (by decide) (ok_pas (ok_some ⟨?_, hfr.tr Fr3.u0⟩))
    have h8 := mix8 hE
    refine ⟨?_, ?_, fun t ht => ?_⟩
    · rw [upd2_s]; exact upd_s
    · rw [upd2_s, upd_n (by decide)]; exact h8.2.1
    · rw [upd2_n (by omega), upd2_n (by omega)]; exact h8.2.2 t ht
/-- behind the pins: walked, the day's number, shaken out -/
theorem gd87_ok (hs : StA nx P a) (hfa : FaA nx P 4) (hcf : CF D 4 f) (hf : FamOK f) (ha : 9 ≤ a) {s0 : St} (hc : CS D a s0) (hp : ∀ t, sP s0 t ≤ 8) (w : Nat) (hN : 100 ≤ N) : OkP (fun D' => CS D' a (if out f (sD s0 + 1) = true then (fun t => if sP s0 t = 5 then 6 else sP s0 t, sZ s0, 0, sD s0 + 1) else (sP s0, sZ s0, w, sD s0 + 1)) ∧ Fr3 D D' a) (f_C_goDay_87 N nx D P a a (nI w)) := by
  have hq := hf.2.2.2.2.2.2.1
  have hq2 := hf.2.2.2.2.2.2.2.1
  unfold f_C_goDay_87
  refine ok_t hs.1 (ok_pas (ok_pas ?_))
  have hc1 : CS (upd2 (upd2 D a 3 (nI w)) a 4 (upd2 D a 3 (nI w) a 4 + 1)) a (sP s0, sZ s0, w, sD s0 + 1) := by
    refine ⟨?_, ?_, fun t ht => ?_⟩
    · rw [upd2_s, upd_n (by decide), upd2_s]; exact upd_s
    · rw [upd2_s, upd_s, upd2_s, upd_n (by decide), hc.2.1]; rfl
    · rw [upd2_n (by omega), upd2_n (by omega), upd2_n (by omega), upd2_n (by omega)]; exact hc.2.2 t ht
  have hfr : Fr3 D (upd2 (upd2 D a 3 (nI w)) a 4 (upd2 D a 3 (nI w) a 4 + 1)) a := Fr3.u0.tr Fr3.u0
  revert hc1 hfr
  generalize upd2 (upd2 D a 3 (nI w)) a 4 (upd2 D a 3 (nI w) a 4 + 1) = E
  intro hc1 hfr
  have hcf1 := hcf.fr hfr (by omega)
  refine ok_nn hs.2.2.2.1 (ok_t hfa.1 ?_)
  rw [hcf1.2.2.2.2.1, hc1.2.1]
  refine ok_f (by rw [lit 0, nI_le' (by omega) (by decide)]; omega) (ok_f (by rw [lit 0, nI_inj (by omega) (by decide)]; omega) ?_)
  refine ok_ite (fun h => ?_) (fun h => ok_some ⟨?_, hfr⟩)
  · have ho : out f (sD s0 + 1) = true := decide_eq_true h
    rw [if_pos ho]
    refine ok_bind (shakeOut_ok hs hc1 hp hN) (fun E2 hE2 => ok_some ⟨hE2.1, hfr.tr hE2.2⟩)
  · have ho : ¬ out f (sD s0 + 1) = true := fun e => h (of_decide_eq_true e)
    rw [if_neg ho]
    exact hc1
theorem goDay_ok (hs : StA nx P a) (hfa : FaA nx P 4) (hcf : CF D 4 f) (hc : CS D a s) (hf : FamOK f) (hv : StOK f s) (ha : 9 ≤ a) (hN : 100 ≤ N) : OkP (fun D' => CS D' a (day f s) ∧ Fr3 D D' a) (f_C_goDay N nx D P a) := by
  have hk8 := hf.2.2.1
  have hp := hv.p8 hf
  unfold f_C_goDay
  refine ok_t hs.1 (ok_call (isFull_eq hs hfa hcf hc hf hv hN) ?_)
  refine wk2_run (I := fun t E i => CS E a (mixS t s (dayP f s, dayZ f s, 0, 0)) ∧ Fr3 D E a ∧ i = nI t) 8 N _ _ (by omega) ⟨mix0 hc, Fr3.rf, rfl⟩ ?_ ?_
  · rintro t ht E i ⟨hE, hfr, rfl⟩ rec hrec
    have hcfE := hcf.fr hfr (by omega)
    have hh := hE.2.2 t ht
    rw [mix_at.1, mix_at.2] at hh
    have h1 := cw_lt1 (sP s t) (by have := hp t; omega)
    have h5 := cw_lit (sP s t) (by have := hp t; omega) 5 (by decide)
    unfold f_C_goDay_7
    refine ok_f (le8 ht) (ok_nn hs.2.2.2.2.2 (ok_t (ab_ok hs.2.2.1 ht (by decide)) ?_))
    rw [cl (by omega), hh.2]
    refine ok_ite (fun h => ?_) (fun h => ?_)
    · have h6 := h1.mp h
      exact hrec _ _ ⟨mixN hE (if_neg (by omega)) (if_neg (by omega)), hfr, nI_1 t⟩
    · have h6 : sP s t < 6 := by
        have := Nat.not_le.mp (fun e => h (h1.mpr e))
        omega
      have htk : t < fK f := by
        rcases Nat.lt_or_ge t (fK f) with q | q
        · exact q
        · have := (hv.2.1 t q).1; omega
      have hz := hv.1 t htk
      have key : ∀ b : Bool, (b = true ↔ (full f s = true ∧ sP s t = 5)) → OkP (fun D' => CS D' a (day f s) ∧ Fr3 D D' a) (f_C_goDay_44 N nx rec E P a (if full f s = true then 1 else 0) (nI t) a (nI t) (if b = true then 1 else 0)) := by
        intro b hb
        unfold f_C_goDay_44
        refine ok_t hs.1 (ok_bind (changePin_ok hs hfa hcfE hf hE t htk (by rw [mix_at.2]; exact ⟨hz.2.2 h6, hz.2.1⟩) b) (fun E2 hE2 => ?_))
        refine hrec _ _ ⟨mixPZ ?_, hfr.tr hE2.2, nI_1 t⟩
        have hx := hE2.1
        rw [mix_at.1, mix_at.2] at hx
        have e1 : (if b = true then (if gr (fS f t) (sZ s t) (ev (sD s)) + 1 < 40 then gr (fS f t) (sZ s t) (ev (sD s)) + 1 else 40) else gr (fS f t) (sZ s t) (ev (sD s))) = gz f s t := by
          unfold gz
          by_cases q : b = true
          · rw [if_pos q, if_pos (hb.mp q)]
          · rw [if_neg q, if_neg (fun z => q (hb.mpr z))]
        have e0 : sD (mixS t s (dayP f s, dayZ f s, 0, 0)) = sD s := rfl
        rw [e0, e1] at hx
        have e2 : sZ ((dayP f s, dayZ f s, 0, 0) : St) t = gz f s t := if_pos h6
        have e3 : sP ((dayP f s, dayZ f s, 0, 0) : St) t = if gz f s t = 0 then 7 else sP s t := if_pos h6
        rw [e2, e3]
        exact hx
      by_cases q : full f s = true
      · refine ok_f (by rw [if_pos q]; decide) (ok_t (ab_ok hs.2.2.1 ht (by decide)) ?_)
        refine ok_ite (fun h => ?_) (fun h => ?_)
        · exact key true ⟨fun _ => ⟨q, h5.mp h⟩, fun _ => rfl⟩
        · exact key false ⟨fun e => (by cases e), fun e => absurd (h5.mpr e.2) h⟩
      · refine ok_t (by rw [if_neg q]) ?_
        exact key false ⟨fun e => (by cases e), fun e => absurd e.1 q⟩
  · rintro E i ⟨hE, hfr, rfl⟩ rec
    have hcfE := hcf.fr hfr (by omega)
    have h8 := mix8 hE
    have hp2 : ∀ t, sP ((dayP f s, dayZ f s, sW s, sD s) : St) t ≤ 8 := by
      intro t
      show dayP f s t ≤ 8
      have := hp t
      unfold dayP; split
      · split <;> omega
      · exact this
    have hd := hf.2.2.2.2.2.1
    have hw := hv.2.2
    unfold f_C_goDay_7
    refine ok_t (by decide) ?_
    have h3 : E a 3 = nI (sW s) := h8.1
    by_cases q : full f s = true
    · refine ok_f (by rw [if_pos q]; decide) (ok_nn hs.2.2.2.1 (ok_t hfa.1 ?_))
      rw [h3, hcfE.2.2.2.1]
      have e : (if nI (sW s) + 1 < nI (fD f) then nI (sW s) + 1 else nI (fD f)) = nI (dayW f s) := by
        unfold dayW
        rw [if_pos q, nI_1]
        by_cases z : sW s + 1 < fD f
        · rw [if_pos z, if_pos (by rw [nI_lt' (by omega) (by omega)]; exact z)]
        · rw [if_neg z, if_neg (by rw [nI_lt' (by omega) (by omega)]; exact z)]
      rw [e]
      refine ok_imp (gd87_ok hs hfa hcfE hf ha h8 hp2 _ hN) (fun E2 hE2 => ⟨?_, hfr.tr hE2.2⟩)
      exact hE2.1
    · refine ok_t (by rw [if_neg q]) ?_
      rw [h3]
      have e : (if 0 < nI (sW s) - 1 then nI (sW s) - 1 else 0) = nI (dayW f s) := by
        unfold dayW
        rw [if_neg q]
        by_cases z : 1 ≤ sW s
        · have : nI (sW s) - 1 = nI (sW s - 1) := pk_sub (b := 1) z
          rw [this]
          by_cases y : 0 < sW s - 1
          · rw [if_pos (by rw [lit 0, nI_lt' (by decide) (by omega)]; exact y)]
          · rw [if_neg (by rw [lit 0, nI_lt' (by decide) (by omega)]; exact y), show sW s - 1 = 0 by omega]; rfl
        · rw [show sW s = 0 by omega]; decide
      rw [e]
      exact ok_imp (gd87_ok hs hfa hcfE hf ha h8 hp2 _ hN) (fun E2 hE2 => ⟨hE2.1, hfr.tr hE2.2⟩)
theorem goDays_ok (hs : StA nx P a) (hfa : FaA nx P 4) (hcf : CF D 4 f) (hc : CS D a s) (hf : FamOK f) (hv : StOK f s) (ha : 9 ≤ a) (n : Nat) (hn : n ≤ 60) (hN : 100 ≤ N) : OkP (fun D' => CS D' a (days f n s) ∧ Fr3 D D' a) (f_C_goDays N nx D P a (nI n)) := by
  unfold f_C_goDays
  refine ok_t hs.1 ?_
  refine wk2_run (I := fun t E i => CS E a (days f t s) ∧ Fr3 D E a ∧ i = nI t) n N _ _ (by omega) ⟨hc, Fr3.rf, rfl⟩ ?_ ?_
  · rintro t ht E i ⟨hE, hfr, rfl⟩ rec hrec
    unfold f_C_goDays_2
    refine ok_f (i2_lt ht (by omega)) (ok_bind (goDay_ok hs hfa (hcf.fr hfr (by omega)) hE hf (days_ok hf t hv) ha hN) (fun E2 hE2 => hrec _ _ ⟨?_, hfr.tr hE2.2, nI_1 t⟩))
    rw [days_succ]; exact hE2.1
  · rintro E i ⟨hE, hfr, rfl⟩ rec
    unfold f_C_goDays_2
    exact ok_t (i2_ge (Nat.le_refl _) (by omega)) (ok_some ⟨hE, hfr⟩)
end SDy
