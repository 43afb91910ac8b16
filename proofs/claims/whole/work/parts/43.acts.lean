/-! what the class's standing does -/
def setP (s : St) (t q : Nat) : St := (fun j => if j = t then q else sP s j, sZ s, sW s, sD s)
def setZ (s : St) (t z : Nat) : St := (sP s, fun j => if j = t then z else sZ s j, sW s, sD s)
def ev (d : Int32) : Bool := decide (d - d / 2 * 2 = 0)
def gr (k z : Nat) (e : Bool) : Nat := if k = 1 ∨ (k = 3 ∧ e = true) then (if z + 1 < 40 then z + 1 else 40) else if k = 0 then z else z - 1
theorem gr_le {k z : Nat} {e : Bool} (h : z ≤ 40) : gr k z e ≤ 40 := by unfold gr; split <;> (try split) <;> omega
section SA
variable {N nx a : Nat} {D : Dt} {P : Ft} {f : Fam} {s : St}
theorem CS.cong {s' : St} (h : CS D a s) (h1 : ∀ t, t < 8 → sP s' t = sP s t ∧ sZ s' t = sZ s t) (h2 : sW s' = sW s) (h3 : sD s' = sD s) : CS D a s' := by
  refine ⟨by rw [h2]; exact h.1, by rw [h3]; exact h.2.1, fun t ht => ?_⟩
  rw [(h1 t ht).1, (h1 t ht).2]
  exact h.2.2 t ht
theorem CS.putZ (h : CS D a s) {t z : Nat} : CS (upd2 D (a + 1) t (nI z)) a (setZ s t z) := by
  refine ⟨?_, ?_, fun j hj => ⟨?_, ?_⟩⟩
  · rw [upd2_n (by omega)]; exact h.1
  · rw [upd2_n (by omega)]; exact h.2.1
  · rw [upd2_s]
    show upd _ _ _ _ = nI (if j = t then z else sZ s j)
    by_cases q : j = t
    · subst q; rw [upd_s, if_pos rfl]
    · rw [upd_n q, if_neg q]; exact (h.2.2 j hj).1
  · rw [upd2_n (by omega)]; exact (h.2.2 j hj).2
theorem CS.putP (h : CS D a s) {t q : Nat} : CS (upd2 D (a + 2) t (cw q)) a (setP s t q) := by
  refine ⟨?_, ?_, fun j hj => ⟨?_, ?_⟩⟩
  · rw [upd2_n (by omega)]; exact h.1
  · rw [upd2_n (by omega)]; exact h.2.1
  · rw [upd2_n (by omega)]; exact (h.2.2 j hj).1
  · rw [upd2_s]
    show upd _ _ _ _ = cw (if j = t then q else sP s j)
    by_cases z : j = t
    · subst z; rw [upd_s, if_pos rfl]
    · rw [upd_n z, if_neg z]; exact (h.2.2 j hj).2
theorem Fr3.u0 {k : Nat} {v : Int32} : Fr3 D (upd2 D a k v) a := fun q h1 _ _ => upd2_n h1
theorem Fr3.u1 {k : Nat} {v : Int32} : Fr3 D (upd2 D (a + 1) k v) a := fun q _ h1 _ => upd2_n h1
theorem Fr3.u2 {k : Nat} {v : Int32} : Fr3 D (upd2 D (a + 2) k v) a := fun q _ _ h1 => upd2_n h1
theorem CF.fr {D' : Dt} {b : Nat} (h : CF D b f) (hf : Fr3 D D' a) (ha : b + 5 ≤ a) : CF D' b f := by
  unfold CF
  rw [hf b (by omega) (by omega) (by omega), hf (b + 1) (by omega) (by omega) (by omega), hf (b + 2) (by omega) (by omega) (by omega), hf (b + 3) (by omega) (by omega) (by omega)]
  exact h
theorem lbd_eq {k z : Nat} {d : Int32} (hk : k ≤ 3) (hz : 1 ≤ z ∧ z ≤ 40) : f_H_largeBehindDay N nx D P (nI k) (nI z) d = some (nI (gr k z (ev d))) := by
  have hlt : (nI z + 1 < 40) ↔ z + 1 < 40 := by rw [nI_1, lit 40, nI_lt' (by omega) (by decide)]
  have h43 : ∀ (i3 s0 : Int32), f_H_largeBehindDay_43 N nx D P (nI z) i3 s0 = some (if i3 = 0 then (if s0 = 0 then nI z else nI z - 1) else nI (if z + 1 < 40 then z + 1 else 40)) := by
    intro i3 s0
    unfold f_H_largeBehindDay_43
    by_cases q : i3 = 0
    · rw [if_pos q, if_pos q]
      by_cases w : s0 = 0
      · rw [if_pos w, if_pos w]
      · rw [if_neg w, if_neg w]
    · rw [if_neg q, if_neg q]
      by_cases w : z + 1 < 40
      · rw [if_pos w, if_pos (hlt.mpr w), nI_1]
      · rw [if_neg w, if_neg (fun e => w (hlt.mp e))]; rfl
  have hm : nI z - 1 = nI (z - 1) := pk_sub (b := 1) hz.1
  unfold f_H_largeBehindDay f_H_largeBehindDay_21 gr ev
  simp only [h43]
  rcases (show k = 0 ∨ k = 1 ∨ k = 2 ∨ k = 3 by omega) with rfl | rfl | rfl | rfl
  · simp [show ¬ (nI 0 : Int32) = 1 by decide, show ¬ (nI 0 : Int32) = 3 by decide, show ¬ (nI 0 : Int32) = 2 by decide]
  · simp [show (nI 1 : Int32) = 1 by decide]
  · simp [show ¬ (nI 2 : Int32) = 1 by decide, show ¬ (nI 2 : Int32) = 3 by decide, show (nI 2 : Int32) = 2 by decide, hm]
  · by_cases q : d - d / 2 * 2 = 0
    · simp [show ¬ (nI 3 : Int32) = 1 by decide, show (nI 3 : Int32) = 3 by decide, q]
    · simp [show ¬ (nI 3 : Int32) = 1 by decide, show (nI 3 : Int32) = 3 by decide, q, hm]
theorem hasPerson_t {b : Nat} (hfa : FaA nx P b) (h4 : D b 4 = nI (fN f)) (hf : FamOK f) {p : Nat} (hp : p < fN f) : f_F_hasPerson N nx D P b (nI p) = some 1 := by
  have h5 := hf.2.1
  rw [hasPerson_eq hfa h4 hf, if_pos (show ¬ nI p < 0 ∧ nI p < nI (fN f) from ⟨nI_nneg (by omega), by rw [nI_lt' (by omega) (by omega)]; exact hp⟩)]
theorem hasPin_t {b : Nat} (hfa : FaA nx P b) (h4 : D b 5 = nI (fK f)) (hf : fK f ≤ 8) {t : Nat} (ht : t < fK f) : f_F_hasPin N nx D P b (nI t) = some 1 := by
  rw [hasPin_eq hfa h4 hf, if_pos (show ¬ nI t < 0 ∧ nI t < nI (fK f) from ⟨nI_nneg (by omega), by rw [nI_lt' (by omega) (by omega)]; exact ht⟩)]
theorem hasPin_f {b : Nat} (hfa : FaA nx P b) (h4 : D b 5 = nI (fK f)) (hf : fK f ≤ 8) {t : Nat} (ht : fK f ≤ t) (ht2 : t < 100) : f_F_hasPin N nx D P b (nI t) = some 0 := by
  rw [hasPin_eq hfa h4 hf, if_neg (fun e => absurd e.2 (by rw [nI_lt' (by omega) (by omega)]; omega))]
theorem stickIn_ok (hs : StA nx P a) (hfa : FaA nx P 4) (hcf : CF D 4 f) (hc : CS D a s) (hf : FamOK f) (hv : StOK f s) (t : Nat) (ht : t < 8) : OkP (fun D' => CS D' a (if sP s t < 5 ∧ sW s ≠ fD f then setP s t 5 else s) ∧ Fr3 D D' a) (f_C_stickIn N nx D P a (nI t)) := by
  unfold f_C_stickIn
  refine ok_t hs.1 (ok_call (canStick_eq hs hfa hcf hc hf hv t ht) ?_)
  by_cases q : sP s t < 5 ∧ sW s ≠ fD f
  · rw [if_pos q, if_pos q]
    refine ok_f (by decide) (ok_nn hs.2.2.2.2.2 (ok_t (ab_ok hs.2.2.1 ht (by decide)) (ok_pas (ok_some ?_))))
    rw [cl (by omega)]
    exact ⟨hc.putP (q := 5), Fr3.u2⟩
  · rw [if_neg q, if_neg q]
    exact ok_t rfl (ok_some ⟨hc, Fr3.rf⟩)
theorem feelFor_ok (hs : StA nx P a) (hfa : FaA nx P 4) (hcf : CF D 4 f) (hc : CS D a s) (hf : FamOK f) (hv : StOK f s) (t p : Nat) (ht : t < 8) (hp : p < fN f) : OkP (fun D' => CS D' a (if sP s t = 5 then setP s t p else s) ∧ Fr3 D D' a) (f_C_feelFor N nx D P a (nI t) (nI p)) := by
  have h5 := hf.2.1
  unfold f_C_feelFor
  refine ok_t hs.1 (ok_call (canFeel_eq hs hc (hv.p8 hf) t ht) ?_)
  by_cases q : sP s t = 5
  · rw [if_pos q, if_pos q]
    refine ok_f (by decide) (ok_nn hs.2.2.2.1 (ok_t hfa.1 (ok_call (hasPerson_t hfa hcf.1 hf hp) ?_)))
    refine ok_f (by decide) (ok_nn hs.2.2.2.2.2 (ok_t (ab_ok hs.2.2.1 ht (by decide)) (ok_pas (ok_some ?_))))
    rw [cl (by omega), ← cw_per (show p < 5 by omega)]
    exact ⟨hc.putP, Fr3.u2⟩
  · rw [if_neg q, if_neg q]
    exact ok_t rfl (ok_some ⟨hc, Fr3.rf⟩)
theorem giveTo_ok (hs : StA nx P a) (hfa : FaA nx P 4) (hcf : CF D 4 f) (hc : CS D a s) (hf : FamOK f) (hv : StOK f s) (t p : Nat) (ht : t < 8) (hp : p < fN f) : OkP (fun D' => CS D' a (if sP s t < 5 ∧ sP s t ≠ p then setP s t p else s) ∧ Fr3 D D' a) (f_C_giveTo N nx D P a (nI t) (nI p)) := by
  have h5 := hf.2.1
  unfold f_C_giveTo
  refine ok_t hs.1 (ok_call (canGive_eq hs hc (hv.p8 hf) t ht p (by omega)) ?_)
  by_cases q : sP s t < 5 ∧ sP s t ≠ p
  · rw [if_pos q, if_pos q]
    refine ok_f (by decide) (ok_nn hs.2.2.2.1 (ok_t hfa.1 (ok_call (hasPerson_t hfa hcf.1 hf hp) ?_)))
    refine ok_f (by decide) (ok_nn hs.2.2.2.2.2 (ok_t (ab_ok hs.2.2.1 ht (by decide)) (ok_pas (ok_some ?_))))
    rw [cl (by omega), ← cw_per (show p < 5 by omega)]
    exact ⟨hc.putP, Fr3.u2⟩
  · rw [if_neg q, if_neg q]
    exact ok_t rfl (ok_some ⟨hc, Fr3.rf⟩)
/-- the first t pins as in s', the others as in s -/
def mixS (t : Nat) (s s' : St) : St := (fun j => if j < t then sP s' j else sP s j, fun j => if j < t then sZ s' j else sZ s j, sW s, sD s)
theorem mix0 (hc : CS D a s) {s' : St} : CS D a (mixS 0 s s') := hc.cong (s' := mixS 0 s s') (fun t _ => ⟨show (if t < 0 then sP s' t else sP s t) = sP s t from if_neg (Nat.not_lt_zero t), show (if t < 0 then sZ s' t else sZ s t) = sZ s t from if_neg (Nat.not_lt_zero t)⟩) rfl rfl
theorem mix8 {s' : St} (hc : CS D a (mixS 8 s s')) : CS D a (sP s', sZ s', sW s, sD s) := hc.cong (fun t ht => ⟨show sP s' t = (if t < 8 then sP s' t else sP s t) from (if_pos ht).symm, show sZ s' t = (if t < 8 then sZ s' t else sZ s t) from (if_pos ht).symm⟩) rfl rfl
theorem mixN {s' : St} {t : Nat} (hc : CS D a (mixS t s s')) (h1 : sP s' t = sP s t) (h2 : sZ s' t = sZ s t) : CS D a (mixS (t + 1) s s') := by
  refine hc.cong (fun j hj => ⟨?_, ?_⟩) rfl rfl
  · show (if j < t + 1 then _ else _) = if j < t then _ else _
    by_cases q : j < t
    · rw [if_pos q, if_pos (by omega)]
    · by_cases e : j = t
      · subst e; rw [if_pos (by omega), if_neg q]; exact h1
      · rw [if_neg q, if_neg (by omega)]
  · show (if j < t + 1 then _ else _) = if j < t then _ else _
    by_cases q : j < t
    · rw [if_pos q, if_pos (by omega)]
    · by_cases e : j = t
      · subst e; rw [if_pos (by omega), if_neg q]; exact h2
      · rw [if_neg q, if_neg (by omega)]
theorem mixPZ {s' : St} {t : Nat} (hc : CS D a (setP (setZ (mixS t s s') t (sZ s' t)) t (sP s' t))) : CS D a (mixS (t + 1) s s') := by
  refine hc.cong (fun j hj => ⟨?_, ?_⟩) rfl rfl
  · show (if j < t + 1 then _ else _) = if j = t then _ else if j < t then _ else _
    by_cases e : j = t
    · subst e; rw [if_pos (by omega), if_pos rfl]
    · rw [if_neg e]
      by_cases q : j < t
      · rw [if_pos q, if_pos (by omega)]
      · rw [if_neg q, if_neg (by omega)]
  · show (if j < t + 1 then _ else _) = if j = t then _ else if j < t then _ else _
    by_cases e : j = t
    · subst e; rw [if_pos (by omega), if_pos rfl]
    · rw [if_neg e]
      by_cases q : j < t
      · rw [if_pos q, if_pos (by omega)]
      · rw [if_neg q, if_neg (by omega)]
theorem setP_same {t : Nat} {q : Nat} (h : sP s t = q) (hc : CS D a s) : CS D a (setP s t q) := by
  refine hc.cong (fun j _ => ⟨?_, rfl⟩) rfl rfl
  show (if j = t then q else sP s j) = sP s j
  by_cases e : j = t
  · subst e; rw [if_pos rfl, h]
  · rw [if_neg e]
theorem setZ_same {t : Nat} {q : Nat} (h : sZ s t = q) (hc : CS D a s) : CS D a (setZ s t q) := by
  refine hc.cong (fun j _ => ⟨rfl, ?_⟩) rfl rfl
  show (if j = t then q else sZ s j) = sZ s j
  by_cases e : j = t
  · subst e; rw [if_pos rfl, h]
  · rw [if_neg e]
theorem mix_at {s' : St} {t : Nat} : sP (mixS t s s') t = sP s t ∧ sZ (mixS t s s') t = sZ s t := ⟨show (if t < t then sP s' t else sP s t) = sP s t from if_neg (Nat.lt_irrefl t), show (if t < t then sZ s' t else sZ s t) = sZ s t from if_neg (Nat.lt_irrefl t)⟩
/-- a bad day's -/
def badS (s : St) : St := (sP s, fun t => if sP s t < 5 then (if sZ s t + 1 < 40 then sZ s t + 1 else 40) else sZ s t, sW s, sD s)
theorem growBorne_ok (hs : StA nx P a) (hc : CS D a s) (hp : ∀ t, sP s t ≤ 8) (hz : ∀ t, sZ s t ≤ 40) (hN : 100 ≤ N) : OkP (fun D' => CS D' a (badS s) ∧ Fr3 D D' a) (f_C_growBorne N nx D P a) := by
  obtain ⟨k1, k2, k3, p0, p1, p2⟩ := hs
  unfold f_C_growBorne
  refine ok_t k1 ?_
  refine wk2_run (I := fun t E i => CS E a (mixS t s (badS s)) ∧ Fr3 D E a ∧ i = nI t) 8 N _ _ (by omega) ⟨mix0 hc, Fr3.rf, rfl⟩ ?_ ?_
  · rintro t ht E i ⟨hE, hfr, rfl⟩ rec hrec
    unfold f_C_growBorne_2
    have hh := hE.2.2 t ht
    rw [mix_at.1, mix_at.2] at hh
    have hn := cw_neg (sP s t) (by have := hp t; omega)
    refine ok_f (le8 ht) (ok_nn p2 (ok_t (ab_ok k3 ht (by decide)) ?_))
    rw [cl (by omega), hh.2]
    refine ok_ite (fun h => ?_) (fun h => ?_)
    · refine hrec _ _ ⟨mixN hE rfl ?_, hfr, nI_1 t⟩
      exact if_neg (fun e => absurd (hn.mpr e) (Int32.not_le.mpr h))
    · refine ok_nn p1 (ok_t (ab_ok k2 ht (by decide)) (ok_t (ab_ok k2 ht (by decide)) (ok_pas (hrec _ _ ⟨?_, hfr.tr Fr3.u1, nI_1 t⟩))))
      have h5 := hn.mp (Int32.not_lt.mp h)
      rw [hh.1]
      have e : (if nI (sZ s t) + 1 < 40 then nI (sZ s t) + 1 else 40) = nI (sZ (badS s) t) := by
        have hz2 := hz t
        show _ = nI (if sP s t < 5 then _ else _)
        rw [if_pos h5, nI_1]
        by_cases q : sZ s t + 1 < 40
        · rw [if_pos q, if_pos (by rw [lit 40, nI_lt' (by omega) (by decide)]; exact q)]
        · rw [if_neg q, if_neg (by rw [lit 40, nI_lt' (by omega) (by decide)]; exact q)]; rfl
      rw [e]
      exact mixPZ (setP_same mix_at.1 hE.putZ)
  · rintro E i ⟨hE, hfr, rfl⟩ rec
    unfold f_C_growBorne_2
    exact ok_t (by decide) (ok_some ⟨mix8 hE, hfr⟩)
end SA
