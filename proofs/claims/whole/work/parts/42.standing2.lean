/-! how the class's standing answers -/
theorem nn_some {α : Type} {q : Nat} {K : Nat → Option α} : nn (some q) K = K q := rfl
theorem pas_eq {α β : Type} {x : α} {K : α → Option β} : pas x K = K x := rfl
theorem bnd_some {α β : Type} {x : α} {K : α → Option β} : (some x).bind K = K x := rfl
theorem nI_nneg {n : Nat} (h : n < 2147483648) : ¬ nI n < 0 := nI_pos h
theorem i2_lt {t n : Nat} (h : t < n) (hn : n < 2147483648) : ¬ nI n ≤ nI t := by rw [nI_le' hn (by omega)]; omega
theorem i2_ge {t n : Nat} (h : n ≤ t) (hn : t < 2147483648) : nI n ≤ nI t := by rw [nI_le' (by omega) hn]; exact h
section SR
variable {N nx a : Nat} {D : Dt} {P : Ft} {f : Fam} {s : St}
theorem sumAt_eq (hs : StA nx P a) (hc : CS D a s) (hp : ∀ t, sP s t ≤ 8) (hN : 100 ≤ N) (q : Nat) (hq : q < 9) : f_C_sumAt N nx D P a (cw q) = some (nI (ld s q 8)) := by
  obtain ⟨k1, k2, k3, p0, p1, p2⟩ := hs
  apply ok_val
  unfold f_C_sumAt
  refine ok_t k1 ?_
  refine wk2_run (I := fun t acc i => acc = nI (ld s q t) ∧ i = nI t) 8 N _ _ (by omega) ⟨rfl, rfl⟩ ?_ ?_
  · rintro t ht acc i ⟨rfl, rfl⟩ rec hrec
    unfold f_C_sumAt_4
    obtain ⟨h1, h2⟩ := hc.2.2 t ht
    refine ok_f (le8 ht) (ok_nn p2 (ok_t (ab_ok k3 ht (by decide)) ?_))
    rw [cl (by omega), h2]
    refine ok_ite (fun h => ?_) (fun h => ?_)
    · refine ok_nn p1 (ok_t (ab_ok k2 ht (by decide)) (hrec _ _ ⟨?_, nI_1 t⟩))
      rw [h1, nI_add]
      show _ = nI (ld s q t + (if sP s t = q then sZ s t else 0))
      rw [if_pos ((cw_lit _ (by have := hp t; omega) q hq).mp h)]
    · refine hrec _ _ ⟨?_, nI_1 t⟩
      show _ = nI (ld s q t + (if sP s t = q then sZ s t else 0))
      rw [if_neg (fun e => h ((cw_lit _ (by have := hp t; omega) q hq).mpr e)), Nat.add_zero]
  · rintro acc i ⟨rfl, rfl⟩ rec
    unfold f_C_sumAt_4
    exact ok_t (by decide) (ok_some rfl)
theorem loadOf_eq (hs : StA nx P a) (hc : CS D a s) (hp : ∀ t, sP s t ≤ 8) (hN : 100 ≤ N) (p : Nat) (h5 : p < 5) : f_C_loadOf N nx D P a (nI p) = some (nI (ld s p 8)) := by
  have h := sumAt_eq hs hc hp hN p (by omega)
  rw [cw_per h5] at h
  unfold f_C_loadOf
  rw [if_pos hs.1, if_neg (nI_nneg (by omega)), h]
  rfl
theorem heartSum_eq (hs : StA nx P a) (hc : CS D a s) (hp : ∀ t, sP s t ≤ 8) (hN : 100 ≤ N) : f_C_heartSum N nx D P a = some (nI (ld s 5 8)) := by
  have h := sumAt_eq hs hc hp hN 5 (by omega)
  unfold f_C_heartSum
  rw [if_pos hs.1]
  rw [show cw 5 = (-1) by decide] at h
  rw [h]
  rfl
theorem borneSum_eq (hs : StA nx P a) (hc : CS D a s) (hp : ∀ t, sP s t ≤ 8) (hN : 100 ≤ N) : f_C_borneSum N nx D P a = some (nI (borneS s 8)) := by
  obtain ⟨k1, k2, k3, p0, p1, p2⟩ := hs
  apply ok_val
  unfold f_C_borneSum
  refine ok_t k1 ?_
  refine wk2_run (I := fun t acc i => acc = nI (borneS s t) ∧ i = nI t) 8 N _ _ (by omega) ⟨rfl, rfl⟩ ?_ ?_
  · rintro t ht acc i ⟨rfl, rfl⟩ rec hrec
    unfold f_C_borneSum_4
    obtain ⟨h1, h2⟩ := hc.2.2 t ht
    refine ok_f (le8 ht) (ok_nn p2 (ok_t (ab_ok k3 ht (by decide)) ?_))
    rw [cl (by omega), h2]
    have hz := cw_neg (sP s t) (by have := hp t; omega)
    refine ok_ite (fun h => ?_) (fun h => ?_)
    · refine hrec _ _ ⟨?_, nI_1 t⟩
      show _ = nI (borneS s t + (if sP s t < 5 then sZ s t else 0))
      rw [if_neg (fun e => absurd (hz.mpr e) (Int32.not_le.mpr h)), Nat.add_zero]
    · refine ok_nn p1 (ok_t (ab_ok k2 ht (by decide)) (hrec _ _ ⟨?_, nI_1 t⟩))
      rw [h1, nI_add]
      show _ = nI (borneS s t + (if sP s t < 5 then sZ s t else 0))
      rw [if_pos (hz.mp (Int32.not_lt.mp h))]
  · rintro acc i ⟨rfl, rfl⟩ rec
    unfold f_C_borneSum_4
    exact ok_t (by decide) (ok_some rfl)
def at' (s : St) (q : Nat) : Nat → Bool := fun t => decide (sP s t = q)
def br' (s : St) : Nat → Bool := fun t => decide (sP s t < 5)
theorem pinsWith_eq (hs : StA nx P a) (hc : CS D a s) (hp : ∀ t, sP s t ≤ 8) (hN : 100 ≤ N) (q : Nat) (hq : q < 9) : f_C_pinsWith N nx D P a (cw q) = some (nI (bt (at' s q) 8)) := by
  obtain ⟨k1, k2, k3, p0, p1, p2⟩ := hs
  apply ok_val
  unfold f_C_pinsWith
  refine ok_t k1 ?_
  refine wk2_run (I := fun t acc i => acc = nI (bt (at' s q) t) ∧ i = nI t) 8 N _ _ (by omega) ⟨rfl, rfl⟩ ?_ ?_
  · rintro t ht acc i ⟨rfl, rfl⟩ rec hrec
    unfold f_C_pinsWith_4
    obtain ⟨h1, h2⟩ := hc.2.2 t ht
    refine ok_f (le8 ht) (ok_nn p2 (ok_t (ab_ok k3 ht (by decide)) ?_))
    rw [cl (by omega), h2]
    refine ok_ite (fun h => ?_) (fun h => ?_)
    · refine hrec _ _ ⟨?_, nI_1 t⟩
      rw [or_bit (bt_lt _ t) ht]
      show _ = nI (bt (at' s q) t + (if at' s q t = true then 2 ^ t else 0))
      rw [if_pos (show at' s q t = true from decide_eq_true ((cw_lit _ (by have := hp t; omega) q hq).mp h))]
    · refine hrec _ _ ⟨?_, nI_1 t⟩
      show _ = nI (bt (at' s q) t + (if at' s q t = true then 2 ^ t else 0))
      rw [if_neg (show ¬ at' s q t = true from fun e => h ((cw_lit _ (by have := hp t; omega) q hq).mpr (of_decide_eq_true (p := sP s t = q) e))), Nat.add_zero]
  · rintro acc i ⟨rfl, rfl⟩ rec
    unfold f_C_pinsWith_4
    exact ok_t (by decide) (ok_some rfl)
theorem borneBits_eq (hs : StA nx P a) (hc : CS D a s) (hp : ∀ t, sP s t ≤ 8) (hN : 100 ≤ N) : f_C_borneBits N nx D P a = some (nI (bt (br' s) 8)) := by
  obtain ⟨k1, k2, k3, p0, p1, p2⟩ := hs
  apply ok_val
  unfold f_C_borneBits
  refine ok_t k1 ?_
  refine wk2_run (I := fun t acc i => acc = nI (bt (br' s) t) ∧ i = nI t) 8 N _ _ (by omega) ⟨rfl, rfl⟩ ?_ ?_
  · rintro t ht acc i ⟨rfl, rfl⟩ rec hrec
    unfold f_C_borneBits_4
    obtain ⟨h1, h2⟩ := hc.2.2 t ht
    refine ok_f (le8 ht) (ok_nn p2 (ok_t (ab_ok k3 ht (by decide)) ?_))
    rw [cl (by omega), h2]
    have hz := cw_neg (sP s t) (by have := hp t; omega)
    refine ok_ite (fun h => ?_) (fun h => ?_)
    · refine hrec _ _ ⟨?_, nI_1 t⟩
      show _ = nI (bt (br' s) t + (if br' s t = true then 2 ^ t else 0))
      rw [if_neg (show ¬ br' s t = true from fun e => absurd (hz.mpr (of_decide_eq_true (p := sP s t < 5) e)) (Int32.not_le.mpr h)), Nat.add_zero]
    · refine hrec _ _ ⟨?_, nI_1 t⟩
      rw [or_bit (bt_lt _ t) ht]
      show _ = nI (bt (br' s) t + (if br' s t = true then 2 ^ t else 0))
      rw [if_pos (show br' s t = true from decide_eq_true (hz.mp (Int32.not_lt.mp h)))]
  · rintro acc i ⟨rfl, rfl⟩ rec
    unfold f_C_borneBits_4
    exact ok_t (by decide) (ok_some rfl)
theorem largeOf_eq (hs : StA nx P a) (hc : CS D a s) (t : Nat) (ht : t < 8) : f_C_largeOf N nx D P a (nI t) = some (nI (sZ s t)) := by
  obtain ⟨k1, k2, k3, p0, p1, p2⟩ := hs
  unfold f_C_largeOf
  rw [if_pos k1, if_neg (nI_nneg (by omega)), if_neg (le8 ht), p1, nn_some, if_pos (ab_ok k2 ht (by decide)), cl (by omega), (hc.2.2 t ht).1]
theorem whereIs_eq (hs : StA nx P a) (hc : CS D a s) (t : Nat) (ht : t < 8) : f_C_whereIs N nx D P a (nI t) = some (cw (sP s t)) := by
  obtain ⟨k1, k2, k3, p0, p1, p2⟩ := hs
  unfold f_C_whereIs
  rw [if_pos k1, if_neg (nI_nneg (by omega)), if_neg (le8 ht), p2, nn_some, if_pos (ab_ok k3 ht (by decide)), cl (by omega), (hc.2.2 t ht).2]
theorem isAbout_eq (hs : StA nx P a) (hc : CS D a s) (hp : ∀ t, sP s t ≤ 8) (t : Nat) (ht : t < 8) : f_C_isAbout N nx D P a (nI t) = some (if sP s t < 6 then 1 else 0) := by
  have h := cw_lt1 (sP s t) (by have := hp t; omega)
  unfold f_C_isAbout
  rw [if_pos hs.1, whereIs_eq hs hc t ht, bnd_some]
  by_cases q : 6 ≤ sP s t
  · rw [if_pos (h.mpr q), if_neg (by omega)]
  · rw [if_neg (fun e => q (h.mp e)), if_pos (by omega)]
theorem isAtDoor_eq (hs : StA nx P a) (hfa : FaA nx P 4) (hcf : CF D 4 f) (hc : CS D a s) (hf : FamOK f) (hv : StOK f s) : f_C_isAtDoor N nx D P a = some (if sW s = fD f then 1 else 0) := by
  unfold f_C_isAtDoor
  have hd := hf.2.2.2.2.2.1
  have hw := hv.2.2
  rw [if_pos hs.1, hs.2.2.2.1, nn_some, if_pos hfa.1, hc.1, hcf.2.2.2.1, ]
  by_cases q : sW s = fD f
  · rw [if_neg (by rw [nI_lt' (by omega) (by omega)]; omega), if_pos q]
  · rw [if_pos (by rw [nI_lt' (by omega) (by omega)]; omega), if_neg q]
theorem ld_lt (hz : ∀ t, sZ s t ≤ 40) (q T : Nat) (hT : T ≤ 8) : ld s q T ≤ 320 := by
  have := sg_le (g := fun t => if sP s t = q then sZ s t else 0) (c := 40) (fun t => by
    show (if sP s t = q then sZ s t else 0) ≤ 40
    split
    · exact hz t
    · omega) T
  have h2 : T * 40 ≤ 8 * 40 := Nat.mul_le_mul_right _ hT
  unfold ld; omega
theorem borneS_lt (hv : StOK f s) (T : Nat) (hT : T ≤ 8) : borneS s T ≤ 320 := by
  have := sg_le (g := fun t => if sP s t < 5 then sZ s t else 0) (c := 40) (fun t => by
    show (if sP s t < 5 then sZ s t else 0) ≤ 40
    split
    · exact hv.z40 t
    · omega) T
  have h2 : T * 40 ≤ 8 * 40 := Nat.mul_le_mul_right _ hT
  unfold borneS; omega
def full (f : Fam) (s : St) : Bool := decide (fR f < ld s 5 8)
def brk (f : Fam) (s : St) (p : Nat) : Bool := decide (fC f p < ld s p 8)
theorem isFull_eq (hs : StA nx P a) (hfa : FaA nx P 4) (hcf : CF D 4 f) (hc : CS D a s) (hf : FamOK f) (hv : StOK f s) (hN : 100 ≤ N) : f_C_isFull N nx D P a = some (if full f s = true then 1 else 0) := by
  unfold f_C_isFull
  have h1 := ld_lt hv.z40 5 8 (Nat.le_refl _)
  have h2 := hf.2.2.2.1
  rw [if_pos hs.1, heartSum_eq hs hc (hv.p8 hf) hN, bnd_some, hs.2.2.2.1, nn_some, if_pos hfa.1, hcf.2.2.1]
  unfold full
  by_cases q : fR f < ld s 5 8
  · rw [if_neg (by rw [nI_le' (by omega) (by omega)]; omega), if_pos (decide_eq_true q)]
  · rw [if_pos (by rw [nI_le' (by omega) (by omega)]; omega), if_neg (by simpa using q)]
theorem bearableBy_eq (hfa : FaA nx P a) (hcf : CF D a f) (hf : FamOK f) (p : Nat) (hp : p < fN f) : f_F_bearableBy N nx D P a (nI p) = some (nI (fC f p)) := by
  have h5 : p < 5 := by have := hf.2.1; omega
  unfold f_F_bearableBy
  rw [if_pos hfa.1, if_neg (nI_nneg (by omega)), if_neg (le5 h5), hfa.2.2.2.2.2.1, nn_some, if_pos (ab_ok hfa.2.1 h5 (by decide)), cl (by omega), hcf.2.2.2.2.2.1 p hp]
theorem kindOf_eq (hfa : FaA nx P a) (hcf : CF D a f) (hf : FamOK f) (t : Nat) (ht : t < fK f) : f_F_kindOf N nx D P a (nI t) = some (nI (fS f t)) := by
  have h5 : t < 8 := by have := hf.2.2.1; omega
  unfold f_F_kindOf
  rw [if_pos hfa.1, if_neg (nI_nneg (by omega)), if_neg (le8 h5), hfa.2.2.2.2.2.2.2.1, nn_some, if_pos (ab_ok hfa.2.2.2.1 h5 (by decide)), cl (by omega), (hcf.2.2.2.2.2.2 t ht).2]
theorem ownerOf_eq (hfa : FaA nx P a) (hcf : CF D a f) (hf : FamOK f) (t : Nat) (ht : t < fK f) : f_F_ownerOf N nx D P a (nI t) = some (nI (fO f t)) := by
  have h5 : t < 8 := by have := hf.2.2.1; omega
  unfold f_F_ownerOf
  rw [if_pos hfa.1, if_neg (nI_nneg (by omega)), if_neg (le8 h5), hfa.2.2.2.2.2.2.1, nn_some, if_pos (ab_ok hfa.2.2.1 h5 (by decide)), cl (by omega), (hcf.2.2.2.2.2.2 t ht).1]
theorem isBroken_eq (hs : StA nx P a) (hfa : FaA nx P 4) (hcf : CF D 4 f) (hc : CS D a s) (hf : FamOK f) (hp8 : ∀ t, sP s t ≤ 8) (hz : ∀ t, sZ s t ≤ 40) (hN : 100 ≤ N) (p : Nat) (hp : p < fN f) : f_C_isBroken N nx D P a (nI p) = some (if brk f s p = true then 1 else 0) := by
  have h5 : p < 5 := by have := hf.2.1; omega
  have h1 := ld_lt hz p 8 (Nat.le_refl _)
  have h2 := hf.2.2.2.2.2.2.2.2.1 p hp
  unfold f_C_isBroken
  rw [if_pos hs.1, loadOf_eq hs hc hp8 hN p h5, bnd_some, hs.2.2.2.1, nn_some, if_pos hfa.1, bearableBy_eq hfa hcf hf p hp, bnd_some]
  unfold brk
  by_cases q : fC f p < ld s p 8
  · rw [if_neg (by rw [nI_le' (by omega) (by omega)]; omega), if_pos (decide_eq_true q)]
  · rw [if_pos (by rw [nI_le' (by omega) (by omega)]; omega), if_neg (by simpa using q)]
theorem howManyBreak_eq (hs : StA nx P a) (hfa : FaA nx P 4) (hcf : CF D 4 f) (hc : CS D a s) (hf : FamOK f) (hp8 : ∀ t, sP s t ≤ 8) (hz : ∀ t, sZ s t ≤ 40) (hN : 100 ≤ N) : f_C_howManyBreak N nx D P a = some (nI (ct (brk f s) (fN f))) := by
  have h5 := hf.2.1
  apply ok_val
  unfold f_C_howManyBreak
  refine ok_t hs.1 ?_
  refine wk2_run (I := fun t acc i => acc = nI (ct (brk f s) t) ∧ i = nI t) (fN f) N _ _ (by omega) ⟨rfl, rfl⟩ ?_ ?_
  · rintro t ht acc i ⟨rfl, rfl⟩ rec hrec
    unfold f_C_howManyBreak_4
    refine ok_nn hs.2.2.2.1 (ok_t hfa.1 ?_)
    rw [hcf.1]
    refine ok_f (i2_lt ht (by omega)) (ok_call (isBroken_eq hs hfa hcf hc hf hp8 hz hN t ht) ?_)
    by_cases q : brk f s t = true
    · rw [if_pos q]
      refine ok_f (by decide) (hrec _ _ ⟨?_, nI_1 t⟩)
      rw [nI_1]; show _ = nI (ct (brk f s) t + (if brk f s t = true then 1 else 0)); rw [if_pos q]
    · rw [if_neg q]
      refine ok_t rfl (hrec _ _ ⟨?_, nI_1 t⟩)
      show _ = nI (ct (brk f s) t + (if brk f s t = true then 1 else 0)); rw [if_neg q, Nat.add_zero]
  · rintro acc i ⟨rfl, rfl⟩ rec
    unfold f_C_howManyBreak_4
    refine ok_nn hs.2.2.2.1 (ok_t hfa.1 ?_)
    rw [hcf.1]
    exact ok_t (i2_ge (Nat.le_refl _) (by omega)) (ok_some rfl)
def calm (f : Fam) (s : St) : Bool := decide (sW s ≠ fD f ∧ ct (brk f s) (fN f) = 0)
theorem isCalm_eq (hs : StA nx P a) (hfa : FaA nx P 4) (hcf : CF D 4 f) (hc : CS D a s) (hf : FamOK f) (hv : StOK f s) (hN : 100 ≤ N) : f_C_isCalm N nx D P a = some (if calm f s = true then 1 else 0) := by
  have h5 := hf.2.1
  have h6 := ct_le (brk f s) (fN f)
  unfold f_C_isCalm
  rw [if_pos hs.1, isAtDoor_eq hs hfa hcf hc hf hv, bnd_some, howManyBreak_eq hs hfa hcf hc hf (hv.p8 hf) hv.z40 hN, bnd_some]
  unfold calm
  by_cases q : sW s = fD f
  · rw [if_pos q, if_neg (by decide), if_neg (by simp [q])]
  · rw [if_neg q, if_pos rfl]
    by_cases z : ct (brk f s) (fN f) = 0
    · rw [z, if_pos (show nI 0 = 0 from rfl), if_pos (by simp [q])]
    · rw [if_neg (by rw [lit 0, nI_inj (by omega) (by decide)]; exact z), if_neg (by simp [z])]
theorem canStick_eq (hs : StA nx P a) (hfa : FaA nx P 4) (hcf : CF D 4 f) (hc : CS D a s) (hf : FamOK f) (hv : StOK f s) (t : Nat) (ht : t < 8) : f_C_canStick N nx D P a (nI t) = some (if sP s t < 5 ∧ sW s ≠ fD f then 1 else 0) := by
  have h := cw_neg (sP s t) (by have := hv.p8 hf t; omega)
  unfold f_C_canStick
  rw [if_pos hs.1, whereIs_eq hs hc t ht, bnd_some, isAtDoor_eq hs hfa hcf hc hf hv, bnd_some]
  by_cases q : sP s t < 5
  · rw [if_neg (Int32.not_lt.mpr (h.mpr q))]
    by_cases z : sW s = fD f
    · rw [if_pos z, if_neg (by decide), if_neg (by simp [z])]
    · rw [if_neg z, if_pos rfl, if_pos ⟨q, z⟩]
  · rw [if_pos (Int32.not_le.mp (fun e => q (h.mp e))), if_neg (by simp [q])]
theorem canFeel_eq (hs : StA nx P a) (hc : CS D a s) (hp : ∀ t, sP s t ≤ 8) (t : Nat) (ht : t < 8) : f_C_canFeel N nx D P a (nI t) = some (if sP s t = 5 then 1 else 0) := by
  have h := cw_lit (sP s t) (by have := hp t; omega) 5 (by decide)
  rw [show cw 5 = (-1) by decide] at h
  unfold f_C_canFeel
  rw [if_pos hs.1, whereIs_eq hs hc t ht, bnd_some]
  by_cases q : sP s t = 5
  · rw [if_pos (h.mpr q), if_pos q]
  · rw [if_neg (fun e => q (h.mp e)), if_neg q]
theorem canGive_eq (hs : StA nx P a) (hc : CS D a s) (hp : ∀ t, sP s t ≤ 8) (t : Nat) (ht : t < 8) (p : Nat) (h5 : p < 5) : f_C_canGive N nx D P a (nI t) (nI p) = some (if sP s t < 5 ∧ sP s t ≠ p then 1 else 0) := by
  have h := cw_neg (sP s t) (by have := hp t; omega)
  have h2 := cw_lit (sP s t) (by have := hp t; omega) p (by omega)
  rw [cw_per h5] at h2
  unfold f_C_canGive
  rw [if_pos hs.1, whereIs_eq hs hc t ht, bnd_some]
  by_cases q : sP s t < 5
  · rw [if_neg (Int32.not_lt.mpr (h.mpr q)), hs.2.2.2.2.2, nn_some, if_pos (ab_ok hs.2.2.1 ht (by decide)), cl (by omega), (hc.2.2 t ht).2]
    by_cases z : sP s t = p
    · rw [if_pos (h2.mpr z), if_neg (by simp [z])]
    · rw [if_neg (fun e => z (h2.mp e)), if_pos ⟨q, z⟩]
  · rw [if_pos (Int32.not_le.mp (fun e => q (h.mp e))), if_neg (by simp [q])]
theorem hasPerson_eq (hfa : FaA nx P a) (h4 : D a 4 = nI (fN f)) (hf : FamOK f) (x : Int32) : f_F_hasPerson N nx D P a x = some (if ¬ x < 0 ∧ x < nI (fN f) then 1 else 0) := by
  unfold f_F_hasPerson
  rw [if_pos hfa.1, h4]
  by_cases q : x < 0
  · rw [if_pos q, if_neg (by simp [q])]
  · rw [if_neg q]
    by_cases z : nI (fN f) ≤ x
    · rw [if_pos z, if_neg (fun e => absurd e.2 (Int32.not_lt.mpr z))]
    · have z' := Int32.not_le.mp z
      have h5 : ¬ (5 : Int32) ≤ x := by
        intro e
        have h2 : fN f ≤ 5 := hf.2.1
        have h3 : (5 : Int32) < nI (fN f) := Int32.lt_of_le_of_lt e z'
        rw [lit 5, nI_lt' (by decide) (by omega)] at h3
        omega
      rw [if_neg z, if_neg h5, if_pos ⟨q, z'⟩]
theorem hasPin_eq (hfa : FaA nx P a) (h4 : D a 5 = nI (fK f)) (hf : fK f ≤ 8) (x : Int32) : f_F_hasPin N nx D P a x = some (if ¬ x < 0 ∧ x < nI (fK f) then 1 else 0) := by
  unfold f_F_hasPin
  rw [if_pos hfa.1, h4]
  by_cases q : x < 0
  · rw [if_pos q, if_neg (by simp [q])]
  · rw [if_neg q]
    by_cases z : nI (fK f) ≤ x
    · rw [if_pos z, if_neg (fun e => absurd e.2 (Int32.not_lt.mpr z))]
    · have z' := Int32.not_le.mp z
      have h5 : ¬ (8 : Int32) ≤ x := by
        intro e
        have h2 : fK f ≤ 8 := hf
        have h3 : (8 : Int32) < nI (fK f) := Int32.lt_of_le_of_lt e z'
        rw [lit 8, nI_lt' (by decide) (by omega)] at h3
        omega
      rw [if_neg z, if_neg h5, if_pos ⟨q, z'⟩]
end SR
