/-! the reference: a day goes by, from its beginning -/
def dayS (f : Fam) (s : St) : St := (dayP f s, dayZ f s, sW s, sD s)
theorem dayS_ok {f : Fam} {s : St} (hf : FamOK f) (hv : StOK f s) : StOK f (dayS f s) := by
  refine ⟨fun t ht => ?_, fun t ht => ?_, hv.2.2⟩
  · obtain ⟨h1, h2, h3⟩ := hv.1 t ht
    have h4 := gz_le hv t
    have h5 := hf.2.1
    show (dayP f s t < fN f ∨ dayP f s t = 5 ∨ dayP f s t = 6 ∨ dayP f s t = 7) ∧ dayZ f s t ≤ 40 ∧ (dayP f s t < 6 → 1 ≤ dayZ f s t)
    unfold dayP dayZ
    by_cases q : sP s t < 6
    · rw [if_pos q, if_pos q]
      by_cases w : gz f s t = 0
      · rw [if_pos w]; omega
      · rw [if_neg w]; omega
    · rw [if_neg q, if_neg q]; omega
  · obtain ⟨h1, h2⟩ := hv.2.1 t ht
    show dayP f s t = 8 ∧ dayZ f s t = 0
    unfold dayP dayZ
    rw [if_neg (by omega), if_neg (by omega)]
    exact ⟨h1, h2⟩
section ML
variable {N nx q : Nat} {D : Dt} {P : Ft} {f : Fam} {s : St}
theorem pass133_ok (hP : PB P) (hn : 117 ≤ nx) (hm : MF D f) (hf : FamOK f) (hq : kd nx q = 30018) (hq2 : 104 < q) (hv : StOK f s) (hs : RStd (D q) 0 (dayS f s)) (hN : 100 ≤ N) {x : Int32} (hx : x = if full f s = true then 1 else -1) : OkP (fun E => RStd (E q) 0 (day f s) ∧ FrO q D E) (f_M_passOn_133 N nx D P 97 q (nI (sW s)) x) := by
  have hD1 := hf.2.2.2.2.1
  have hD2 := hf.2.2.2.2.2.1
  have hW := hv.2.2
  have hvS := dayS_ok hf hv
  have key : ∀ w, w = dayW f s → OkP (fun E => RStd (E q) 0 (day f s) ∧ FrO q D E) (f_M_passOn_165 N nx D P 97 q q 1 (nI w)) := by
    intro w hw
    have hwD : w ≤ fD f := by
      rw [hw]; unfold dayW
      split
      · split <;> omega
      · omega
    have := pass165_ok hP hn hm hf hq hq2 hvS hs hwD hN
    rw [hw] at this ⊢
    exact this
  have hP4 : P 97 4 = some 101 := hP.at (by decide) rfl
  have abD : ab nx 101 3 1 = true := ab_ok (t := 3) (N := 6) (kd_at (by omega) rfl) (n := 1) (by decide) (by decide)
  unfold f_M_passOn_133
  by_cases c : full f s = true
  · rw [if_pos c] at hx
    have hdw : dayW f s = if sW s + 1 < fD f then sW s + 1 else fD f := if_pos c
    rw [hx, nI_1]
    refine ok_t (by rw [lit 0, nI_le' (by decide) (by omega)]; omega) (ok_nn hP4 (ok_t abD ?_))
    show OkP _ (if nI (sW s + 1) ≤ D 101 1 then f_M_passOn_165 N nx D P 97 q q 1 (nI (sW s + 1)) else if ab nx 101 3 1 = true then f_M_passOn_165 N nx D P 97 q q 1 (D 101 1) else none)
    rw [hm.2.2.2.1]
    refine ok_ite (fun d => key _ ?_) (fun d => ok_t abD (key _ ?_))
    · have d := (nI_le' (by omega) (by omega)).mp d
      rw [hdw]; split <;> omega
    · have d : ¬ sW s + 1 ≤ fD f := fun e => d ((nI_le' (by omega) (by omega)).mpr e)
      rw [hdw]; split <;> omega
  · rw [if_neg c] at hx
    have hdw : dayW f s = sW s - 1 := if_neg c
    rw [hx]
    rcases Nat.eq_zero_or_pos (sW s) with d | d
    · rw [d]
      exact ok_f (by decide) (key 0 (by rw [hdw, d]))
    · have e : nI (sW s) + (-1) = nI (sW s - 1) := by
        have : nI (sW s) - 1 = nI (sW s - 1) := pk_sub (b := 1) d
        rw [← this]; exact (Int32.sub_eq_add_neg _ _).symm
      rw [e]
      refine ok_t (by rw [lit 0, nI_le' (by decide) (by omega)]; omega) (ok_nn hP4 (ok_t abD ?_))
      show OkP _ (if nI (sW s - 1) ≤ D 101 1 then f_M_passOn_165 N nx D P 97 q q 1 (nI (sW s - 1)) else _)
      rw [hm.2.2.2.1]
      exact ok_t (by rw [nI_le' (by omega) (by omega)]; omega) (key _ hdw.symm)
theorem M_passOn_ok (hP : PB P) (hn : 117 ≤ nx) (hm : MF D f) (hf : FamOK f) (hv : StOK f s) (hq : kd nx q = 30018) (hq2 : 104 < q) (hs : RStd (D q) 0 s) (hN : 100 ≤ N) : OkP (fun E => RStd (E q) 0 (day f s) ∧ FrO q D E) (f_M_passOn N nx D P 97 q) := by
  have hk := hf.2.2.1
  have hn5 := hf.2.1
  unfold f_M_passOn
  refine ok_t (kd_at (by omega) rfl) (ok_call (M_isFull_eq hP hn hm hf hv hq hs hN) ?_)
  refine wk2_run (I := fun t E i => i = nI t ∧ FrO q D E ∧ RStd (E q) 0 (mixS t s (dayS f s))) (fK f) N _ _ (by omega) ⟨rfl, fun x _ => rfl, hs.cong (fun t _ => ⟨by show mp (if t < 0 then dayP f s t else sP s t) = _; rw [if_neg (by omega)], by show (if t < 0 then dayZ f s t else sZ s t) = _; rw [if_neg (by omega)]⟩) rfl rfl⟩ ?_ ?_
  · rintro t ht E i ⟨rfl, hfr, hE⟩ rec hrec
    have hmE := hm.fo hfr hq2
    obtain ⟨m1, m2, m3⟩ := many_M hP hn hmE
    have ab2 : ab nx q 3 (nI (2 + t)) = true := ab_ok (t := 3) (N := 18) hq (by omega) (by decide)
    have ab10 : ab nx q 3 (nI (10 + t)) = true := ab_ok (t := 3) (N := 18) hq (by omega) (by decide)
    have hmp := mp_eq hf hv ht
    obtain ⟨v1, v2, v3⟩ := hv.1 t ht
    have eP : E q (2 + t) = nI (sP s t) := by rw [hE.pl (by omega), mix_at.1, hmp.1]
    have eZ : E q (10 + t) = nI (sZ s t) := by rw [hE.sz (by omega), mix_at.2]
    have eD : E q 0 = sD s := hE.day
    have hkind := (hf.2.2.2.2.2.2.2.2.2 t ht).2
    unfold f_M_passOn_8
    rw [ix2, ix10]
    refine ok_nn m1 (ok_t m2 ?_)
    rw [m3]
    refine ok_f (i2_lt ht (by omega)) (ok_t ab2 ?_)
    rw [cl (by omega), cl (by omega), cl (by omega), eP, eZ]
    refine ok_ite (fun c => ?_) (fun c => ?_)
    · have c := (nI_le' (a := 6) (by decide) (by omega)).mp c
      rw [nI_1]
      exact hrec _ _ ⟨rfl, hfr, rsame hE (if_neg (by omega)) (if_neg (by omega))⟩
    · have c : sP s t < 6 := Nat.not_le.mp (fun d => c ((nI_le' (a := 6) (by decide) (by omega)).mpr d))
      have hg := M_grown_eq (N := N) (nx := nx) (D := E) (P := P) (k := fS f t) (z := sZ s t) (d := sD s) hkind ⟨v3 c, v2⟩
      have hg40 := gr_le (k := fS f t) (e := ev (sD s)) v2
      refine ok_t ab10 (ok_nn (hP.at (by decide) (show P0 97 7 = some 104 from rfl)) (ok_t (ab_ok (t := 3) (N := 16) (kd_at (by omega) rfl) (by omega) (by decide)) (ok_t (ab_ok (t := 3) (N := 18) hq (n := 0) (by decide) (by decide)) ?_)))
      show OkP _ ((f_M_grown N nx E P (nI (sZ s t)) (E 104 t) (E q 0)).bind _)
      rw [(hmE.2.2.2.2.2.2 t ht).2, eD]
      refine ok_call hg ?_
      have fin : ∀ z, z = gz f s t → ∀ i2 : Int32, OkP (fun E => RStd (E q) 0 (day f s) ∧ FrO q D E) (f_M_passOn_94 N nx rec E P 97 q i2 (nI t) (nI z) q (nI (10 + t)) (nI z)) := by
        intro z hz i2
        have hz40 := gz_le hv t
        refine pass94_ok hq (by omega) (by omega) (by rw [mix_at.1]; exact c) hE (fun F hF hF2 => hrec _ _ ⟨rfl, hfr.tr hF2, rmix ?_⟩)
        have e1 : sZ (dayS f s) t = z := by rw [hz]; exact if_pos c
        have e2 : sP (dayS f s) t = if z = 0 then 7 else sP (mixS t s (dayS f s)) t := by
          rw [mix_at.1, hz]; exact if_pos c
        rw [e1, e2]; exact hF
      have p75 : ∀ (i2 : Int32) (x : Nat), gr (fS f t) (sZ s t) (ev (sD s)) + x = gz f s t → OkP (fun E => RStd (E q) 0 (day f s) ∧ FrO q D E) (f_M_passOn_75 N nx rec E P 97 q i2 (nI t) (nI (gr (fS f t) (sZ s t) (ev (sD s)))) (nI x)) := by
        intro i2 x hx
        have hz40 := gz_le hv t
        unfold f_M_passOn_75
        rw [nI_add, ix10]
        exact ok_t (by rw [lit 0, nI_le' (by decide) (by omega)]; omega) (fin _ hx i2)
      by_cases d : full f s = true
      · rw [if_pos d]
        refine ok_f (by decide) (ok_t ab2 (ok_ite (fun e => ok_ite (fun e2 => ?_) (fun e2 => ?_)) (fun e => ?_)))
        · have e := (nI_inj (b := 5) (by omega) (by decide)).mp e
          have e2 := (nI_le' (a := 40) (by decide) (by omega)).mp e2
          refine p75 _ 0 ?_
          unfold gz
          rw [if_pos ⟨d, e⟩, if_neg (by omega)]; omega
        · have e := (nI_inj (b := 5) (by omega) (by decide)).mp e
          have e2 : ¬ 40 ≤ gr (fS f t) (sZ s t) (ev (sD s)) := fun w => e2 ((nI_le' (a := 40) (by decide) (by omega)).mpr w)
          refine p75 _ 1 ?_
          unfold gz
          rw [if_pos ⟨d, e⟩]; split <;> omega
        · have e : ¬ sP s t = 5 := fun w => e (by rw [w]; rfl)
          refine p75 _ 0 ?_
          unfold gz
          rw [if_neg (fun w => e w.2)]; rfl
      · rw [if_neg d]
        refine ok_t rfl (p75 _ 0 ?_)
        unfold gz
        rw [if_neg (fun w => d w.1)]; rfl
  · rintro E i ⟨rfl, hfr, hE⟩ rec
    have hmE := hm.fo hfr hq2
    obtain ⟨m1, m2, m3⟩ := many_M hP hn hmE
    have hE2 : RStd (E q) 0 (dayS f s) := by
      refine hE.cong (fun j hj => ⟨?_, ?_⟩) rfl rfl
      · show mp (dayP f s j) = mp (if j < fK f then dayP f s j else sP s j)
        by_cases c : j < fK f
        · rw [if_pos c]
        · have := (hv.2.1 j (by omega)).1
          rw [if_neg c, show dayP f s j = sP s j from if_neg (by omega)]
      · show dayZ f s j = (if j < fK f then dayZ f s j else sZ s j)
        by_cases c : j < fK f
        · rw [if_pos c]
        · have := (hv.2.1 j (by omega)).1
          rw [if_neg c, show dayZ f s j = sZ s j from if_neg (by omega)]
    have eW : E q 1 = nI (sW s) := hE.wal
    have last : ∀ x, x = (if full f s = true then (1 : Int32) else -1) → OkP (fun E => RStd (E q) 0 (day f s) ∧ FrO q D E) (f_M_passOn_133 N nx E P 97 q (E q (1 : Int32).toNatClampNeg) x) := by
      intro x hx
      show OkP _ (f_M_passOn_133 N nx E P 97 q (E q 1) x)
      rw [eW]
      exact ok_imp (pass133_ok hP hn hmE hf hq hq2 hv hE2 hN hx) (fun F hF => ⟨hF.1, hfr.tr hF.2⟩)
    unfold f_M_passOn_8
    refine ok_nn m1 (ok_t m2 ?_)
    rw [m3]
    refine ok_t (i2_ge (Nat.le_refl _) (by omega)) (ok_t (ab_ok (t := 3) (N := 18) hq (n := 1) (by decide) (by decide)) ?_)
    by_cases d : full f s = true
    · rw [if_pos d]
      exact ok_f (by decide) (last 1 (by rw [if_pos d]))
    · rw [if_neg d]
      exact ok_t rfl (last (-1) (by rw [if_neg d]))
end ML
