/-! one item, all of them -/
def DR (D : Dt) (a : Nat) (d : Dr) : Prop := CF D a d.1 ∧ ∀ t, t < fK d.1 → D (a + 4) t = nI (d.2 t)
def DOK (d : Dr) : Prop := fN d.1 ≤ 5 ∧ fK d.1 ≤ 8 ∧ fR d.1 ≤ 60 ∧ (1 ≤ fD d.1 ∧ fD d.1 ≤ 20) ∧ (1 ≤ fQ d.1 ∧ fQ d.1 ≤ 30) ∧ (∀ p, p < fN d.1 → fC d.1 p ≤ 60) ∧ (∀ t, t < fK d.1 → fO d.1 t < fN d.1 ∧ fS d.1 t ≤ 3 ∧ 1 ≤ d.2 t ∧ d.2 t ≤ 20)
theorem DOK.fam {d : Dr} (h : DOK d) (h1 : 1 ≤ fN d.1) : FamOK d.1 := ⟨h1, h.1, h.2.1, h.2.2.1, h.2.2.2.1.1, h.2.2.2.1.2, h.2.2.2.2.1.1, h.2.2.2.2.1.2, h.2.2.2.2.2.1, fun t ht => ⟨(h.2.2.2.2.2.2 t ht).1, (h.2.2.2.2.2.2 t ht).2.1⟩⟩
theorem DOK.z : DOK dr0 := ⟨by decide, by decide, by decide, by decide, by decide, fun p h => absurd h (Nat.not_lt_zero p), fun t h => absurd h (Nat.not_lt_zero t)⟩
theorem DOK.h {d : Dr} (h : DOK d) {a b c : Nat} (q : a ≤ 60 ∧ (1 ≤ b ∧ b ≤ 20) ∧ (1 ≤ c ∧ c ≤ 30)) : DOK (drH d a b c) := ⟨h.1, h.2.1, q.1, q.2.1, q.2.2, h.2.2.2.2.2.1, h.2.2.2.2.2.2⟩
theorem DOK.p {d : Dr} (h : DOK d) {a : Nat} (q : a ≤ 60 ∧ fN d.1 < 5) : DOK (drP d a) := by
  refine ⟨by show fN d.1 + 1 ≤ 5; omega, h.2.1, h.2.2.1, h.2.2.2.1, h.2.2.2.2.1, fun p hp => ?_, fun t ht => ?_⟩
  · show (if p = fN d.1 then a else fC d.1 p) ≤ 60
    have hp : p < fN d.1 + 1 := hp
    split
    · exact q.1
    · exact h.2.2.2.2.2.1 p (by omega)
  · have := h.2.2.2.2.2.2 t ht
    exact ⟨by show fO d.1 t < fN d.1 + 1; omega, this.2⟩
theorem DOK.t {d : Dr} (h : DOK d) {a b c : Nat} (q : a < fN d.1 ∧ b ≤ 3 ∧ (1 ≤ c ∧ c ≤ 20) ∧ fK d.1 < 8) : DOK (drT d a b c) := by
  refine ⟨h.1, by show fK d.1 + 1 ≤ 8; omega, h.2.2.1, h.2.2.2.1, h.2.2.2.2.1, h.2.2.2.2.2.1, fun t ht => ?_⟩
  have ht : t < fK d.1 + 1 := ht
  show (if t = fK d.1 then a else fO d.1 t) < fN d.1 ∧ (if t = fK d.1 then b else fS d.1 t) ≤ 3 ∧ 1 ≤ (if t = fK d.1 then c else d.2 t) ∧ (if t = fK d.1 then c else d.2 t) ≤ 20
  by_cases w : t = fK d.1
  · rw [if_pos w, if_pos w, if_pos w]; exact ⟨q.1, q.2.1, q.2.2.1⟩
  · rw [if_neg w, if_neg w, if_neg w]; exact h.2.2.2.2.2.2 t (by omega)
theorem rdItem_ok {m i : Nat} {v : Nat → Nat} {d : Dr} {x : Dr × Nat} (h : rdItem m v i d = some x) (hd : DOK d) : DOK x.1 ∧ i < x.2 ∧ x.2 ≤ m := by
  have tri_lt : ∀ y, tri m v (i + 1) = some y → i + 1 < y.2.2.2 ∧ y.2.2.2 ≤ m := by
    intro y hy
    unfold tri at hy
    cases e : stp m v (i + 1) 44 with
    | none => rw [e] at hy; cases hy
    | some a =>
      rw [e] at hy
      have hy : (stp m v a.2 44).bind (fun y => (stp m v y.2 59).bind fun z => some (a.1, y.1, z.1, z.2)) = some y := hy
      cases e2 : stp m v a.2 44 with
      | none => rw [e2] at hy; cases hy
      | some b =>
        rw [e2] at hy
        have hy : ((stp m v b.2 59).bind fun z => some (a.1, b.1, z.1, z.2)) = some y := hy
        cases e3 : stp m v b.2 59 with
        | none => rw [e3] at hy; cases hy
        | some c =>
          rw [e3] at hy
          have h1 := stp_lt e (by decide)
          have h2 := stp_lt e2 (by decide)
          have h3 := stp_lt e3 (by decide)
          cases hy
          exact ⟨by show i + 1 < c.2; omega, h3.2.2⟩
  unfold rdItem at h
  split at h
  · cases e : tri m v (i + 1) with
    | none => rw [e] at h; cases h
    | some y =>
      rw [e, bnd_some] at h
      split at h
      · rename_i q
        have := tri_lt y e
        cases h
        exact ⟨hd.h q, by show i < y.2.2.2; omega, this.2⟩
      · cases h
  · split at h
    · cases e : stp m v (i + 1) 59 with
      | none => rw [e] at h; cases h
      | some y =>
        rw [e, bnd_some] at h
        split at h
        · rename_i q
          have := stp_lt e (by decide)
          cases h
          exact ⟨hd.p q, by show i < y.2; omega, this.2.2⟩
        · cases h
    · split at h
      · cases e : tri m v (i + 1) with
        | none => rw [e] at h; cases h
        | some y =>
          rw [e, bnd_some] at h
          split at h
          · rename_i q
            have := tri_lt y e
            cases h
            exact ⟨hd.t q, by show i < y.2.2.2; omega, this.2⟩
          · cases h
      · cases h
def FrQ (D E : Dt) : Prop := ∀ q, q < 9 ∨ 13 < q → E q = D q
def FrD (D E : Dt) : Prop := (∀ q, q ≠ 1 → q ≠ 3 → (q < 9 ∨ 13 < q) → E q = D q) ∧ ∀ k, k ≠ 3 → E 1 k = D 1 k
theorem FrD.rf {D : Dt} : FrD D D := ⟨fun _ _ _ _ => rfl, fun _ _ => rfl⟩
theorem FrD.tr {D E F : Dt} (h : FrD D E) (g : FrD E F) : FrD D F := ⟨fun q a b c => (g.1 q a b c).trans (h.1 q a b c), fun k a => (g.2 k a).trans (h.2 k a)⟩
theorem FrD.ofT {D E : Dt} (h : FrT D E) : FrD D E := ⟨fun q a b _ => h.1 q a b, h.2⟩
theorem FrD.ofQ {D E : Dt} (h : FrQ D E) : FrD D E := ⟨fun q _ _ c => h q c, fun k _ => by rw [h 1 (by decide)]⟩
theorem TX.frD {D E : Dt} {m : Nat} {v : Nat → Nat} (h : TX D m v) (g : FrD D E) : TX E m v := by
  unfold TX
  rw [g.1 2 (by decide) (by decide) (by decide), g.2 2 (by decide)]; exact h
theorem CF.nn {D E : Dt} {a : Nat} {f : Fam} (h : CF D a f) (h0 : E a = D a) (h1 : E (a + 1) = D (a + 1)) (h2 : E (a + 2) = D (a + 2)) (h3 : E (a + 3) = D (a + 3)) : CF E a f := by
  unfold CF; rw [h0, h1, h2, h3]; exact h
theorem DR.nn {D E : Dt} {a : Nat} {d : Dr} (h : DR D a d) (h0 : ∀ q, a ≤ q → q ≤ a + 4 → E q = D q) : DR E a d := ⟨h.1.nn (h0 _ (by omega) (by omega)) (h0 _ (by omega) (by omega)) (h0 _ (by omega) (by omega)) (h0 _ (by omega) (by omega)), by rw [h0 (a + 4) (by omega) (by omega)]; exact h.2⟩
section IT
variable {N nx m i a b c : Nat} {D : Dt} {P : Ft} {v : Nat → Nat} {d : Dr}
theorem setHeart_ok (hf : FaA nx P 9) (h : DR D 9 d) (ha : a < 100) (hb : b < 100) (hc : c < 100) : OkP (fun z => FrQ D z.2 ∧ if a ≤ 60 ∧ (1 ≤ b ∧ b ≤ 20) ∧ (1 ≤ c ∧ c ≤ 30) then z.1 = (1 : Int32) ∧ DR z.2 9 (drH d a b c) else z.1 = 0) (f_F_setHeart N nx D P 9 (nI a) (nI b) (nI c)) := by
  unfold f_F_setHeart
  have e1 : ∀ D, f_H_isWithin N nx D P (nI a) 0 60 = some (if 0 ≤ a ∧ a ≤ 60 then 1 else 0) := fun D => isWithin_eq (a := 0) (b := 60) (by omega) (by decide) (by decide)
  have e2 : ∀ D, f_H_isWithin N nx D P (nI b) 1 20 = some (if 1 ≤ b ∧ b ≤ 20 then 1 else 0) := fun D => isWithin_eq (a := 1) (b := 20) (by omega) (by decide) (by decide)
  have e3 : ∀ D, f_H_isWithin N nx D P (nI c) 1 30 = some (if 1 ≤ c ∧ c ≤ 30 then 1 else 0) := fun D => isWithin_eq (a := 1) (b := 30) (by omega) (by decide) (by decide)
  refine ok_t hf.1 (ok_call (e1 D) ?_)
  by_cases q1 : 0 ≤ a ∧ a ≤ 60
  · rw [if_pos q1]
    refine ok_f (by decide) (ok_call (e2 D) ?_)
    by_cases q2 : 1 ≤ b ∧ b ≤ 20
    · rw [if_pos q2]
      refine ok_f (by decide) (ok_call (e3 D) ?_)
      by_cases q3 : 1 ≤ c ∧ c ≤ 30
      · rw [if_pos q3]
        refine ok_f (by decide) (ok_pas (ok_pas (ok_pas (ok_some ⟨?_, ?_⟩))))
        · intro q hq
          show upd2 (upd2 (upd2 D 9 6 (nI a)) 9 7 (nI b)) 9 8 (nI c) q = _
          rw [upd2_n (by omega), upd2_n (by omega), upd2_n (by omega)]
        · rw [if_pos ⟨q1.2, q2, q3⟩]
          obtain ⟨⟨h4, h5, h6, h7, h8, hp, ht⟩, hl⟩ := h
          refine ⟨rfl, ⟨?_, ?_, ?_, ?_, ?_, fun p hp' => ?_, fun t ht' => ?_⟩, fun t ht' => ?_⟩
          · show upd2 (upd2 (upd2 D 9 6 (nI a)) 9 7 (nI b)) 9 8 (nI c) 9 4 = _
            rw [upd2_s, upd_n (by decide), upd2_s, upd_n (by decide), upd2_s, upd_n (by decide)]; exact h4
          · show upd2 (upd2 (upd2 D 9 6 (nI a)) 9 7 (nI b)) 9 8 (nI c) 9 5 = _
            rw [upd2_s, upd_n (by decide), upd2_s, upd_n (by decide), upd2_s, upd_n (by decide)]; exact h5
          · show upd2 (upd2 (upd2 D 9 6 (nI a)) 9 7 (nI b)) 9 8 (nI c) 9 6 = _
            rw [upd2_s, upd_n (by decide), upd2_s, upd_n (by decide), upd2_s, upd_s]; rfl
          · show upd2 (upd2 (upd2 D 9 6 (nI a)) 9 7 (nI b)) 9 8 (nI c) 9 7 = _
            rw [upd2_s, upd_n (by decide), upd2_s, upd_s]; rfl
          · show upd2 (upd2 (upd2 D 9 6 (nI a)) 9 7 (nI b)) 9 8 (nI c) 9 8 = _
            rw [upd2_s, upd_s]; rfl
          · show upd2 (upd2 (upd2 D 9 6 (nI a)) 9 7 (nI b)) 9 8 (nI c) 10 p = _
            rw [upd2_n (by decide), upd2_n (by decide), upd2_n (by decide)]; exact hp p hp'
          · show upd2 (upd2 (upd2 D 9 6 (nI a)) 9 7 (nI b)) 9 8 (nI c) 11 t = _ ∧ upd2 (upd2 (upd2 D 9 6 (nI a)) 9 7 (nI b)) 9 8 (nI c) 12 t = _
            rw [upd2_n (by decide), upd2_n (by decide), upd2_n (by decide), upd2_n (by decide), upd2_n (by decide), upd2_n (by decide)]; exact ht t ht'
          · show upd2 (upd2 (upd2 D 9 6 (nI a)) 9 7 (nI b)) 9 8 (nI c) 13 t = _
            rw [upd2_n (by decide), upd2_n (by decide), upd2_n (by decide)]; exact hl t ht'
      · rw [if_neg q3]
        exact ok_t rfl (ok_some ⟨fun q _ => rfl, by rw [if_neg (by exact fun e => q3 e.2.2)]⟩)
    · rw [if_neg q2]
      exact ok_t rfl (ok_some ⟨fun q _ => rfl, by rw [if_neg (by exact fun e => q2 e.2.1)]⟩)
  · rw [if_neg q1]
    exact ok_t rfl (ok_some ⟨fun q _ => rfl, by rw [if_neg (by exact fun e => q1 ⟨Nat.zero_le _, e.1⟩)]⟩)
theorem addPerson_ok (hf : FaA nx P 9) (h : DR D 9 d) (hd : DOK d) (ha : a < 100) : OkP (fun z => FrQ D z.2 ∧ if a ≤ 60 ∧ fN d.1 < 5 then z.1 = (1 : Int32) ∧ DR z.2 9 (drP d a) else z.1 = 0) (f_F_addPerson N nx D P 9 (nI a)) := by
  have hn5 := hd.1
  have e1 : ∀ D, f_H_isWithin N nx D P (nI a) 0 60 = some (if 0 ≤ a ∧ a ≤ 60 then 1 else 0) := fun D => isWithin_eq (a := 0) (b := 60) (by omega) (by decide) (by decide)
  have e2 : ∀ D, f_H_isWithin N nx D P (nI (fN d.1)) 0 4 = some (if 0 ≤ fN d.1 ∧ fN d.1 ≤ 4 then 1 else 0) := fun D => isWithin_eq (a := 0) (b := 4) (by omega) (by decide) (by decide)
  obtain ⟨⟨h4, h5, h6, h7, h8, hp, ht⟩, hl⟩ := h
  unfold f_F_addPerson
  rw [h4]
  refine ok_t hf.1 (ok_call (e1 D) ?_)
  by_cases q1 : 0 ≤ a ∧ a ≤ 60
  · rw [if_pos q1]
    refine ok_f (by decide) (ok_call (e2 D) ?_)
    by_cases q2 : 0 ≤ fN d.1 ∧ fN d.1 ≤ 4
    · rw [if_pos q2]
      refine ok_f (by decide) (ok_nn hf.2.2.2.2.2.1 (ok_t (ab_ok (t := 3) (N := 5) hf.2.1 (by omega) (by decide)) (ok_pas (ok_pas ?_))))
      rw [cl (by omega), upd2_n (show 9 ≠ 10 by decide), h4, nI_1]
      refine ok_some ⟨?_, ?_⟩
      · intro q hq
        show upd2 (upd2 D 10 (fN d.1) (nI a)) 9 4 (nI (fN d.1 + 1)) q = _
        rw [upd2_n (by omega), upd2_n (by omega)]
      · rw [if_pos ⟨q1.2, by omega⟩]
        refine ⟨rfl, ⟨?_, ?_, ?_, ?_, ?_, fun p hp' => ?_, fun t ht' => ?_⟩, fun t ht' => ?_⟩
        · show upd2 (upd2 D 10 (fN d.1) (nI a)) 9 4 (nI (fN d.1 + 1)) 9 4 = _
          rw [upd2_s, upd_s]; rfl
        · show upd2 (upd2 D 10 (fN d.1) (nI a)) 9 4 (nI (fN d.1 + 1)) 9 5 = _
          rw [upd2_s, upd_n (by decide), upd2_n (by decide)]; exact h5
        · show upd2 (upd2 D 10 (fN d.1) (nI a)) 9 4 (nI (fN d.1 + 1)) 9 6 = _
          rw [upd2_s, upd_n (by decide), upd2_n (by decide)]; exact h6
        · show upd2 (upd2 D 10 (fN d.1) (nI a)) 9 4 (nI (fN d.1 + 1)) 9 7 = _
          rw [upd2_s, upd_n (by decide), upd2_n (by decide)]; exact h7
        · show upd2 (upd2 D 10 (fN d.1) (nI a)) 9 4 (nI (fN d.1 + 1)) 9 8 = _
          rw [upd2_s, upd_n (by decide), upd2_n (by decide)]; exact h8
        · have hp' : p < fN d.1 + 1 := hp'
          show upd2 (upd2 D 10 (fN d.1) (nI a)) 9 4 (nI (fN d.1 + 1)) 10 p = nI (if p = fN d.1 then a else fC d.1 p)
          rw [upd2_n (by decide), upd2_s]
          by_cases w : p = fN d.1
          · rw [if_pos w, w, upd_s]
          · rw [if_neg w, upd_n w]; exact hp p (by omega)
        · show upd2 (upd2 D 10 (fN d.1) (nI a)) 9 4 (nI (fN d.1 + 1)) 11 t = _ ∧ upd2 (upd2 D 10 (fN d.1) (nI a)) 9 4 (nI (fN d.1 + 1)) 12 t = _
          rw [upd2_n (by decide), upd2_n (by decide), upd2_n (by decide), upd2_n (by decide)]; exact ht t ht'
        · show upd2 (upd2 D 10 (fN d.1) (nI a)) 9 4 (nI (fN d.1 + 1)) 13 t = _
          rw [upd2_n (by decide), upd2_n (by decide)]; exact hl t ht'
    · rw [if_neg q2]
      exact ok_t rfl (ok_some ⟨fun q _ => rfl, by rw [if_neg (by exact fun e => q2 ⟨Nat.zero_le _, by omega⟩)]⟩)
  · rw [if_neg q1]
    exact ok_t rfl (ok_some ⟨fun q _ => rfl, by rw [if_neg (by exact fun e => q1 ⟨Nat.zero_le _, e.1⟩)]⟩)
theorem hasPerson_n {f : Fam} {e : Nat} (hfa : FaA nx P e) (h4 : D e 4 = nI (fN f)) (hf : fN f ≤ 5) (ha : a < 100) : f_F_hasPerson N nx D P e (nI a) = some (if a < fN f then 1 else 0) := by
  unfold f_F_hasPerson
  rw [if_pos hfa.1, h4, if_neg (nI_nneg (by omega))]
  by_cases q : a < fN f
  · rw [if_neg (i2_lt q (by omega)), if_neg (by rw [lit 5, nI_le' (by decide) (by omega)]; omega), if_pos q]
  · rw [if_pos (i2_ge (by omega) (by omega)), if_neg q]
theorem addPin_ok (hf : FaA nx P 9) (h : DR D 9 d) (hd : DOK d) (ha : a < 100) (hb : b < 100) (hc : c < 100) : OkP (fun z => FrQ D z.2 ∧ if a < fN d.1 ∧ b ≤ 3 ∧ (1 ≤ c ∧ c ≤ 20) ∧ fK d.1 < 8 then z.1 = (1 : Int32) ∧ DR z.2 9 (drT d a b c) else z.1 = 0) (f_F_addPin N nx D P 9 (nI a) (nI b) (nI c)) := by
  have hn5 := hd.1
  have hk8 := hd.2.1
  obtain ⟨k0, k1, k2, k3, k4, p0, p1, p2, p3⟩ := id hf
  have e2 : ∀ D, f_H_isWithin N nx D P (nI b) 0 3 = some (if 0 ≤ b ∧ b ≤ 3 then 1 else 0) := fun D => isWithin_eq (a := 0) (b := 3) (by omega) (by decide) (by decide)
  have e3 : ∀ D, f_H_isWithin N nx D P (nI c) 1 20 = some (if 1 ≤ c ∧ c ≤ 20 then 1 else 0) := fun D => isWithin_eq (a := 1) (b := 20) (by omega) (by decide) (by decide)
  have e4 : ∀ D, f_H_isWithin N nx D P (nI (fK d.1)) 0 7 = some (if 0 ≤ fK d.1 ∧ fK d.1 ≤ 7 then 1 else 0) := fun D => isWithin_eq (a := 0) (b := 7) (by omega) (by decide) (by decide)
  obtain ⟨⟨h4, h5, h6, h7, h8, hp, ht⟩, hl⟩ := h
  unfold f_F_addPin
  rw [h5]
  refine ok_t k0 (ok_call (hasPerson_n hf h4 hn5 ha) ?_)
  by_cases q1 : a < fN d.1
  · rw [if_pos q1]
    refine ok_f (by decide) (ok_call (e2 D) ?_)
    by_cases q2 : 0 ≤ b ∧ b ≤ 3
    · rw [if_pos q2]
      refine ok_f (by decide) (ok_call (e3 D) ?_)
      by_cases q3 : 1 ≤ c ∧ c ≤ 20
      · rw [if_pos q3]
        refine ok_f (by decide) (ok_call (e4 D) ?_)
        by_cases q4 : 0 ≤ fK d.1 ∧ fK d.1 ≤ 7
        · rw [if_pos q4]
          refine ok_f (by decide) (ok_nn p1 (ok_t (ab_ok (t := 3) (N := 8) k2 (by omega) (by decide)) (ok_pas ?_)))
          rw [cl (by omega), upd2_n (show 9 ≠ 11 by decide), h5]
          refine ok_nn p2 (ok_t (ab_ok (t := 3) (N := 8) k3 (by omega) (by decide)) (ok_pas ?_))
          rw [cl (by omega), upd2_n (show 9 ≠ 12 by decide), upd2_n (show 9 ≠ 11 by decide), h5]
          refine ok_nn p3 (ok_t (ab_ok (t := 3) (N := 8) k4 (by omega) (by decide)) (ok_pas (ok_pas ?_)))
          rw [cl (by omega), upd2_n (show 9 ≠ 13 by decide), upd2_n (show 9 ≠ 12 by decide), upd2_n (show 9 ≠ 11 by decide), h5, nI_1]
          refine ok_some ⟨?_, ?_⟩
          · intro q hq
            show upd2 (upd2 (upd2 (upd2 D 11 (fK d.1) (nI a)) 12 (fK d.1) (nI b)) 13 (fK d.1) (nI c)) 9 5 (nI (fK d.1 + 1)) q = _
            rw [upd2_n (by omega), upd2_n (by omega), upd2_n (by omega), upd2_n (by omega)]
          · rw [if_pos ⟨q1, q2.2, q3, by omega⟩]
            have hx : ∀ k, k ≠ 5 → upd2 (upd2 (upd2 (upd2 D 11 (fK d.1) (nI a)) 12 (fK d.1) (nI b)) 13 (fK d.1) (nI c)) 9 5 (nI (fK d.1 + 1)) 9 k = D 9 k := by
              intro k hk
              rw [upd2_s, upd_n hk, upd2_n (by decide), upd2_n (by decide), upd2_n (by decide)]
            refine ⟨rfl, ⟨(hx 4 (by decide)).trans h4, ?_, (hx 6 (by decide)).trans h6, (hx 7 (by decide)).trans h7, (hx 8 (by decide)).trans h8, fun p hp' => ?_, fun t ht' => ?_⟩, fun t ht' => ?_⟩
            · show upd2 (upd2 (upd2 (upd2 D 11 (fK d.1) (nI a)) 12 (fK d.1) (nI b)) 13 (fK d.1) (nI c)) 9 5 (nI (fK d.1 + 1)) 9 5 = _
              rw [upd2_s, upd_s]; rfl
            · show upd2 (upd2 (upd2 (upd2 D 11 (fK d.1) (nI a)) 12 (fK d.1) (nI b)) 13 (fK d.1) (nI c)) 9 5 (nI (fK d.1 + 1)) 10 p = _
              rw [upd2_n (by decide), upd2_n (by decide), upd2_n (by decide), upd2_n (by decide)]; exact hp p hp'
            · have ht' : t < fK d.1 + 1 := ht'
              show upd2 (upd2 (upd2 (upd2 D 11 (fK d.1) (nI a)) 12 (fK d.1) (nI b)) 13 (fK d.1) (nI c)) 9 5 (nI (fK d.1 + 1)) 11 t = nI (if t = fK d.1 then a else fO d.1 t) ∧ upd2 (upd2 (upd2 (upd2 D 11 (fK d.1) (nI a)) 12 (fK d.1) (nI b)) 13 (fK d.1) (nI c)) 9 5 (nI (fK d.1 + 1)) 12 t = nI (if t = fK d.1 then b else fS d.1 t)
              rw [upd2_n (by decide), upd2_n (by decide), upd2_n (by decide), upd2_s, upd2_n (by decide), upd2_n (by decide), upd2_s, upd2_n (by decide)]
              by_cases w : t = fK d.1
              · rw [if_pos w, if_pos w, w, upd_s, upd_s]; exact ⟨rfl, rfl⟩
              · rw [if_neg w, if_neg w, upd_n w, upd_n w]; exact ht t (by omega)
            · have ht' : t < fK d.1 + 1 := ht'
              show upd2 (upd2 (upd2 (upd2 D 11 (fK d.1) (nI a)) 12 (fK d.1) (nI b)) 13 (fK d.1) (nI c)) 9 5 (nI (fK d.1 + 1)) 13 t = nI (if t = fK d.1 then c else d.2 t)
              rw [upd2_n (by decide), upd2_s]
              by_cases w : t = fK d.1
              · rw [if_pos w, w, upd_s]
              · rw [if_neg w, upd_n w, upd2_n (by decide), upd2_n (by decide)]; exact hl t (by omega)
        · rw [if_neg q4]
          exact ok_t rfl (ok_some ⟨fun q _ => rfl, by rw [if_neg (by exact fun e => q4 ⟨Nat.zero_le _, by omega⟩)]⟩)
      · rw [if_neg q3]
        exact ok_t rfl (ok_some ⟨fun q _ => rfl, by rw [if_neg (by exact fun e => q3 e.2.2.1)]⟩)
    · rw [if_neg q2]
      exact ok_t rfl (ok_some ⟨fun q _ => rfl, by rw [if_neg (by exact fun e => q2 ⟨Nat.zero_le _, e.2.1⟩)]⟩)
  · rw [if_neg q1]
    exact ok_t rfl (ok_some ⟨fun q _ => rfl, by rw [if_neg (by exact fun e => q1 e.1)]⟩)
theorem readItem_ok (hP : PB P) (hn : 97 ≤ nx) (h : TX D m v) (hdr : DR D 9 d) (hd : DOK d) (h3 : D 1 3 = nI i) (hi : i < m) (hN : 100 ≤ N) : OkP (fun z => FrD D z.2 ∧ match rdItem m v i d with | none => z.1 = (0 : Int32) | some x => z.1 = (1 : Int32) ∧ DR z.2 9 x.1 ∧ z.2 1 3 = nI x.2) (f_T_readItem N nx D P 1 9) := by
  have hm := h.2.1
  have hl := la_le (i := i) h
  have hf := FaA.of9 hP hn
  have hk3 : kd nx 3 = 30003 := kd_at (by omega) rfl
  have hq1 : P 1 1 = some 3 := hP.at (by decide) rfl
  have fA : FrT D (upd2 D 1 3 (nI (i + 1))) := FrT.at
  have hA : upd2 D 1 3 (nI (i + 1)) 1 3 = nI (i + 1) := by rw [upd2_s, upd_s]
  have dr_of : ∀ E, FrT D E → DR E 9 d := fun E hE => hdr.nn (fun q h1 h2 => hE.1 q (by omega) (by omega))
  have pos_of : ∀ E F : Dt, FrQ E F → F 1 3 = E 1 3 := fun E F hE => by rw [hE 1 (by decide)]
  have tri_b : ∀ x, tri m v (i + 1) = some x → x.1 < 100 ∧ x.2.1 < 100 ∧ x.2.2.1 < 100 := by
    intro y hy
    unfold tri at hy
    cases e : stp m v (i + 1) 44 with
    | none => rw [e] at hy; cases hy
    | some a =>
      rw [e] at hy
      have hy : (stp m v a.2 44).bind (fun y => (stp m v y.2 59).bind fun z => some (a.1, y.1, z.1, z.2)) = some y := hy
      cases e2 : stp m v a.2 44 with
      | none => rw [e2] at hy; cases hy
      | some b =>
        rw [e2] at hy
        have hy : ((stp m v b.2 59).bind fun z => some (a.1, b.1, z.1, z.2)) = some y := hy
        cases e3 : stp m v b.2 59 with
        | none => rw [e3] at hy; cases hy
        | some c =>
          rw [e3] at hy
          have h1 := stp_lt e (by decide)
          have h2 := stp_lt e2 (by decide)
          have h3 := stp_lt e3 (by decide)
          cases hy
          exact ⟨h1.1, h2.1, h3.1⟩
  have c1 : (nI (la m v i) = 104) ↔ la m v i = 104 := by rw [lit 104, nI_inj (by omega) (by decide)]
  have c2 : (nI (la m v i) = 112) ↔ la m v i = 112 := by rw [lit 112, nI_inj (by omega) (by decide)]
  have c3 : (nI (la m v i) = 116) ↔ la m v i = 116 := by rw [lit 116, nI_inj (by omega) (by decide)]
  unfold f_T_readItem
  rw [h3]
  refine ok_t (kd_at (by omega) rfl) (ok_call (letterAt_eq hP hn h (by omega)) (ok_pas ?_))
  rw [nI_1]
  by_cases q1 : la m v i = 104
  · refine ok_t (c1.mpr q1) (ok_bind (rn3_ok hP hn (h.fr fA) hA hi hN) ?_)
    rintro ⟨z, E⟩ ⟨hfr, hz⟩
    have hfr : FrT _ E := hfr
    have hfE := fA.tr hfr
    cases e : tri m v (i + 1) with
    | none =>
      rw [e] at hz
      have hz : z = 0 := hz
      have er : rdItem m v i d = none := by unfold rdItem; rw [if_pos q1, e]; rfl
      rw [er]
      exact ok_t hz (ok_some ⟨FrD.ofT hfE, rfl⟩)
    | some x =>
      rw [e] at hz
      obtain ⟨z1, za, zb, zc, zj⟩ : z = 1 ∧ E 3 0 = nI x.1 ∧ E 3 1 = nI x.2.1 ∧ E 3 2 = nI x.2.2.1 ∧ E 1 3 = nI x.2.2.2 := hz
      have hb := tri_b x e
      have er : rdItem m v i d = if x.1 ≤ 60 ∧ (1 ≤ x.2.1 ∧ x.2.1 ≤ 20) ∧ (1 ≤ x.2.2.1 ∧ x.2.2.1 ≤ 30) then some (drH d x.1 x.2.1 x.2.2.1, x.2.2.2) else none := by unfold rdItem; rw [if_pos q1, e]; rfl
      rw [er]
      refine ok_f (by show ¬ z = 0; rw [z1]; decide) (ok_nn hq1 (ok_t (ab_ok (t := 3) (N := 3) hk3 (n := 0) (by decide) (by decide)) (ok_t (ab_ok (t := 3) (N := 3) hk3 (n := 1) (by decide) (by decide)) (ok_t (ab_ok (t := 3) (N := 3) hk3 (n := 2) (by decide) (by decide)) (ok_t hf.1 ?_)))))
      show OkP _ ((f_F_setHeart N nx E P 9 (E 3 0) (E 3 1) (E 3 2)).bind _)
      rw [za, zb, zc]
      refine ok_bind (setHeart_ok hf (dr_of E hfE) hb.1 hb.2.1 hb.2.2) ?_
      rintro ⟨w, F⟩ ⟨hQ, hw⟩
      have hQ : FrQ E F := hQ
      by_cases qc : x.1 ≤ 60 ∧ (1 ≤ x.2.1 ∧ x.2.1 ≤ 20) ∧ (1 ≤ x.2.2.1 ∧ x.2.2.1 ≤ 30)
      · rw [if_pos qc] at hw ⊢
        have hw1 : w = 1 := hw.1
        refine ok_f (by show ¬ w = 0; rw [hw1]; decide) (ok_some ⟨(FrD.ofT hfE).tr (FrD.ofQ hQ), rfl, hw.2, (pos_of E F hQ).trans zj⟩)
      · rw [if_neg qc] at hw ⊢
        exact ok_t hw (ok_some ⟨(FrD.ofT hfE).tr (FrD.ofQ hQ), rfl⟩)
  · refine ok_f (fun e => q1 (c1.mp e)) ?_
    by_cases q2 : la m v i = 112
    · refine ok_t (c2.mpr q2) (ok_bind (rn1_ok hP hn (h.fr fA) hA hi hN) ?_)
      rintro ⟨z, E⟩ ⟨hfr, hz⟩
      have hfr : FrT _ E := hfr
      have hfE := fA.tr hfr
      cases e : stp m v (i + 1) 59 with
      | none =>
        rw [e] at hz
        have hz : z = 0 := hz
        have er : rdItem m v i d = none := by unfold rdItem; rw [if_neg q1, if_pos q2, e]; rfl
        rw [er]
        exact ok_t hz (ok_some ⟨FrD.ofT hfE, rfl⟩)
      | some x =>
        rw [e] at hz
        obtain ⟨z1, za, zj⟩ : z = 1 ∧ E 3 0 = nI x.1 ∧ E 1 3 = nI x.2 := hz
        have hb := stp_lt e (by decide)
        have er : rdItem m v i d = if x.1 ≤ 60 ∧ fN d.1 < 5 then some (drP d x.1, x.2) else none := by unfold rdItem; rw [if_neg q1, if_pos q2, e]; rfl
        rw [er]
        refine ok_f (by show ¬ z = 0; rw [z1]; decide) (ok_nn hq1 (ok_t (ab_ok (t := 3) (N := 3) hk3 (n := 0) (by decide) (by decide)) (ok_t hf.1 ?_)))
        show OkP _ ((f_F_addPerson N nx E P 9 (E 3 0)).bind _)
        rw [za]
        refine ok_bind (addPerson_ok hf (dr_of E hfE) hd hb.1) ?_
        rintro ⟨w, F⟩ ⟨hQ, hw⟩
        have hQ : FrQ E F := hQ
        by_cases qc : x.1 ≤ 60 ∧ fN d.1 < 5
        · rw [if_pos qc] at hw ⊢
          have hw1 : w = 1 := hw.1
          refine ok_f (by show ¬ w = 0; rw [hw1]; decide) (ok_some ⟨(FrD.ofT hfE).tr (FrD.ofQ hQ), rfl, hw.2, (pos_of E F hQ).trans zj⟩)
        · rw [if_neg qc] at hw ⊢
          exact ok_t hw (ok_some ⟨(FrD.ofT hfE).tr (FrD.ofQ hQ), rfl⟩)
    · refine ok_f (fun e => q2 (c2.mp e)) ?_
      by_cases q3 : la m v i = 116
      · refine ok_t (c3.mpr q3) (ok_bind (rn3_ok hP hn (h.fr fA) hA hi hN) ?_)
        rintro ⟨z, E⟩ ⟨hfr, hz⟩
        have hfr : FrT _ E := hfr
        have hfE := fA.tr hfr
        cases e : tri m v (i + 1) with
        | none =>
          rw [e] at hz
          have hz : z = 0 := hz
          have er : rdItem m v i d = none := by unfold rdItem; rw [if_neg q1, if_neg q2, if_pos q3, e]; rfl
          rw [er]
          exact ok_t hz (ok_some ⟨FrD.ofT hfE, rfl⟩)
        | some x =>
          rw [e] at hz
          obtain ⟨z1, za, zb, zc, zj⟩ : z = 1 ∧ E 3 0 = nI x.1 ∧ E 3 1 = nI x.2.1 ∧ E 3 2 = nI x.2.2.1 ∧ E 1 3 = nI x.2.2.2 := hz
          have hb := tri_b x e
          have er : rdItem m v i d = if x.1 < fN d.1 ∧ x.2.1 ≤ 3 ∧ (1 ≤ x.2.2.1 ∧ x.2.2.1 ≤ 20) ∧ fK d.1 < 8 then some (drT d x.1 x.2.1 x.2.2.1, x.2.2.2) else none := by unfold rdItem; rw [if_neg q1, if_neg q2, if_pos q3, e]; rfl
          rw [er]
          refine ok_f (by show ¬ z = 0; rw [z1]; decide) (ok_nn hq1 (ok_t (ab_ok (t := 3) (N := 3) hk3 (n := 0) (by decide) (by decide)) (ok_t (ab_ok (t := 3) (N := 3) hk3 (n := 1) (by decide) (by decide)) (ok_t (ab_ok (t := 3) (N := 3) hk3 (n := 2) (by decide) (by decide)) (ok_t hf.1 ?_)))))
          show OkP _ ((f_F_addPin N nx E P 9 (E 3 0) (E 3 1) (E 3 2)).bind _)
          rw [za, zb, zc]
          refine ok_bind (addPin_ok hf (dr_of E hfE) hd hb.1 hb.2.1 hb.2.2) ?_
          rintro ⟨w, F⟩ ⟨hQ, hw⟩
          have hQ : FrQ E F := hQ
          by_cases qc : x.1 < fN d.1 ∧ x.2.1 ≤ 3 ∧ (1 ≤ x.2.2.1 ∧ x.2.2.1 ≤ 20) ∧ fK d.1 < 8
          · rw [if_pos qc] at hw ⊢
            have hw1 : w = 1 := hw.1
            refine ok_f (by show ¬ w = 0; rw [hw1]; decide) (ok_some ⟨(FrD.ofT hfE).tr (FrD.ofQ hQ), rfl, hw.2, (pos_of E F hQ).trans zj⟩)
          · rw [if_neg qc] at hw ⊢
            exact ok_t hw (ok_some ⟨(FrD.ofT hfE).tr (FrD.ofQ hQ), rfl⟩)
      · have er : rdItem m v i d = none := by unfold rdItem; rw [if_neg q1, if_neg q2, if_neg q3]
        rw [er]
        exact ok_f (fun e => q3 (c3.mp e)) (ok_some ⟨FrD.ofT fA, rfl⟩)
theorem readInto_ok (hP : PB P) (hn : 97 ≤ nx) (h : TX D m v) (hN : 500 ≤ N) : OkP (fun z => FrD D z.2 ∧ match (rdAll m v 200 0 dr0).1 with | none => z.1 = (-4 : Int32) ∧ DR z.2 9 (rdAll m v 200 0 dr0).2 ∧ DOK (rdAll m v 200 0 dr0).2 | some p => z.1 = nI p ∧ p < m) (f_T_readInto N nx D P 1 9) := by
  have hm := h.2.1
  have hf := FaA.of9 hP hn
  unfold f_T_readInto f_F_clear
  refine ok_t (kd_at (by omega) rfl) (ok_t hf.1 (ok_bind (Q1 := fun E => FrQ D E ∧ DR E 9 dr0) (ok_t hf.1 (ok_pas (ok_pas (ok_pas (ok_pas (ok_pas (ok_some ⟨?_, ?_⟩))))))) ?_))
  · intro q hq
    show upd2 (upd2 (upd2 (upd2 (upd2 D 9 4 0) 9 5 0) 9 6 12) 9 7 5) 9 8 14 q = _
    rw [upd2_n (by omega), upd2_n (by omega), upd2_n (by omega), upd2_n (by omega), upd2_n (by omega)]
  · have hx : upd2 (upd2 (upd2 (upd2 (upd2 D 9 4 0) 9 5 0) 9 6 12) 9 7 5) 9 8 14 9 = upd (upd (upd (upd (upd (D 9) 4 0) 5 0) 6 12) 7 5) 8 14 := by
      rw [upd2_s, upd2_s, upd2_s, upd2_s, upd2_s]
    refine ⟨⟨?_, ?_, ?_, ?_, ?_, fun p hp => absurd hp (Nat.not_lt_zero p), fun t ht => absurd ht (Nat.not_lt_zero t)⟩, fun t ht => absurd ht (Nat.not_lt_zero t)⟩
    · show upd2 (upd2 (upd2 (upd2 (upd2 D 9 4 0) 9 5 0) 9 6 12) 9 7 5) 9 8 14 9 4 = _
      rw [hx]; rfl
    · show upd2 (upd2 (upd2 (upd2 (upd2 D 9 4 0) 9 5 0) 9 6 12) 9 7 5) 9 8 14 9 5 = _
      rw [hx]; rfl
    · show upd2 (upd2 (upd2 (upd2 (upd2 D 9 4 0) 9 5 0) 9 6 12) 9 7 5) 9 8 14 9 6 = _
      rw [hx]; rfl
    · show upd2 (upd2 (upd2 (upd2 (upd2 D 9 4 0) 9 5 0) 9 6 12) 9 7 5) 9 8 14 9 7 = _
      rw [hx]; rfl
    · show upd2 (upd2 (upd2 (upd2 (upd2 D 9 4 0) 9 5 0) 9 6 12) 9 7 5) 9 8 14 9 8 = _
      rw [hx]; rfl
  · rintro E ⟨hE1, hE2⟩
    refine ok_pas ?_
    have hfr0 : FrD D (upd2 E 1 3 0) := (FrD.ofQ hE1).tr (FrD.ofT FrT.at)
    refine wk2_run (I := fun t F i => FrD D F ∧ i = nI t ∧ ∃ p e, t ≤ p ∧ p ≤ m ∧ F 1 3 = nI p ∧ DR F 9 e ∧ DOK e ∧ rdAll m v (200 - t) p e = rdAll m v 200 0 dr0) 200 N _ _ (by omega) ⟨hfr0, rfl, 0, dr0, Nat.le_refl _, Nat.zero_le _, by rw [upd2_s, upd_s]; rfl, hE2.nn (fun q h1 h2 => upd2_n (by omega)), DOK.z, rfl⟩ ?_ ?_
    · rintro t ht F i ⟨hfr, rfl, p, e, htp, hpm, hp3, hdr, hd, heq⟩ rec hrec
      have hTX := h.frD hfr
      unfold f_T_readInto_11
      rw [hTX.1, hp3]
      refine ok_f (by rw [lit 200, nI_le' (by decide) (by omega)]; omega) ?_
      have e200 : 200 - t = (200 - (t + 1)) + 1 := by omega
      rw [e200] at heq
      by_cases q : m ≤ p
      · have : rdAll m v 200 0 dr0 = (none, e) := by
          rw [← heq]; unfold rdAll; rw [if_pos q]
        rw [this]
        exact ok_t (i2_ge q (by omega)) (ok_some ⟨hfr, rfl, hdr, hd⟩)
      · refine ok_f (i2_lt (by omega) (by omega)) (ok_bind (readItem_ok hP hn hTX hdr hd hp3 (by omega) (by omega)) ?_)
        rintro ⟨z, G⟩ ⟨hG, hz⟩
        have hG : FrD F G := hG
        unfold rdAll at heq
        rw [if_neg q] at heq
        cases er : rdItem m v p e with
        | none =>
          rw [er] at heq hz
          have hz : z = 0 := hz
          have heq : (some p, e) = rdAll m v 200 0 dr0 := heq
          rw [← heq]
          exact ok_t hz (ok_some ⟨hfr.tr hG, rfl, by omega⟩)
        | some x =>
          rw [er] at heq hz
          obtain ⟨hz1, hz2, hz3⟩ : z = 1 ∧ DR G 9 x.1 ∧ G 1 3 = nI x.2 := hz
          have hx := rdItem_ok er hd
          refine ok_f (by show ¬ z = 0; rw [hz1]; decide) ?_
          show OkP _ (rec G (nI t + 1))
          rw [nI_1]
          exact hrec _ _ ⟨hfr.tr hG, rfl, x.2, x.1, by omega, hx.2.2, hz3, hz2, hx.1, heq⟩
    · rintro F i ⟨hfr, rfl, p, e, htp, hpm, hp3, hdr, hd, heq⟩ rec
      unfold f_T_readInto_11
      have : rdAll m v 200 0 dr0 = (none, e) := by
        rw [← heq]; show rdAll m v 0 p e = _; unfold rdAll; rw [if_pos (by omega)]
      rw [this]
      exact ok_t (by decide) (ok_some ⟨hfr, rfl, hdr, hd⟩)
end IT
