/-! the reference: one item -/
theorem tri_mk {m : Nat} {v : Nat → Nat} {p a b c p1 p3 p5 : Nat} (n1 : num m v p = some (a, p1)) (l1 : la m v p1 = 44) (n2 : num m v (p1 + 1) = some (b, p3)) (l2 : la m v p3 = 44) (n3 : num m v (p3 + 1) = some (c, p5)) (l3 : la m v p5 = 59) : tri m v p = some (a, b, c, p5 + 1) := by
  have s1 : stp m v p 44 = some (a, p1 + 1) := by unfold stp; rw [n1]; exact if_pos l1
  have s2 : stp m v (p1 + 1) 44 = some (b, p3 + 1) := by unfold stp; rw [n2]; exact if_pos l2
  have s3 : stp m v (p3 + 1) 59 = some (c, p5 + 1) := by unfold stp; rw [n3]; exact if_pos l3
  unfold tri
  rw [s1]
  show ((stp m v (p1 + 1) 44).bind fun y => (stp m v y.2 59).bind fun z => some (a, y.1, z.1, z.2)) = _
  rw [s2]
  show ((stp m v (p3 + 1) 59).bind fun z => some (a, b, z.1, z.2)) = _
  rw [s3]; rfl
theorem stp_el {m : Nat} {v : Nat → Nat} {p s : Nat} {x : Nat × Nat} (h : stp m v p s = some x) : ∃ j, num m v p = some (x.1, j) ∧ la m v j = s ∧ x.2 = j + 1 := by
  unfold stp at h
  cases e : num m v p with
  | none => rw [e] at h; cases h
  | some y =>
    rw [e] at h
    have h : (if la m v y.2 = s then some (y.1, y.2 + 1) else none) = some x := h
    by_cases c : la m v y.2 = s
    · rw [if_pos c] at h
      injection h with h
      rw [← h]
      exact ⟨y.2, rfl, c, rfl⟩
    · rw [if_neg c] at h; cases h
theorem tri_el {m : Nat} {v : Nat → Nat} {p : Nat} {x : Nat × Nat × Nat × Nat} (h : tri m v p = some x) : ∃ p1 p3 p5, num m v p = some (x.1, p1) ∧ la m v p1 = 44 ∧ num m v (p1 + 1) = some (x.2.1, p3) ∧ la m v p3 = 44 ∧ num m v (p3 + 1) = some (x.2.2.1, p5) ∧ la m v p5 = 59 ∧ x.2.2.2 = p5 + 1 := by
  unfold tri at h
  cases e : stp m v p 44 with
  | none => rw [e] at h; cases h
  | some a =>
    rw [e] at h
    have h : ((stp m v a.2 44).bind fun y => (stp m v y.2 59).bind fun z => some (a.1, y.1, z.1, z.2)) = some x := h
    cases e2 : stp m v a.2 44 with
    | none => rw [e2] at h; cases h
    | some b =>
      rw [e2] at h
      have h : ((stp m v b.2 59).bind fun z => some (a.1, b.1, z.1, z.2)) = some x := h
      cases e3 : stp m v b.2 59 with
      | none => rw [e3] at h; cases h
      | some c =>
        rw [e3] at h
        have h : some (a.1, b.1, c.1, c.2) = some x := h
        injection h with h
        obtain ⟨j1, a1, a2, a3⟩ := stp_el e
        obtain ⟨j2, b1, b2, b3⟩ := stp_el e2
        obtain ⟨j3, c1, c2, c3⟩ := stp_el e3
        rw [a3] at b1
        rw [b3] at c1
        rw [← h]
        exact ⟨j1, j2, j3, a1, a2, b1, b2, c1, c2, c3⟩
/-- the draft, in the reference -/
def DRm (E : Dt) (d : Dr) : Prop := E 99 1 = nI (fN d.1) ∧ E 100 1 = nI (fK d.1) ∧ E 101 3 = nI (fR d.1) ∧ E 101 4 = nI (fD d.1) ∧ E 101 5 = nI (fQ d.1) ∧ (∀ p, p < fN d.1 → E 102 (5 + p) = nI (fC d.1 p)) ∧ ∀ t, t < fK d.1 → E 103 (8 + t) = nI (fO d.1 t) ∧ E 104 (8 + t) = nI (fS d.1 t) ∧ E 105 (8 + t) = nI (d.2 t)
/-- only the draft has changed, and where it is read -/
def FrM (D E : Dt) : Prop := (∀ q, q < 97 ∨ q = 98 ∨ 105 < q → E q = D q) ∧ (∀ k, k ≠ 9 → k ≠ 10 → E 97 k = D 97 k) ∧ E 99 0 = D 99 0 ∧ E 100 0 = D 100 0 ∧ (∀ k, k < 3 → E 101 k = D 101 k) ∧ (∀ k, k < 5 → E 102 k = D 102 k) ∧ ∀ k, k < 8 → E 103 k = D 103 k ∧ E 104 k = D 104 k
theorem FrM.rf {D : Dt} : FrM D D := ⟨fun _ _ => rfl, fun _ _ _ => rfl, rfl, rfl, fun _ _ => rfl, fun _ _ => rfl, fun _ _ => ⟨rfl, rfl⟩⟩
theorem FrM.tr {D E F : Dt} (h : FrM D E) (k : FrM E F) : FrM D F := ⟨fun q a => (k.1 q a).trans (h.1 q a), fun j a b => (k.2.1 j a b).trans (h.2.1 j a b), k.2.2.1.trans h.2.2.1, k.2.2.2.1.trans h.2.2.2.1, fun j a => (k.2.2.2.2.1 j a).trans (h.2.2.2.2.1 j a), fun j a => (k.2.2.2.2.2.1 j a).trans (h.2.2.2.2.2.1 j a), fun j a => ⟨(k.2.2.2.2.2.2 j a).1.trans (h.2.2.2.2.2.2 j a).1, (k.2.2.2.2.2.2 j a).2.trans (h.2.2.2.2.2.2 j a).2⟩⟩
theorem FrA.m {D E : Dt} (h : FrA D E) : FrM D E := by
  refine ⟨fun q a => h.1 q (by omega), h.2, ?_, ?_, fun k _ => ?_, fun k _ => ?_, fun k _ => ⟨?_, ?_⟩⟩
  · rw [h.1 99 (by decide)]
  · rw [h.1 100 (by decide)]
  · rw [h.1 101 (by decide)]
  · rw [h.1 102 (by decide)]
  · rw [h.1 103 (by decide)]
  · rw [h.1 104 (by decide)]
theorem FrM.up {D : Dt} {a k : Nat} {x : Int32} (h : (a = 99 ∧ 1 ≤ k) ∨ (a = 100 ∧ 1 ≤ k) ∨ (a = 101 ∧ 3 ≤ k) ∨ (a = 102 ∧ 5 ≤ k) ∨ ((a = 103 ∨ a = 104) ∧ 8 ≤ k) ∨ a = 105) : FrM D (upd2 D a k x) := by
  have key : ∀ q j, q ≠ a ∨ j ≠ k → upd2 D a k x q j = D q j := fun q j h => by
    by_cases c : q = a
    · rw [c, upd2_s, upd_n (by omega)]
    · rw [upd2_n c]
  exact ⟨fun q b => upd2_n (by omega), fun j _ _ => key 97 j (by omega), key 99 0 (by omega), key 100 0 (by omega), fun j _ => key 101 j (by omega), fun j _ => key 102 j (by omega), fun j _ => ⟨key 103 j (by omega), key 104 j (by omega)⟩⟩
theorem TXm.frM {D E : Dt} {m : Nat} {v : Nat → Nat} (h : TXm D m v) (g : FrM D E) : TXm E m v := by
  unfold TXm
  rw [g.1 98 (by decide), g.2.1 1 (by decide) (by decide)]; exact h
theorem DRm.a {D E : Dt} {d : Dr} (h : DRm D d) (g : FrA D E) : DRm E d := by
  unfold DRm
  rw [g.1 99 (by decide), g.1 100 (by decide), g.1 101 (by decide), g.1 102 (by decide), g.1 103 (by decide), g.1 104 (by decide), g.1 105 (by decide)]
  exact h
def Res (D : Dt) (m : Nat) (v : Nat → Nat) (i : Nat) (d : Dr) (E : Dt) : Prop := FrM D E ∧ match rdItem m v i d with
  | none => E 97 10 = 1
  | some x => E 97 10 = 0 ∧ E 97 9 = nI x.2 ∧ DRm E x.1
theorem bI_f {b : Bool} (h : b = false) : bI b = 0 := by rw [h]; rfl
theorem bI_t {b : Bool} (h : b = true) : bI b = 1 := by rw [h]; rfl
theorem bI_z {b : Bool} : bI b = 0 ↔ b = false := by cases b <;> decide
section MU
variable {N nx m i : Nat} {D : Dt} {P : Ft} {v : Nat → Nat} {d : Dr}
/-- the sign behind an item -/
theorem item_end (hP : PB P) (hn : 117 ≤ nx) {E : Dt} {q : Nat} {w : Bool} (hT : TXm D m v) (hfr : FrM D E) (h9 : E 97 9 = nI q) (hq : q < 900) (h10 : E 97 10 = bI w) (hok : w = false → la m v q = 59 → ∃ x, rdItem m v i d = some x ∧ x.2 = q + 1 ∧ DRm E x.1) (hno : ∀ x, rdItem m v i d = some x → w = false ∧ la m v q = 59) : OkP (Res D m v i d) (f_M_readItem_78 N nx E P 97) := by
  unfold f_M_readItem_78
  refine ok_bind (M_due_ok (c := 59) hP hn (by decide) (by decide) (hT.frM hfr) h9 hq h10) (fun F hF => ok_some ⟨hfr.tr hF.1.m, ?_⟩)
  cases e : rdItem m v i d with
  | none =>
    show F 97 10 = 1
    rw [hF.2.2]
    refine bI_t ?_
    cases hw : w with
    | true => rfl
    | false =>
      by_cases c : la m v q = 59
      · obtain ⟨x, hx, -⟩ := hok hw c
        rw [e] at hx; cases hx
      · rw [decide_eq_false c]; rfl
  | some x =>
    obtain ⟨h1, h2⟩ := hno x e
    obtain ⟨y, hy, hy2, hy3⟩ := hok h1 h2
    rw [e] at hy
    injection hy with hy
    subst hy
    refine ⟨?_, ?_, hy3.a hF.1⟩
    · rw [hF.2.2, h1, decide_eq_true h2]; rfl
    · rw [hF.2.1, hy2]
theorem tellHeart_ok (hP : PB P) (hn : 117 ≤ nx) {a b c : Nat} (h : DRm D d) : OkP (fun E => FrM D E ∧ DRm E (drH d a b c) ∧ E 97 = D 97) (f_M_tellHeart N nx D P 97 (nI a) (nI b) (nI c)) := by
  have ab : ∀ j, j < 6 → ab nx 101 3 (nI j) = true := fun j hj => ab_ok (t := 3) (N := 6) (kd_at (by omega) rfl) hj (by decide)
  unfold f_M_tellHeart
  refine ok_t (kd_at (by omega) rfl) (ok_nn (hP.at (by decide) (show P0 97 4 = some 101 from rfl)) (ok_t (ab 3 (by decide)) (ok_pas (ok_t (ab 4 (by decide)) (ok_pas (ok_t (ab 5 (by decide)) (ok_pas (ok_some ⟨((FrM.up (by decide)).tr (FrM.up (by decide))).tr (FrM.up (by decide)), ?_, ?_⟩))))))))
  · obtain ⟨h1, h2, h3, h4, h5, h6, h7⟩ := h
    have e : ∀ q, q ≠ 101 → upd2 (upd2 (upd2 D 101 3 (nI a)) 101 4 (nI b)) 101 5 (nI c) q = D q := fun q hq => by rw [upd2_n hq, upd2_n hq, upd2_n hq]
    have e1 : upd2 (upd2 (upd2 D 101 3 (nI a)) 101 4 (nI b)) 101 5 (nI c) 101 = upd (upd (upd (D 101) 3 (nI a)) 4 (nI b)) 5 (nI c) := by rw [upd2_s, upd2_s, upd2_s]
    show DRm (upd2 (upd2 (upd2 D 101 3 (nI a)) 101 4 (nI b)) 101 5 (nI c)) (drH d a b c)
    unfold DRm
    rw [e 99 (by decide), e 100 (by decide), e 102 (by decide), e 103 (by decide), e 104 (by decide), e 105 (by decide), e1]
    refine ⟨h1, h2, ?_, ?_, ?_, h6, h7⟩
    · rw [upd_n (by decide), upd_n (by decide), upd_s]; rfl
    · rw [upd_n (by decide), upd_s]; rfl
    · rw [upd_s]; rfl
  · show upd2 (upd2 (upd2 D 101 3 (nI a)) 101 4 (nI b)) 101 5 (nI c) 97 = D 97
    rw [upd2_n (by decide), upd2_n (by decide), upd2_n (by decide)]
theorem le_nat {a b c : Nat} (ha : a < 100) (h : nI b ≤ nI a ∧ nI a ≤ nI c) (hb : b < 1000) (hc : c < 1000) : b ≤ a ∧ a ≤ c := by
  rw [nI_le' (by omega) (by omega), nI_le' (by omega) (by omega)] at h; exact h
theorem rdH_ok (hP : PB P) (hn : 117 ≤ nx) (hN : 100 ≤ N) (hT : TXm D m v) (hd : DRm D d) (h9 : D 97 9 = nI (i + 1)) (hi : i < 300) (h10 : D 97 10 = 0) (hl : la m v i = 104) : OkP (Res D m v i d) ((f_M_readHeart N nx D P 97).bind fun z3 => f_M_readItem_78 N nx z3 P 97) := by
  have er : rdItem m v i d = (tri m v (i + 1)).bind fun x => if x.1 ≤ 60 ∧ (1 ≤ x.2.1 ∧ x.2.1 ≤ 20) ∧ (1 ≤ x.2.2.1 ∧ x.2.2.1 ≤ 30) then some (drH d x.1 x.2.1 x.2.2.1, x.2.2.2) else none := by
    unfold rdItem; rw [if_pos hl]
  have q1 := nq_le (m := m) (v := v) (p := i + 1)
  have q2 := nq_le (m := m) (v := v) (p := nq m v (i + 1) + 1)
  have q3 := nq_le (m := m) (v := v) (p := nq m v (nq m v (i + 1) + 1) + 1)
  unfold f_M_readHeart
  refine ok_bind (Q1 := fun E => FrM D E ∧ E 97 9 = nI (nq m v (nq m v (nq m v (i + 1) + 1) + 1)) ∧ E 97 10 = bI (((((false || !gd m v (nI 0) (nI 60) (i + 1)) || !decide (la m v (nq m v (i + 1)) = 44)) || !gd m v (nI 1) (nI 20) (nq m v (i + 1) + 1)) || !decide (la m v (nq m v (nq m v (i + 1) + 1)) = 44)) || !gd m v (nI 1) (nI 30) (nq m v (nq m v (i + 1) + 1) + 1)) ∧ ((((((false || !gd m v (nI 0) (nI 60) (i + 1)) || !decide (la m v (nq m v (i + 1)) = 44)) || !gd m v (nI 1) (nI 20) (nq m v (i + 1) + 1)) || !decide (la m v (nq m v (nq m v (i + 1) + 1)) = 44)) || !gd m v (nI 1) (nI 30) (nq m v (nq m v (i + 1) + 1) + 1)) = false → DRm E (drH d (nvl m v (i + 1)) (nvl m v (nq m v (i + 1) + 1)) (nvl m v (nq m v (nq m v (i + 1) + 1) + 1))))) ?_ ?_
  · refine ok_t (kd_at (by omega) rfl) (ok_bind (M_number_ok (l := 0) (hi := nI 60) (w := false) hP hn hN (by decide) hT h9 (by omega) h10) ?_)
    rintro ⟨z1, E1⟩ ⟨a1, a2, a3, a4⟩
    refine ok_bind (M_due_ok (c := 44) hP hn (by decide) (by decide) (hT.fr a1) a2 (by omega) a3) ?_
    rintro E2 ⟨b1, b2, b3⟩
    refine ok_bind (M_number_ok (l := 1) (hi := nI 20) hP hn hN (by decide) (hT.fr (a1.tr b1)) b2 (by omega) b3) ?_
    rintro ⟨z3, E3⟩ ⟨c1, c2, c3, c4⟩
    refine ok_bind (M_due_ok (c := 44) hP hn (by decide) (by decide) (hT.fr ((a1.tr b1).tr c1)) c2 (by omega) c3) ?_
    rintro E4 ⟨d1, d2, d3⟩
    refine ok_bind (M_number_ok (l := 1) (hi := nI 30) hP hn hN (by decide) (hT.fr (((a1.tr b1).tr c1).tr d1)) d2 (by omega) d3) ?_
    rintro ⟨z5, E5⟩ ⟨e1, e2, e3, e4⟩
    have hfr : FrA D E5 := (((a1.tr b1).tr c1).tr d1).tr e1
    have e2 : E5 97 9 = _ := e2
    have e3 : E5 97 10 = _ := e3
    show OkP _ (if E5 97 10 = 0 then _ else _)
    rw [e3]
    refine ok_ite (fun k => ?_) (fun k => ok_some ⟨hfr.m, e2, e3, fun w => absurd (bI_z.mpr w) k⟩)
    have k := bI_z.mp k
    have k' := k
    simp only [Bool.or_eq_false_iff, Bool.not_eq_false', decide_eq_true_eq] at k'
    obtain ⟨⟨⟨⟨⟨-, g1⟩, g2⟩, g3⟩, g4⟩, g5⟩ := k'
    have a4 : z1 = _ := a4 g1
    have c4 : z3 = _ := c4 g3
    have e4 : z5 = _ := e4 g5
    show OkP _ ((f_M_tellHeart N nx E5 P 97 z1 z3 z5).bind _)
    rw [a4, c4, e4]
    refine ok_bind (tellHeart_ok hP hn (hd.a hfr)) (fun F hF => ok_some ⟨hfr.m.tr hF.1, ?_, ?_, fun _ => hF.2.1⟩)
    · rw [hF.2.2]; exact e2
    · rw [hF.2.2]; exact e3
  · rintro E ⟨h1, h2, h3, h4⟩
    refine item_end hP hn hT h1 h2 (by omega) h3 (fun w l => ?_) (fun x hx => ?_)
    · refine ⟨(drH d (nvl m v (i + 1)) (nvl m v (nq m v (i + 1) + 1)) (nvl m v (nq m v (nq m v (i + 1) + 1) + 1)), nq m v (nq m v (nq m v (i + 1) + 1) + 1) + 1), ?_, rfl, h4 w⟩
      · simp only [Bool.or_eq_false_iff, Bool.not_eq_false', decide_eq_true_eq] at w
        obtain ⟨⟨⟨⟨⟨-, g1⟩, g2⟩, g3⟩, g4⟩, g5⟩ := w
        have g1 := gd_sp g1
        have g3 := gd_sp g3
        have g5 := gd_sp g5
        rw [er, tri_mk g1.1 g2 g3.1 g4 g5.1 l]
        have n1 := (num_lt g1.1).1
        have n3 := (num_lt g3.1).1
        have n5 := (num_lt g5.1).1
        exact if_pos ⟨(le_nat n1 g1.2 (by decide) (by decide)).2, le_nat n3 g3.2 (by decide) (by decide), le_nat n5 g5.2 (by decide) (by decide)⟩
    · rw [er] at hx
      cases et : tri m v (i + 1) with
      | none => rw [et] at hx; cases hx
      | some y =>
        rw [et] at hx
        have hx : (if y.1 ≤ 60 ∧ (1 ≤ y.2.1 ∧ y.2.1 ≤ 20) ∧ (1 ≤ y.2.2.1 ∧ y.2.2.1 ≤ 30) then some (drH d y.1 y.2.1 y.2.2.1, y.2.2.2) else none) = some x := hx
        by_cases c : y.1 ≤ 60 ∧ (1 ≤ y.2.1 ∧ y.2.1 ≤ 20) ∧ (1 ≤ y.2.2.1 ∧ y.2.2.1 ≤ 30)
        · obtain ⟨p1, p3, p5, t1, t2, t3, t4, t5, t6, -⟩ := tri_el et
          obtain ⟨f1, f2⟩ := gd_mk (lo := nI 0) (hi := nI 60) t1 (by rw [nI_le' (by omega) (by omega)]; omega) (by rw [nI_le' (by omega) (by omega)]; omega)
          rw [f1, f2]
          obtain ⟨f3, f4⟩ := gd_mk (lo := nI 1) (hi := nI 20) t3 (by rw [nI_le' (by omega) (by omega)]; omega) (by rw [nI_le' (by omega) (by omega)]; omega)
          rw [f3, f4]
          obtain ⟨f5, f6⟩ := gd_mk (lo := nI 1) (hi := nI 30) t5 (by rw [nI_le' (by omega) (by omega)]; omega) (by rw [nI_le' (by omega) (by omega)]; omega)
          rw [f5, f6, decide_eq_true t2, decide_eq_true t4]
          exact ⟨rfl, t6⟩
        · rw [if_neg c] at hx; cases hx
theorem rdP_ok (hP : PB P) (hn : 117 ≤ nx) (hN : 100 ≤ N) (hT : TXm D m v) (hd : DRm D d) (hdo : DOK d) (h9 : D 97 9 = nI (i + 1)) (hi : i < 300) (h10 : D 97 10 = 0) (hl : la m v i = 112) : OkP (Res D m v i d) ((f_M_readPerson N nx D P 97).bind fun z3 => f_M_readItem_78 N nx z3 P 97) := by
  have hn5 := hdo.1
  have er : rdItem m v i d = (stp m v (i + 1) 59).bind fun x => if x.1 ≤ 60 ∧ fN d.1 < 5 then some (drP d x.1, x.2) else none := by
    unfold rdItem; rw [if_neg (by omega), if_pos hl]
  have q1 := nq_le (m := m) (v := v) (p := i + 1)
  have hP2 : P 97 2 = some 99 := hP.at (by decide) rfl
  have ab1 : ab nx 99 3 1 = true := ab_ok (t := 3) (N := 2) (kd_at (by omega) rfl) (n := 1) (by decide) (by decide)
  have h99 : D 99 (1 : Int32).toNatClampNeg = nI (fN d.1) := hd.1
  unfold f_M_readPerson
  by_cases c5 : fN d.1 = 5
  · refine ok_bind (Q1 := fun E => E = upd2 D 97 10 1) (ok_t (kd_at (by omega) rfl) (ok_nn hP2 (ok_t ab1 (ok_t (by rw [h99, c5]; rfl) (ok_pas (ok_some rfl)))))) ?_
    rintro E rfl
    refine item_end (w := true) (q := i + 1) hP hn hT FrA.u10.m ?_ (by omega) ?_ (fun w => by cases w) (fun x hx => ?_)
    · rw [upd2_s, upd_n (by decide)]; exact h9
    · rw [upd2_s, upd_s]; rfl
    · rw [er] at hx
      cases et : stp m v (i + 1) 59 with
      | none => rw [et] at hx; cases hx
      | some y =>
        rw [et] at hx
        have hx : (if y.1 ≤ 60 ∧ fN d.1 < 5 then some (drP d y.1, y.2) else none) = some x := hx
        rw [if_neg (by omega)] at hx; cases hx
  · refine ok_bind (Q1 := fun E => FrM D E ∧ E 97 9 = nI (nq m v (i + 1)) ∧ E 97 10 = bI (false || !gd m v (nI 0) (nI 60) (i + 1)) ∧ ((false || !gd m v (nI 0) (nI 60) (i + 1)) = false → DRm E (drP d (nvl m v (i + 1))))) (ok_t (kd_at (by omega) rfl) (ok_nn hP2 (ok_t ab1 (ok_f (by rw [h99, lit 5, nI_inj (by omega) (by decide)]; exact c5) (ok_nn (hP.at (by decide) (show P0 97 5 = some 102 from rfl)) (ok_t ab1 (ok_bind (M_number_ok (l := 0) (hi := nI 60) (w := false) hP hn hN (by decide) hT h9 (by omega) h10) ?_))))))) ?_
    · rintro ⟨z1, E1⟩ ⟨a1, a2, a3, a4⟩
      have a1 : FrA D E1 := a1
      have a2 : E1 97 9 = _ := a2
      have a3 : E1 97 10 = _ := a3
      rw [h99, show (5 : Int32) + nI (fN d.1) = nI (5 + fN d.1) from nI_add 5 _]
      refine ok_t (ab_ok (t := 3) (N := 10) (kd_at (by omega) rfl) (by omega) (by decide)) (ok_pas (ok_t ab1 (ok_t ab1 (ok_pas ?_))))
      rw [cl (n := 5 + fN d.1) (by omega)]
      show OkP _ (some (upd2 (upd2 E1 102 (5 + fN d.1) z1) 99 1 (upd2 E1 102 (5 + fN d.1) z1 99 1 + 1)))
      have ed := hd.a a1
      rw [upd2_n (show 99 ≠ 102 by decide), ed.1, nI_1]
      refine ok_some ⟨(a1.m.tr (FrM.up (by omega))).tr (FrM.up (by decide)), ?_, ?_, fun k => ?_⟩
      · rw [upd2_n (by decide), upd2_n (by decide)]; exact a2
      · rw [upd2_n (by decide), upd2_n (by decide)]; exact a3
      · simp only [Bool.or_eq_false_iff, Bool.not_eq_false'] at k
        have a4 : z1 = _ := a4 k.2
        obtain ⟨d1, d2, d3, d4, d5, d6, d7⟩ := ed
        have e : ∀ q, q ≠ 99 → q ≠ 102 → upd2 (upd2 E1 102 (5 + fN d.1) z1) 99 1 (nI (fN d.1 + 1)) q = E1 q := fun q a b => by rw [upd2_n a, upd2_n b]
        unfold DRm
        rw [e 100 (by decide) (by decide), e 101 (by decide) (by decide), e 103 (by decide) (by decide), e 104 (by decide) (by decide), e 105 (by decide) (by decide)]
        refine ⟨by rw [upd2_s, upd_s]; rfl, d2, d3, d4, d5, fun p hp => ?_, d7⟩
        have hp : p < fN d.1 + 1 := hp
        rw [upd2_n (by decide), upd2_s]
        show _ = nI (if p = fN d.1 then nvl m v (i + 1) else fC d.1 p)
        by_cases c : p = fN d.1
        · rw [if_pos c, c, upd_s, a4]
        · rw [if_neg c, upd_n (by omega)]; exact d6 p (by omega)
    · rintro E ⟨h1, h2, h3, h4⟩
      refine item_end hP hn hT h1 h2 (by omega) h3 (fun w l => ?_) (fun x hx => ?_)
      · refine ⟨(drP d (nvl m v (i + 1)), nq m v (i + 1) + 1), ?_, rfl, h4 w⟩
        · simp only [Bool.or_eq_false_iff, Bool.not_eq_false'] at w
          have g1 := gd_sp w.2
          have es : stp m v (i + 1) 59 = some (nvl m v (i + 1), nq m v (i + 1) + 1) := by
            unfold stp; rw [g1.1]; exact if_pos l
          have n1 := (num_lt g1.1).1
          rw [er, es]
          exact if_pos ⟨(le_nat n1 g1.2 (by decide) (by decide)).2, by omega⟩
      · rw [er] at hx
        cases et : stp m v (i + 1) 59 with
        | none => rw [et] at hx; cases hx
        | some y =>
          rw [et] at hx
          have hx : (if y.1 ≤ 60 ∧ fN d.1 < 5 then some (drP d y.1, y.2) else none) = some x := hx
          by_cases c : y.1 ≤ 60 ∧ fN d.1 < 5
          · obtain ⟨j, t1, t2, -⟩ := stp_el et
            obtain ⟨f1, f2⟩ := gd_mk (lo := nI 0) (hi := nI 60) t1 (by rw [nI_le' (by omega) (by omega)]; omega) (by rw [nI_le' (by omega) (by omega)]; omega)
            rw [f1, f2]
            exact ⟨rfl, t2⟩
          · rw [if_neg c] at hx; cases hx
theorem rdT_ok (hP : PB P) (hn : 117 ≤ nx) (hN : 100 ≤ N) (hT : TXm D m v) (hd : DRm D d) (hdo : DOK d) (h9 : D 97 9 = nI (i + 1)) (hi : i < 300) (h10 : D 97 10 = 0) (hl : la m v i = 116) : OkP (Res D m v i d) ((f_M_readPin N nx D P 97).bind fun z3 => f_M_readItem_78 N nx z3 P 97) := by
  have hn5 := hdo.1
  have hk8 := hdo.2.1
  have er : rdItem m v i d = (tri m v (i + 1)).bind fun x => if x.1 < fN d.1 ∧ x.2.1 ≤ 3 ∧ (1 ≤ x.2.2.1 ∧ x.2.2.1 ≤ 20) ∧ fK d.1 < 8 then some (drT d x.1 x.2.1 x.2.2.1, x.2.2.2) else none := by
    unfold rdItem; rw [if_neg (by omega), if_neg (by omega), if_pos hl]
  have q1 := nq_le (m := m) (v := v) (p := i + 1)
  have q2 := nq_le (m := m) (v := v) (p := nq m v (i + 1) + 1)
  have q3 := nq_le (m := m) (v := v) (p := nq m v (nq m v (i + 1) + 1) + 1)
  have hP3 : P 97 3 = some 100 := hP.at (by decide) rfl
  have ab1 : ab nx 100 3 1 = true := ab_ok (t := 3) (N := 2) (kd_at (by omega) rfl) (n := 1) (by decide) (by decide)
  have ab9 : ab nx 99 3 1 = true := ab_ok (t := 3) (N := 2) (kd_at (by omega) rfl) (n := 1) (by decide) (by decide)
  have h99 : D 99 (1 : Int32).toNatClampNeg = nI (fN d.1) := hd.1
  have h100 : D 100 (1 : Int32).toNatClampNeg = nI (fK d.1) := hd.2.1
  unfold f_M_readPin
  by_cases c8 : fK d.1 = 8
  · refine ok_bind (Q1 := fun E => E = upd2 D 97 10 1) (ok_t (kd_at (by omega) rfl) (ok_nn hP3 (ok_t ab1 (ok_t (by rw [h100, c8]; rfl) (ok_pas (ok_some rfl)))))) ?_
    rintro E rfl
    refine item_end (w := true) (q := i + 1) hP hn hT FrA.u10.m ?_ (by omega) ?_ (fun w => by cases w) (fun x hx => ?_)
    · rw [upd2_s, upd_n (by decide)]; exact h9
    · rw [upd2_s, upd_s]; rfl
    · rw [er] at hx
      cases et : tri m v (i + 1) with
      | none => rw [et] at hx; cases hx
      | some y =>
        rw [et] at hx
        have hx : (if y.1 < fN d.1 ∧ y.2.1 ≤ 3 ∧ (1 ≤ y.2.2.1 ∧ y.2.2.1 ≤ 20) ∧ fK d.1 < 8 then some (drT d y.1 y.2.1 y.2.2.1, y.2.2.2) else none) = some x := hx
        rw [if_neg (by omega)] at hx; cases hx
  · have ab16 : ∀ a, a = 103 ∨ a = 104 ∨ a = 105 → ab nx a 3 (nI (8 + fK d.1)) = true := by
      rintro a (rfl | rfl | rfl)
      · exact ab_ok (t := 3) (N := 16) (kd_at (by omega) rfl) (by omega) (by decide)
      · exact ab_ok (t := 3) (N := 16) (kd_at (by omega) rfl) (by omega) (by decide)
      · exact ab_ok (t := 3) (N := 16) (kd_at (by omega) rfl) (by omega) (by decide)
    refine ok_bind (Q1 := fun E => FrM D E ∧ E 97 9 = nI (nq m v (nq m v (nq m v (i + 1) + 1) + 1)) ∧ E 97 10 = bI (((((false || !gd m v (nI 0) (nI (fN d.1) - 1) (i + 1)) || !decide (la m v (nq m v (i + 1)) = 44)) || !gd m v (nI 0) (nI 3) (nq m v (i + 1) + 1)) || !decide (la m v (nq m v (nq m v (i + 1) + 1)) = 44)) || !gd m v (nI 1) (nI 20) (nq m v (nq m v (i + 1) + 1) + 1)) ∧ ((((((false || !gd m v (nI 0) (nI (fN d.1) - 1) (i + 1)) || !decide (la m v (nq m v (i + 1)) = 44)) || !gd m v (nI 0) (nI 3) (nq m v (i + 1) + 1)) || !decide (la m v (nq m v (nq m v (i + 1) + 1)) = 44)) || !gd m v (nI 1) (nI 20) (nq m v (nq m v (i + 1) + 1) + 1)) = false → DRm E (drT d (nvl m v (i + 1)) (nvl m v (nq m v (i + 1) + 1)) (nvl m v (nq m v (nq m v (i + 1) + 1) + 1))))) ?_ ?_
    · refine ok_t (kd_at (by omega) rfl) (ok_nn hP3 (ok_t ab1 (ok_f (by rw [h100, lit 8, nI_inj (by omega) (by decide)]; exact c8) (ok_t ab1 (ok_nn (hP.at (by decide) (show P0 97 6 = some 103 from rfl)) (ok_nn (hP.at (by decide) (show P0 97 2 = some 99 from rfl)) (ok_t ab9 ?_)))))))
      rw [h99, h100, show (8 : Int32) + nI (fK d.1) = nI (8 + fK d.1) from nI_add 8 _, cl (n := 8 + fK d.1) (by omega)]
      refine ok_bind (M_number_ok (l := 0) (w := false) hP hn hN (by decide) hT h9 (by omega) h10) ?_
      rintro ⟨z1, E1⟩ ⟨a1, a2, a3, a4⟩
      have a1 : FrA D E1 := a1
      refine ok_t (ab16 103 (by decide)) (ok_pas ?_)
      show OkP _ ((f_M_due N nx (upd2 E1 103 (8 + fK d.1) z1) P 97 44).bind _)
      have t1 : FrM D (upd2 E1 103 (8 + fK d.1) z1) := a1.m.tr (FrM.up (by omega))
      refine ok_bind (M_due_ok (c := 44) (D := upd2 E1 103 (8 + fK d.1) z1) hP hn (by decide) (by decide) (hT.frM t1) (by rw [upd2_n (by decide)]; exact a2) (by omega) (by rw [upd2_n (by decide)]; exact a3)) ?_
      rintro E2 ⟨b1, b2, b3⟩
      refine ok_nn (hP.at (by decide) (show P0 97 7 = some 104 from rfl)) ?_
      refine ok_bind (M_number_ok (l := 0) (hi := nI 3) hP hn hN (by decide) (hT.frM (t1.tr b1.m)) b2 (by omega) b3) ?_
      rintro ⟨z3, E3⟩ ⟨c1, c2, c3, c4⟩
      have c1 : FrA E2 E3 := c1
      refine ok_t (ab16 104 (by decide)) (ok_pas ?_)
      show OkP _ ((f_M_due N nx (upd2 E3 104 (8 + fK d.1) z3) P 97 44).bind _)
      have t3 : FrM D (upd2 E3 104 (8 + fK d.1) z3) := ((t1.tr b1.m).tr c1.m).tr (FrM.up (by omega))
      refine ok_bind (M_due_ok (c := 44) (D := upd2 E3 104 (8 + fK d.1) z3) hP hn (by decide) (by decide) (hT.frM t3) (by rw [upd2_n (by decide)]; exact c2) (by omega) (by rw [upd2_n (by decide)]; exact c3)) ?_
      rintro E4 ⟨d1, d2, d3⟩
      refine ok_nn (hP.at (by decide) (show P0 97 8 = some 105 from rfl)) ?_
      refine ok_bind (M_number_ok (l := 1) (hi := nI 20) hP hn hN (by decide) (hT.frM (t3.tr d1.m)) d2 (by omega) d3) ?_
      rintro ⟨z5, E5⟩ ⟨e1, e2, e3, e4⟩
      have e1 : FrA E4 E5 := e1
      have e2 : E5 97 9 = _ := e2
      have e3 : E5 97 10 = _ := e3
      refine ok_t (ab16 105 (by decide)) (ok_pas (ok_t ab1 (ok_t ab1 (ok_pas ?_))))
      show OkP _ (some (upd2 (upd2 E5 105 (8 + fK d.1) z5) 100 1 (upd2 E5 105 (8 + fK d.1) z5 100 1 + 1)))
      have o1 : ∀ q, q ≠ 97 → q ≠ 103 → q ≠ 104 → E5 q = D q := fun q x y z => by
        rw [e1.1 q x, d1.1 q x, upd2_n z, c1.1 q x, b1.1 q x, upd2_n y, a1.1 q x]
      have o3 : E5 103 = upd (D 103) (8 + fK d.1) z1 := by
        rw [e1.1 103 (by decide), d1.1 103 (by decide), upd2_n (by decide), c1.1 103 (by decide), b1.1 103 (by decide), upd2_s, a1.1 103 (by decide)]
      have o4 : E5 104 = upd (D 104) (8 + fK d.1) z3 := by
        rw [e1.1 104 (by decide), d1.1 104 (by decide), upd2_s, c1.1 104 (by decide), b1.1 104 (by decide), upd2_n (by decide), a1.1 104 (by decide)]
      rw [upd2_n (show 100 ≠ 105 by decide), o1 100 (by decide) (by decide) (by decide), hd.2.1, nI_1]
      refine ok_some ⟨((t3.tr d1.m).tr e1.m).tr ((FrM.up (by omega)).tr (FrM.up (by decide))), ?_, ?_, fun k => ?_⟩
      · rw [upd2_n (by decide), upd2_n (by decide)]; exact e2
      · rw [upd2_n (by decide), upd2_n (by decide)]; exact e3
      · simp only [Bool.or_eq_false_iff, Bool.not_eq_false', decide_eq_true_eq] at k
        obtain ⟨⟨⟨⟨⟨-, g1⟩, g2⟩, g3⟩, g4⟩, g5⟩ := k
        have a4 : z1 = _ := a4 g1
        have c4 : z3 = _ := c4 g3
        have e4 : z5 = _ := e4 g5
        obtain ⟨d1, d2, d3, d4, d5, d6, d7⟩ := hd
        have e : ∀ q, q ≠ 100 → q ≠ 105 → upd2 (upd2 E5 105 (8 + fK d.1) z5) 100 1 (nI (fK d.1 + 1)) q = E5 q := fun q a b => by rw [upd2_n a, upd2_n b]
        unfold DRm
        rw [e 99 (by decide) (by decide), e 101 (by decide) (by decide), e 102 (by decide) (by decide), e 103 (by decide) (by decide), e 104 (by decide) (by decide), o1 99 (by decide) (by decide) (by decide), o1 101 (by decide) (by decide) (by decide), o1 102 (by decide) (by decide) (by decide), o3, o4]
        refine ⟨d1, by rw [upd2_s, upd_s]; rfl, d3, d4, d5, d6, fun t ht => ?_⟩
        have ht : t < fK d.1 + 1 := ht
        rw [upd2_n (show 105 ≠ 100 by decide), upd2_s, o1 105 (by decide) (by decide) (by decide)]
        show _ = nI (if t = fK d.1 then nvl m v (i + 1) else fO d.1 t) ∧ _ = nI (if t = fK d.1 then nvl m v (nq m v (i + 1) + 1) else fS d.1 t) ∧ _ = nI (if t = fK d.1 then nvl m v (nq m v (nq m v (i + 1) + 1) + 1) else d.2 t)
        by_cases c : t = fK d.1
        · rw [if_pos c, if_pos c, if_pos c, c, upd_s, upd_s, upd_s]; exact ⟨a4, c4, e4⟩
        · rw [if_neg c, if_neg c, if_neg c, upd_n (by omega), upd_n (by omega), upd_n (by omega)]; exact d7 t (by omega)
    · rintro E ⟨h1, h2, h3, h4⟩
      refine item_end hP hn hT h1 h2 (by omega) h3 (fun w l => ?_) (fun x hx => ?_)
      · refine ⟨(drT d (nvl m v (i + 1)) (nvl m v (nq m v (i + 1) + 1)) (nvl m v (nq m v (nq m v (i + 1) + 1) + 1)), nq m v (nq m v (nq m v (i + 1) + 1) + 1) + 1), ?_, rfl, h4 w⟩
        · simp only [Bool.or_eq_false_iff, Bool.not_eq_false', decide_eq_true_eq] at w
          obtain ⟨⟨⟨⟨⟨-, g1⟩, g2⟩, g3⟩, g4⟩, g5⟩ := w
          have g1 := gd_sp g1
          have g3 := gd_sp g3
          have g5 := gd_sp g5
          rw [er, tri_mk g1.1 g2 g3.1 g4 g5.1 l]
          have n1 := (num_lt g1.1).1
          have n3 := (num_lt g3.1).1
          have n5 := (num_lt g5.1).1
          have hlt : nvl m v (i + 1) < fN d.1 := by
            have h1 : ¬ nI (fN d.1) - 1 < nI (nvl m v (i + 1)) := Int32.not_lt.mpr g1.2.2
            rw [pre_up (by omega)] at h1
            have h1 := Decidable.not_not.mp h1
            exact (nI_lt' (by omega) (by omega)).mp h1
          exact if_pos ⟨hlt, (le_nat n3 g3.2 (by decide) (by decide)).2, le_nat n5 g5.2 (by decide) (by decide), by omega⟩
      · rw [er] at hx
        cases et : tri m v (i + 1) with
        | none => rw [et] at hx; cases hx
        | some y =>
          rw [et] at hx
          have hx : (if y.1 < fN d.1 ∧ y.2.1 ≤ 3 ∧ (1 ≤ y.2.2.1 ∧ y.2.2.1 ≤ 20) ∧ fK d.1 < 8 then some (drT d y.1 y.2.1 y.2.2.1, y.2.2.2) else none) = some x := hx
          by_cases c : y.1 < fN d.1 ∧ y.2.1 ≤ 3 ∧ (1 ≤ y.2.2.1 ∧ y.2.2.1 ≤ 20) ∧ fK d.1 < 8
          · obtain ⟨p1, p3, p5, t1, t2, t3, t4, t5, t6, -⟩ := tri_el et
            have hup : nI y.1 ≤ nI (fN d.1) - 1 := by
              refine Int32.not_lt.mp (fun k => ?_)
              rw [pre_up (by omega)] at k
              exact k ((nI_lt' (by omega) (by omega)).mpr c.1)
            obtain ⟨f1, f2⟩ := gd_mk (lo := nI 0) (hi := nI (fN d.1) - 1) t1 (by rw [nI_le' (by omega) (by omega)]; omega) hup
            rw [f1, f2]
            obtain ⟨f3, f4⟩ := gd_mk (lo := nI 0) (hi := nI 3) t3 (by rw [nI_le' (by omega) (by omega)]; omega) (by rw [nI_le' (by omega) (by omega)]; omega)
            rw [f3, f4]
            obtain ⟨f5, f6⟩ := gd_mk (lo := nI 1) (hi := nI 20) t5 (by rw [nI_le' (by omega) (by omega)]; omega) (by rw [nI_le' (by omega) (by omega)]; omega)
            rw [f5, f6, decide_eq_true t2, decide_eq_true t4]
            exact ⟨rfl, t6⟩
          · rw [if_neg c] at hx; cases hx
theorem M_readItem_ok (hP : PB P) (hn : 117 ≤ nx) (hN : 100 ≤ N) (hT : TXm D m v) (hd : DRm D d) (hdo : DOK d) (h9 : D 97 9 = nI i) (hi : i < 300) (h10 : D 97 10 = 0) : OkP (Res D m v i d) (f_M_readItem N nx D P 97) := by
  have hfr : FrA D (upd2 D 97 9 (nI (i + 1))) := FrA.u9
  have g9 : upd2 D 97 9 (nI (i + 1)) 97 9 = nI (i + 1) := by rw [upd2_s, upd_s]
  have g10 : upd2 D 97 9 (nI (i + 1)) 97 10 = 0 := by rw [upd2_s, upd_n (by decide)]; exact h10
  have out : ∀ o, OkP (Res (upd2 D 97 9 (nI (i + 1))) m v i d) o → OkP (Res D m v i d) o := fun o h => ok_imp h (fun E hE => ⟨hfr.m.tr hE.1, hE.2⟩)
  unfold f_M_readItem
  refine ok_t (kd_at (by omega) rfl) (ok_call (M_here_eq hP hn hT h9 (by omega)) (ok_pas ?_))
  rw [h9, nI_1]
  refine ok_ite (fun c => ?_) (fun c => ok_ite (fun c2 => ?_) (fun c2 => ok_ite (fun c3 => ?_) (fun c3 => ?_)))
  · exact out _ (rdH_ok hP hn hN (hT.fr hfr) (hd.a hfr) g9 hi g10 ((hr_eq hT (c := 104) (by decide) (by decide)).mp c))
  · exact out _ (rdP_ok hP hn hN (hT.fr hfr) (hd.a hfr) hdo g9 hi g10 ((hr_eq hT (c := 112) (by decide) (by decide)).mp c2))
  · exact out _ (rdT_ok hP hn hN (hT.fr hfr) (hd.a hfr) hdo g9 hi g10 ((hr_eq hT (c := 116) (by decide) (by decide)).mp c3))
  · refine ok_pas (out _ (item_end (w := true) (q := i + 1) hP hn (hT.fr hfr) FrA.u10.m ?_ (by omega) ?_ (fun w => by cases w) (fun x hx => ?_)))
    · rw [upd2_s, upd_n (by decide)]; exact g9
    · rw [upd2_s, upd_s]; rfl
    · unfold rdItem at hx
      rw [if_neg (fun e => c ((hr_eq hT (c := 104) (by decide) (by decide)).mpr e)), if_neg (fun e => c2 ((hr_eq hT (c := 112) (by decide) (by decide)).mpr e)), if_neg (fun e => c3 ((hr_eq hT (c := 116) (by decide) (by decide)).mpr e))] at hx
      cases hx
end MU
