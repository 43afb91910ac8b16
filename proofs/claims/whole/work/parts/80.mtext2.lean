/-! the reference: numbers and signs of the text -/
def hr (m : Nat) (v : Nat → Nat) (p : Nat) : Int32 := if p < m then nI (v p) else -4
def TXm (D : Dt) (m : Nat) (v : Nat → Nat) : Prop := D 97 1 = nI m ∧ m ≤ 200 ∧ ∀ i, i < m → D 98 i = nI (v i) ∧ 32 ≤ v i ∧ v i ≤ 126
def FrA (D E : Dt) : Prop := (∀ q, q ≠ 97 → E q = D q) ∧ ∀ k, k ≠ 9 → k ≠ 10 → E 97 k = D 97 k
theorem FrA.rf {D : Dt} : FrA D D := ⟨fun _ _ => rfl, fun _ _ _ => rfl⟩
theorem FrA.tr {D E F : Dt} (h : FrA D E) (k : FrA E F) : FrA D F := ⟨fun q a => (k.1 q a).trans (h.1 q a), fun j a b => (k.2 j a b).trans (h.2 j a b)⟩
theorem FrA.u9 {D : Dt} {x : Int32} : FrA D (upd2 D 97 9 x) := ⟨fun q a => upd2_n a, fun j a _ => by rw [upd2_s, upd_n a]⟩
theorem FrA.u10 {D : Dt} {x : Int32} : FrA D (upd2 D 97 10 x) := ⟨fun q a => upd2_n a, fun j _ a => by rw [upd2_s, upd_n a]⟩
theorem TXm.fr {D E : Dt} {m : Nat} {v : Nat → Nat} (h : TXm D m v) (g : FrA D E) : TXm E m v := by
  unfold TXm
  rw [g.1 98 (by decide), g.2 1 (by decide) (by decide)]; exact h
def fig (m : Nat) (v : Nat → Nat) (p : Nat) : Prop := 48 ≤ la m v p ∧ la m v p ≤ 57
def gd (m : Nat) (v : Nat → Nat) (lo hi : Int32) (p : Nat) : Bool := match num m v p with
  | none => false
  | some x => decide (lo ≤ nI x.1 ∧ nI x.1 ≤ hi)
def nq (m : Nat) (v : Nat → Nat) (p : Nat) : Nat := match num m v p with
  | none => p
  | some x => x.2
def nvl (m : Nat) (v : Nat → Nat) (p : Nat) : Nat := match num m v p with
  | none => 0
  | some x => x.1
theorem fgr_no {c : Nat} (h : ¬ (48 ≤ c ∧ c ≤ 57)) : fgr c = none := if_neg h
theorem fgr_so {c : Nat} (h : 48 ≤ c ∧ c ≤ 57) : fgr c = some (c - 48) := if_pos h
theorem num_0 {m : Nat} {v : Nat → Nat} {p : Nat} (h : ¬ fig m v p) : num m v p = none := by
  unfold num; rw [fgr_no h]
theorem num_1 {m : Nat} {v : Nat → Nat} {p : Nat} (h : fig m v p) (h2 : ¬ fig m v (p + 1)) : num m v p = some (la m v p - 48, p + 1) := by
  unfold num; rw [fgr_so h, fgr_no h2]
theorem num_2 {m : Nat} {v : Nat → Nat} {p : Nat} (h : fig m v p) (h2 : fig m v (p + 1)) : num m v p = some (10 * (la m v p - 48) + (la m v (p + 1) - 48), p + 2) := by
  unfold num; rw [fgr_so h, fgr_so h2]
theorem gd_sp {m : Nat} {v : Nat → Nat} {lo hi : Int32} {p : Nat} (h : gd m v lo hi p = true) : num m v p = some (nvl m v p, nq m v p) ∧ lo ≤ nI (nvl m v p) ∧ nI (nvl m v p) ≤ hi := by
  unfold gd at h
  unfold nvl nq
  cases e : num m v p with
  | none => rw [e] at h; cases h
  | some x => rw [e] at h; exact ⟨rfl, of_decide_eq_true h⟩
theorem gd_mk {m : Nat} {v : Nat → Nat} {lo hi : Int32} {p a j : Nat} (h : num m v p = some (a, j)) (h1 : lo ≤ nI a) (h2 : nI a ≤ hi) : gd m v lo hi p = true ∧ nq m v p = j := by
  unfold gd nq
  rw [h]
  exact ⟨decide_eq_true ⟨h1, h2⟩, rfl⟩
theorem nq_le {m : Nat} {v : Nat → Nat} {p : Nat} : p ≤ nq m v p ∧ nq m v p ≤ p + 2 := by
  unfold nq
  cases e : num m v p with
  | none => exact ⟨Nat.le_refl _, Nat.le_add_right _ _⟩
  | some x =>
    have := num_lt e
    exact ⟨by show p ≤ x.2; omega, by show x.2 ≤ p + 2; omega⟩
section MT
variable {N nx m p : Nat} {D : Dt} {P : Ft} {v : Nat → Nat}
theorem M_here_eq (hP : PB P) (hn : 117 ≤ nx) (h : TXm D m v) (h9 : D 97 9 = nI p) (hp : p < 1000) : f_M_here N nx D P 97 = some (hr m v p) := by
  have hm := h.2.1
  apply ok_val
  unfold f_M_here hr
  rw [h.1, h9]
  refine ok_t (kd_at (by omega) rfl) ?_
  by_cases c : p < m
  · rw [if_pos c]
    refine ok_f (by rw [nI_le' (by omega) (by omega)]; omega) (ok_nn (hP.at (by decide) (show P0 97 0 = some 98 from rfl)) (ok_t (ab_ok (t := 1) (N := 200) (kd_at (by omega) rfl) (by omega) (by decide)) (ok_some ?_)))
    rw [cl (n := p) (by omega)]; exact (h.2.2 p c).1
  · rw [if_neg c]
    exact ok_t (by rw [nI_le' (by omega) (by omega)]; omega) (ok_some rfl)
theorem neg4 : ∀ c : Nat, c < 127 → ¬ (-4 : Int32) = nI c := by decide
theorem hr_eq (h : TXm D m v) {c : Nat} (hc : 33 ≤ c) (hc2 : c < 127) : hr m v p = nI c ↔ la m v p = c := by
  unfold hr la
  by_cases q : p < m
  · rw [if_pos q, if_pos q]
    have := (h.2.2 p q).2
    exact nI_inj (by omega) (by omega)
  · rw [if_neg q, if_neg q]
    exact ⟨fun e => absurd e (neg4 c hc2), fun e => by omega⟩
theorem fig_lt (h : fig m v p) : p < m := by
  rcases Nat.lt_or_ge p m with w | w
  · exact w
  · have h2 : la m v p = 32 := if_neg (by omega)
    unfold fig at h
    omega
theorem M_isFigure_t (hP : PB P) (hn : 117 ≤ nx) (h : TXm D m v) (h9 : D 97 9 = nI p) (hp : p < 1000) (hf : fig m v p) : f_M_isFigure N nx D P 97 = some 1 := by
  have hpm := fig_lt hf
  have e : hr m v p = nI (la m v p) := by unfold hr la; rw [if_pos hpm, if_pos hpm]
  unfold fig at hf
  apply ok_val
  unfold f_M_isFigure
  refine ok_t (kd_at (by omega) rfl) (ok_call (M_here_eq hP hn h h9 hp) (ok_call M_in_eq ?_))
  have key : (48 : Int32) ≤ nI (la m v p) ∧ nI (la m v p) ≤ 57 := ⟨by rw [lit 48, nI_le' (by decide) (by omega)]; exact hf.1, by rw [lit 57, nI_le' (by omega) (by decide)]; exact hf.2⟩
  rw [e, if_pos key]
  exact ok_t (Or.inr rfl) (ok_some rfl)
theorem M_isFigure_f (hP : PB P) (hn : 117 ≤ nx) (h : TXm D m v) (h9 : D 97 9 = nI p) (hp : p < 1000) (hf : ¬ fig m v p) : f_M_isFigure N nx D P 97 = some 0 := by
  have hm := h.2.1
  have key : ¬ ((48 : Int32) ≤ hr m v p ∧ hr m v p ≤ 57) := by
    unfold fig la at hf
    unfold hr
    by_cases q : p < m
    · have := (h.2.2 p q).2
      rw [if_pos q] at hf ⊢
      rw [lit 48, lit 57, nI_le' (by decide) (by omega), nI_le' (by omega) (by decide)]
      exact hf
    · rw [if_neg q]; decide
  apply ok_val
  unfold f_M_isFigure
  refine ok_t (kd_at (by omega) rfl) (ok_call (M_here_eq hP hn h h9 hp) (ok_call M_in_eq ?_))
  rw [if_neg key]
  exact ok_t (Or.inl rfl) (ok_some rfl)
theorem n58_ok {x lo hi : Int32} {w : Bool} (hn : 117 ≤ nx) (h10 : D 97 10 = bI w) : OkP (fun z => z.2 = upd2 D 97 10 (bI (w || !decide (lo ≤ x ∧ x ≤ hi))) ∧ (lo ≤ x ∧ x ≤ hi → z.1 = x)) (f_M_number_58 N nx D P 97 lo hi x) := by
  have hk : kd nx 97 = 9 := kd_at (by omega) rfl
  unfold f_M_number_58 f_M_number_84
  refine ok_call M_in_eq ?_
  rw [h10]
  by_cases c : lo ≤ x ∧ x ≤ hi
  · rw [if_pos c, decide_eq_true c]
    cases w with
    | false => exact ok_t rfl (ok_f (by decide) (ok_t hk (ok_t (Or.inl rfl) (ok_pas (ok_f (by decide) (ok_some ⟨rfl, fun _ => rfl⟩))))))
    | true => exact ok_f (by decide) (ok_t hk (ok_t (Or.inr rfl) (ok_pas (ok_f (by decide) (ok_some ⟨rfl, fun _ => rfl⟩)))))
  · rw [if_neg c, decide_eq_false c]
    cases w with
    | false => exact ok_t rfl (ok_t rfl (ok_t hk (ok_t (Or.inr rfl) (ok_pas (ok_t rfl (ok_some ⟨rfl, fun e => absurd e c⟩))))))
    | true => exact ok_f (by decide) (ok_t hk (ok_t (Or.inr rfl) (ok_pas (ok_t rfl (ok_some ⟨rfl, fun e => absurd e c⟩)))))
theorem n6_step (hP : PB P) (hn : 117 ≤ nx) {Q : Int32 × Dt → Prop} {rec : Dt → Int32 → Int32 → Option (Int32 × Dt)} {lo hi x : Int32} {k y : Nat} (hT : TXm D m v) (h9 : D 97 9 = nI p) (hp : p < 900) (hk : k < 2) (hx : (x = -4 ∧ y = 0) ∨ (x = nI y ∧ y < 10)) (h0 : ¬ fig m v p → OkP Q (f_M_number_58 N nx D P 97 lo hi x)) (h1 : fig m v p → OkP Q (rec (upd2 D 97 9 (nI (p + 1))) (nI (10 * y + (la m v p - 48))) (nI (k + 1)))) : OkP Q (f_M_number_6 N nx P 97 lo hi rec D x (nI k)) := by
  unfold f_M_number_6
  refine ok_f (by rw [lit 2, nI_le' (by decide) (by omega)]; omega) ?_
  by_cases c : fig m v p
  · refine ok_call (M_isFigure_t hP hn hT h9 (by omega) c) (ok_f (by decide) ?_)
    have h1 := h1 c
    have hpm := fig_lt c
    have e : hr m v p = nI (la m v p) := by unfold hr la; rw [if_pos hpm, if_pos hpm]
    have h48 : 48 ≤ la m v p := c.1
    have go : ∀ s0 : Int32, s0 = nI (10 * y) → OkP Q (f_M_number_33 N nx rec D P 97 lo hi (nI k) s0) := by
      rintro s0 rfl
      unfold f_M_number_33
      refine ok_call (M_here_eq hP hn hT h9 (by omega)) (ok_pas ?_)
      have e2 : nI (10 * y + la m v p) - 48 = nI (10 * y + (la m v p - 48)) := by
        rw [show 10 * y + (la m v p - 48) = 10 * y + la m v p - 48 by omega]
        exact pk_sub (b := 48) (by omega)
      rw [h9, nI_1 p, nI_1 k, e, nI_add, e2]
      exact h1
    rcases hx with ⟨rfl, rfl⟩ | ⟨rfl, hy⟩
    · exact ok_t rfl (go 0 rfl)
    · exact ok_f (fun z => neg4 y (by omega) z.symm) (go _ (pk_mul 10 y))
  · exact ok_call (M_isFigure_f hP hn hT h9 (by omega) c) (ok_t rfl (h0 c))
theorem M_number_ok (hP : PB P) (hn : 117 ≤ nx) (hN : 100 ≤ N) {l : Nat} {hi : Int32} {w : Bool} (hl : l < 1000) (hT : TXm D m v) (h9 : D 97 9 = nI p) (hp : p < 800) (h10 : D 97 10 = bI w) : OkP (fun z => FrA D z.2 ∧ z.2 97 9 = nI (nq m v p) ∧ z.2 97 10 = bI (w || !gd m v (nI l) hi p) ∧ (gd m v (nI l) hi p = true → z.1 = nI (nvl m v p))) (f_M_number N nx D P 97 (nI l) hi) := by
  have it : ∀ (E : Dt) (x : Int32) (q : Nat), FrA D E → E 97 9 = nI q → E 97 10 = bI w → nq m v p = q → gd m v (nI l) hi p = decide (nI l ≤ x ∧ x ≤ hi) → (gd m v (nI l) hi p = true → x = nI (nvl m v p)) → OkP (fun z => FrA D z.2 ∧ z.2 97 9 = nI (nq m v p) ∧ z.2 97 10 = bI (w || !gd m v (nI l) hi p) ∧ (gd m v (nI l) hi p = true → z.1 = nI (nvl m v p))) (f_M_number_58 N nx E P 97 (nI l) hi x) := by
    intro E x q e1 e2 e3 e4 e5 e6
    refine ok_imp (n58_ok hn e3) ?_
    rintro ⟨z, F⟩ ⟨hF, hz⟩
    have hF : F = upd2 E 97 10 (bI (w || !decide (nI l ≤ x ∧ x ≤ hi))) := hF
    subst hF
    refine ⟨e1.tr FrA.u10, ?_, ?_, fun g => ?_⟩
    · show upd2 E 97 10 (bI (w || !decide (nI l ≤ x ∧ x ≤ hi))) 97 9 = _
      rw [upd2_s, upd_n (by decide), e2, e4]
    · show upd2 E 97 10 (bI (w || !decide (nI l ≤ x ∧ x ≤ hi))) 97 10 = _
      rw [upd2_s, upd_s, e5]
    · rw [e5] at g
      exact (hz (of_decide_eq_true g)).trans (e6 (by rw [e5]; exact g))
  have no4 : ¬ (nI l ≤ (-4 : Int32) ∧ (-4 : Int32) ≤ hi) := fun k => by
    have := Int32.le_iff_toInt_le.mp k.1
    rw [nI_toInt (by omega)] at this
    have h4 : (-4 : Int32).toInt = -4 := by decide
    omega
  unfold f_M_number
  refine ok_t (kd_at (by omega) rfl) ?_
  refine wk3_run (I := fun t E x i => i = nI t ∧ FrA D E ∧ E 97 10 = bI w ∧ E 97 9 = nI (p + t) ∧ ((t = 0 ∧ x = -4) ∨ (t = 1 ∧ fig m v p ∧ x = nI (la m v p - 48)) ∨ (t = 2 ∧ fig m v p ∧ fig m v (p + 1) ∧ x = nI (10 * (la m v p - 48) + (la m v (p + 1) - 48))))) 2 N _ _ _ (by omega) ⟨rfl, FrA.rf, h10, h9, Or.inl ⟨rfl, rfl⟩⟩ ?_ ?_
  · rintro t ht E x i ⟨rfl, e1, e2, e3, e4⟩ rec hrec
    rcases e4 with ⟨rfl, rfl⟩ | ⟨rfl, f1, rfl⟩ | ⟨rfl, -⟩
    · refine n6_step hP hn (y := 0) (p := p) (hT.fr e1) e3 (by omega) (by decide) (Or.inl ⟨rfl, rfl⟩) (fun c => ?_) (fun c => ?_)
      · have e := num_0 c
        refine it E (-4) p e1 e3 e2 (by unfold nq; rw [e]) ?_ ?_
        · unfold gd; rw [e]; exact (decide_eq_false no4).symm
        · unfold gd; rw [e]; exact fun k => by cases k
      · refine hrec _ _ _ ⟨rfl, e1.tr FrA.u9, ?_, ?_, Or.inr (Or.inl ⟨rfl, c, ?_⟩)⟩
        · rw [upd2_s, upd_n (by decide)]; exact e2
        · rw [upd2_s, upd_s]
        · rw [Nat.mul_zero, Nat.zero_add]
    · have c9 : la m v p ≤ 57 := f1.2
      refine n6_step hP hn (y := la m v p - 48) (p := p + 1) (hT.fr e1) e3 (by omega) (by decide) (Or.inr ⟨rfl, by omega⟩) (fun c => ?_) (fun c => ?_)
      · have e := num_1 f1 c
        refine it E _ (p + 1) e1 e3 e2 (by unfold nq; rw [e]) ?_ ?_
        · unfold gd; rw [e]
        · unfold nvl; rw [e]; exact fun _ => rfl
      · refine hrec _ _ _ ⟨rfl, e1.tr FrA.u9, ?_, ?_, Or.inr (Or.inr ⟨rfl, f1, c, rfl⟩)⟩
        · rw [upd2_s, upd_n (by decide)]; exact e2
        · rw [upd2_s, upd_s]
    · omega
  · rintro E x i ⟨rfl, e1, e2, e3, e4⟩ rec
    rcases e4 with ⟨h, -⟩ | ⟨h, -⟩ | ⟨-, f1, f2, rfl⟩
    · cases h
    · cases h
    · have e := num_2 f1 f2
      unfold f_M_number_6
      refine ok_t (by decide) (it E _ (p + 2) e1 e3 e2 (by unfold nq; rw [e]) ?_ ?_)
      · unfold gd; rw [e]
      · unfold nvl; rw [e]; exact fun _ => rfl
theorem M_due_ok (hP : PB P) (hn : 117 ≤ nx) {c : Nat} {w : Bool} (hc : 33 ≤ c) (hc2 : c < 127) (hT : TXm D m v) (h9 : D 97 9 = nI p) (hp : p < 900) (h10 : D 97 10 = bI w) : OkP (fun E => FrA D E ∧ E 97 9 = nI (p + 1) ∧ E 97 10 = bI (w || !decide (la m v p = c))) (f_M_due N nx D P 97 (nI c)) := by
  have hk : kd nx 97 = 9 := kd_at (by omega) rfl
  have go : ∀ b : Bool, b = (w || !decide (la m v p = c)) → ∀ s1 : Int32, s1 = bI b → OkP (fun E => FrA D E ∧ E 97 9 = nI (p + 1) ∧ E 97 10 = bI (w || !decide (la m v p = c))) (f_M_due_21 N nx D P 97 97 s1) := by
    rintro b hb s1 rfl
    unfold f_M_due_21
    refine ok_t hk (ok_t (by cases b; exact Or.inl rfl; exact Or.inr rfl) (ok_pas (ok_pas (ok_some ⟨FrA.u10.tr FrA.u9, ?_, ?_⟩))))
    · rw [upd2_s, upd_s, upd2_s, upd_n (by decide), h9, nI_1]
    · rw [upd2_s, upd_n (by decide), upd2_s, upd_s, hb]
  unfold f_M_due
  refine ok_t hk ?_
  rw [h10]
  cases w with
  | false =>
    refine ok_t rfl (ok_call (M_here_eq hP hn hT h9 (by omega)) (ok_ite (fun e => go false ?_ 0 rfl) (fun e => go true ?_ 1 rfl)))
    · rw [decide_eq_true ((hr_eq hT hc hc2).mp e)]; rfl
    · rw [decide_eq_false (fun k => e ((hr_eq hT hc hc2).mpr k))]; rfl
  | true => exact ok_f (by decide) (go true rfl 1 rfl)
end MT
