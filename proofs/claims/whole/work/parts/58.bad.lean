/-! the class: how likely somebody breaks, on days that may be bad -/
/-- of ten to the days, how many -/
def bw (f : Fam) (p x : Nat) : Nat → St → Nat
  | 0, _ => 0
  | m + 1, s => x * (if brk f (day f (badS s)) p = true then 10 ^ m else bw f p x m (day f (badS s))) + (10 - x) * (if brk f (day f s) p = true then 10 ^ m else bw f p x m (day f s))
theorem bw_s {f : Fam} {p x m : Nat} {s : St} : bw f p x (m + 1) s = x * (if brk f (day f (badS s)) p = true then 10 ^ m else bw f p x m (day f (badS s))) + (10 - x) * (if brk f (day f s) p = true then 10 ^ m else bw f p x m (day f s)) := rfl
def oBad (g : Gs) (p n x w : Int32) : Int32 := if isP (gF g) p = true ∧ (nI 0 ≤ n ∧ n ≤ nI 8) ∧ (nI 0 ≤ x ∧ x ≤ nI 10) ∧ (nI 0 ≤ w ∧ w ≤ nI 1) then (if w = 0 then nI (bw (gF g) p.toNatClampNeg x.toNatClampNeg n.toNatClampNeg (gS g) / Nat.gcd (bw (gF g) p.toNatClampNeg x.toNatClampNeg n.toNatClampNeg (gS g)) (10 ^ n.toNatClampNeg)) else nI (10 ^ n.toNatClampNeg / Nat.gcd (bw (gF g) p.toNatClampNeg x.toNatClampNeg n.toNatClampNeg (gS g)) (10 ^ n.toNatClampNeg))) else -1
theorem bw_le {f : Fam} {p x : Nat} (hx : x ≤ 10) : ∀ (m : Nat) (s : St), bw f p x m s ≤ 10 ^ m
  | 0, _ => Nat.zero_le _
  | m + 1, s => by
    have h1 : (if brk f (day f (badS s)) p = true then 10 ^ m else bw f p x m (day f (badS s))) ≤ 10 ^ m := by
      split
      · exact Nat.le_refl _
      · exact bw_le hx m _
    have h2 : (if brk f (day f s) p = true then 10 ^ m else bw f p x m (day f s)) ≤ 10 ^ m := by
      split
      · exact Nat.le_refl _
      · exact bw_le hx m _
    have h3 := Nat.mul_le_mul_left x h1
    have h4 := Nat.mul_le_mul_left (10 - x) h2
    show x * _ + (10 - x) * _ ≤ 10 ^ (m + 1)
    have h5 : x * 10 ^ m + (10 - x) * 10 ^ m = 10 ^ (m + 1) := by
      rw [← Nat.add_mul, Nat.pow_succ, Nat.mul_comm (10 ^ m) 10, show x + (10 - x) = 10 by omega]
    omega
theorem badS_ok {f : Fam} {s : St} (hv : StOK f s) : StOK f (badS s) := by
  refine ⟨fun t ht => ?_, fun t ht => ?_, hv.2.2⟩
  · obtain ⟨a, b, c⟩ := hv.1 t ht
    refine ⟨a, ?_, fun h => ?_⟩
    · show (if sP s t < 5 then (if sZ s t + 1 < 40 then sZ s t + 1 else 40) else sZ s t) ≤ 40
      split
      · split <;> omega
      · exact b
    · show 1 ≤ (if sP s t < 5 then (if sZ s t + 1 < 40 then sZ s t + 1 else 40) else sZ s t)
      split
      · split <;> omega
      · exact c h
  · obtain ⟨a, b⟩ := hv.2.1 t ht
    refine ⟨a, ?_⟩
    show (if sP s t < 5 then (if sZ s t + 1 < 40 then sZ s t + 1 else 40) else sZ s t) = 0
    rw [if_neg (by omega)]; exact b
section OI
variable {N nx : Nat} {D : Dt} {P : Ft} {g : Gs}
theorem tenTo_eq {m : Nat} (hm : m ≤ 8) (hN : 100 ≤ N) : f_B_tenTo N nx D P (nI m) = some (lN (10 ^ m)) := by
  apply ok_val
  unfold f_B_tenTo
  refine wk2_run (I := fun t l i => i = nI t ∧ l = lN (10 ^ t)) m N _ _ (by omega) ⟨rfl, rfl⟩ ?_ ?_
  · rintro t ht l i ⟨rfl, rfl⟩ rec hrec
    unfold f_B_tenTo_4
    refine ok_f (i2_lt ht (by omega)) (ok_f (le8 (by omega)) ?_)
    rw [nI_1]
    refine hrec _ _ ⟨rfl, ?_⟩
    show lN (10 ^ t) * lN 10 = _
    rw [lN_mul, Nat.pow_succ]
  · rintro l i ⟨rfl, rfl⟩ rec
    unfold f_B_tenTo_4
    exact ok_t (i2_ge (Nat.le_refl _) (by omega)) (ok_some rfl)
theorem rung_in (hP : PB P) (hn : 97 ≤ nx) {i : Nat} (hi : i < 9) : f_B_rung N nx D P 68 (nI i) = some (some (70 + 3 * i)) := by
  have k69 : kd nx 69 = 40009 := kd_at (by omega) rfl
  have hr : ∀ i, i < 9 → P0 69 i = some (70 + 3 * i) := by decide
  unfold f_B_rung
  rw [if_pos (show kd nx 68 = 0 from kd_at (by omega) rfl), if_neg (nI_nneg (by omega)), hP.at (by decide) (show P0 68 0 = some 69 from rfl), nn_some, if_pos (by rw [k69]; exact Or.inr rfl), if_neg (by rw [k69]; exact i2_lt (n := 9) hi (by omega)), if_pos (ab_ok (t := 4) (N := 9) k69 hi (by decide)), cl (by omega), hP.at (by decide) (hr i hi)]
  rfl
theorem rung_out (hP : PB P) (hn : 97 ≤ nx) : f_B_rung N nx D P 68 (nI 9) = some none := by
  have k69 : kd nx 69 = 40009 := kd_at (by omega) rfl
  unfold f_B_rung
  rw [if_pos (show kd nx 68 = 0 from kd_at (by omega) rfl), if_neg (nI_nneg (by omega)), hP.at (by decide) (show P0 68 0 = some 69 from rfl), nn_some, if_pos (by rw [k69]; exact Or.inr rfl), if_pos (by rw [k69]; decide)]
def FrB (i : Nat) (D E : Dt) : Prop := ∀ q, q < 73 + 3 * i ∨ 97 ≤ q → E q = D q
theorem FrB.tr {i : Nat} {D E F : Dt} (h : FrB i D E) (k : FrB i E F) : FrB i D F := fun q a => (k q a).trans (h q a)
/-- what holds wherever the class is in its search -/
def BR (D : Dt) (f : Fam) (p n x : Nat) : Prop := CF D 4 f ∧ D 68 1 = nI p ∧ D 68 2 = nI n ∧ D 68 3 = nI x
theorem BR.fr {i : Nat} {D E : Dt} {f : Fam} {p n x : Nat} (h : BR D f p n x) (k : FrB i D E) : BR E f p n x := by
  unfold BR
  rw [k 68 (by omega)]
  exact ⟨h.1.nn (k 4 (by omega)) (k 5 (by omega)) (k 6 (by omega)) (k 7 (by omega)), h.2⟩
theorem Fr3.frB {i : Nat} {D E : Dt} (h : Fr3 D E (73 + 3 * i)) (hi : i < 8) : FrB i D E := fun q hq => h q (by omega) (by omega) (by omega)
theorem b48_ok {f : Fam} {s : St} {p n x i l acc e m : Nat} (w : Nat) (s1 : St) {slf : Dt → Ft → Nat → Int32 → Int64 → Option (Int64 × Dt)} {rec : Dt → Int64 → Int32 → Option (Int64 × Dt)} {Q : Int64 × Dt → Prop} (hP : PB P) (hn : 97 ≤ nx) (hN : 100 ≤ N) (hf : FamOK f) (hp : p < fN f) (hx : x ≤ 10) (hi : i + 1 + m = n) (hn8 : n ≤ 8) (he : e < 2) (ew : w = if e = 0 then x else 10 - x) (es : s1 = if e = 0 then badS s else s) (h : BR D f p n x) (hc : CS D (70 + 3 * i) s) (hv : StOK f s)
    (hslf : ∀ (F : Dt) (s' : St) (l' : Nat), BR F f p n x → CS F (73 + 3 * i) s' → StOK f s' → l' ≤ 10 * l → OkP (fun z => z.1 = lN (l' * bw f p x m s') ∧ FrB (i + 1) F z.2) (slf F P 68 (nI (i + 1)) (lN l')))
    (hrec : ∀ F, FrB i D F → OkP Q (rec F (lN (acc + l * (w * (if brk f (day f s1) p = true then 10 ^ m else bw f p x m (day f s1))))) (nI (e + 1)))) :
    OkP Q (f_B_breakingFrom_48 N nx slf P 68 (nI i) (lN l) (70 + 3 * i) (73 + 3 * i) rec D (lN acc) (nI e)) := by
  have hmem : ∀ i, i < 9 → 70 + 3 * i ∈ SL := by decide
  have hsa := StA.of (nx := nx) (a := 70 + 3 * i) hP hn (hmem i (by omega))
  have hsb := StA.of (nx := nx) (a := 73 + 3 * i) hP hn (by have := hmem (i + 1) (by omega); rwa [show 70 + 3 * (i + 1) = 73 + 3 * i by omega] at this)
  have hfa := FaA.of4 (nx := nx) hP hn
  have h68 : kd nx 68 = 0 := kd_at (by omega) rfl
  have hn5 := hf.2.1
  have key96 : ∀ (E : Dt), FrB i D E → CS E (73 + 3 * i) s1 → StOK f s1 → w ≤ 10 → OkP Q (f_B_breakingFrom_96 N nx slf rec E P 68 (nI i) (lN l) (70 + 3 * i) (73 + 3 * i) (lN acc) (nI e) (lN (l * w))) := by
    intro E hfr hc1 hv1 hw
    have hE := h.fr hfr
    unfold f_B_breakingFrom_96
    refine ok_t hsb.1 (ok_bind (goDay_ok hsb hfa hE.1 hc1 hf hv1 (by omega) hN) (fun F hF => ok_t h68 ?_))
    have hfF : FrB i E F := hF.2.frB (by omega)
    have hBF := hE.fr hfF
    have hvd := day_ok hf hv1
    rw [hBF.2.1]
    refine ok_call (isBroken_eq hsb hfa hBF.1 hF.1 hf (hvd.p8 hf) (fun t => hvd.z40 t) hN p hp) ?_
    by_cases c : brk f (day f s1) p = true
    · rw [if_pos c] at hrec ⊢
      refine ok_f (by decide) ?_
      rw [hBF.2.2.1]
      have en : nI n - nI i - 1 = nI m := by
        have e1 : nI n - nI i = nI (n - i) := pk_sub (by omega)
        have e2 : nI (n - i) - 1 = nI (n - i - 1) := pk_sub (b := 1) (by omega)
        rw [e1, e2, show n - i - 1 = m by omega]
      rw [en]
      refine ok_call (tenTo_eq (by omega) hN) ?_
      rw [lN_mul, lN_add, nI_1, Nat.mul_assoc]
      exact hrec F (hfr.tr hfF)
    · rw [if_neg c] at hrec ⊢
      refine ok_t rfl ?_
      rw [nI_1]
      have hlw : l * w ≤ 10 * l := by rw [Nat.mul_comm 10 l]; exact Nat.mul_le_mul_left l hw
      refine ok_bind (hslf F (day f s1) (l * w) hBF hF.1 hvd hlw) ?_
      rintro ⟨z, G⟩ ⟨rfl, hG⟩
      show OkP Q (rec G (lN acc + lN (l * w * bw f p x m (day f s1))) (nI e + 1))
      rw [lN_add, nI_1, Nat.mul_assoc]
      have hG : FrB (i + 1) F G := hG
      exact hrec G ((hfr.tr hfF).tr (fun q hq => hG q (by omega)))
  have hcopy : OkP (fun E => CS E (73 + 3 * i) s ∧ Fr3 D E (73 + 3 * i)) (f_C_copyFrom N nx D P (73 + 3 * i) (70 + 3 * i)) := copyFrom_ok hsb hsa (by omega) hc hN
  have e64 : ∀ w, w ≤ 10 → lN l * Int32.toInt64 (nI w) = lN (l * w) := fun w hw => by rw [nI_l (by omega), lN_mul]
  unfold f_B_breakingFrom_48
  refine ok_f (by rw [lit 1, nI_lt' (by decide) (by omega)]; omega) ?_
  by_cases c : e = 1
  · subst c
    have ew1 : w = 10 - x := ew
    have es1 : s1 = s := es
    refine ok_t rfl (ok_t h68 ?_)
    unfold f_B_breakingFrom_75
    rw [h.2.2.2]
    have e10 : 10 - nI x = nI (10 - x) := pk_sub (a := 10) (by omega)
    rw [e10, ← ew1, e64 _ (by omega)]
    exact ok_t hsb.1 (ok_bind hcopy (fun E hE => ok_f (by decide) (key96 E (hE.2.frB (by omega)) (by rw [es1]; exact hE.1) (by rw [es1]; exact hv) (by omega))))
  · have : e = 0 := by omega
    subst this
    have ew1 : w = x := ew
    have es1 : s1 = badS s := es
    refine ok_f (by decide) (ok_t h68 ?_)
    unfold f_B_breakingFrom_75
    rw [h.2.2.2, ← ew1, e64 _ (by omega)]
    refine ok_t hsb.1 (ok_bind hcopy (fun E hE => ok_t rfl (ok_bind (growBorne_ok hsb hE.1 (hv.p8 hf) (fun t => hv.z40 t) hN) (fun F hF => ?_))))
    exact key96 F ((hE.2.tr hF.2).frB (by omega)) (by rw [es1]; exact hF.1) (by rw [es1]; exact badS_ok hv) (by omega)
theorem bFrom_ok {f : Fam} {p n x : Nat} (hP : PB P) (hn : 97 ≤ nx) (hN : 100 ≤ N) (hf : FamOK f) (hp : p < fN f) (hx : x ≤ 10) (hn8 : n ≤ 8) : ∀ (m d i l : Nat) (D : Dt) (s : St), m + 1 ≤ d → i + m = n → l ≤ 10 ^ i → BR D f p n x → CS D (70 + 3 * i) s → StOK f s → OkP (fun z => z.1 = lN (l * bw f p x m s) ∧ FrB i D z.2) (f_B_breakingFrom N nx d D P 68 (nI i) (lN l)) := by
  intro m
  induction m with
  | zero =>
    intro d i l D s hd him hl h hc hv
    obtain ⟨d, rfl⟩ : ∃ k, d = k + 1 := ⟨d - 1, by omega⟩
    show OkP _ (f_B_breakingFrom_b N nx (f_B_breakingFrom N nx d) D P 68 (nI i) (lN l))
    unfold f_B_breakingFrom_b
    refine ok_t (kd_at (by omega) rfl) (ok_call (rung_in hP hn (by omega)) (ok_orS rfl ?_))
    rw [nI_1, h.2.2.1]
    have fin : OkP (fun z => z.1 = lN (l * bw f p x 0 s) ∧ FrB i D z.2) (some ((0 : Int64), D)) := ok_some ⟨by rw [show bw f p x 0 s = 0 from rfl, Nat.mul_zero]; rfl, fun q _ => rfl⟩
    by_cases c : i + 1 < 9
    · refine ok_call (rung_in hP hn c) (ok_orS rfl (ok_t (i2_ge (by omega) (by omega)) fin))
    · rw [show i + 1 = 9 by omega]
      exact ok_call (rung_out hP hn) (ok_orN rfl (ok_t (i2_ge (by omega) (by omega)) fin))
  | succ m ih =>
    intro d i l D s hd him hl h hc hv
    obtain ⟨d, rfl⟩ : ∃ k, d = k + 1 := ⟨d - 1, by omega⟩
    obtain ⟨M, rfl⟩ : ∃ M, N = M + 3 := ⟨N - 3, by omega⟩
    have h10 : (10 : Nat) ^ i ≤ 100000000 := Nat.le_trans (Nat.pow_le_pow_right (show 10 > 0 by decide) (show i ≤ 8 by omega)) (show 10 ^ 8 ≤ 100000000 by decide)
    show OkP _ (f_B_breakingFrom_b (M + 3) nx (f_B_breakingFrom (M + 3) nx d) D P 68 (nI i) (lN l))
    unfold f_B_breakingFrom_b
    refine ok_t (kd_at (by omega) rfl) (ok_call (rung_in hP hn (by omega)) (ok_orS rfl ?_))
    rw [nI_1, h.2.2.1]
    refine ok_call (rung_in hP hn (by omega)) (ok_orS rfl (ok_f (i2_lt (by omega) (by omega)) ?_))
    have hl1 : lg_cmp (lN l) 1 < 0 ↔ l < 1 := by
      rw [lg_cmp_lt]
      exact pk_lLT (b := 1) (by omega) (by decide)
    refine ok_ite (fun c => ?_) (fun c => ?_)
    · have c := hl1.mp c
      refine ok_some ⟨?_, fun q _ => rfl⟩
      rw [show l = 0 by omega, Nat.zero_mul]; rfl
    · rw [show 70 + 3 * (i + 1) = 73 + 3 * i by omega]
      have hslf : ∀ (F : Dt) (s' : St) (l' : Nat), BR F f p n x → CS F (73 + 3 * i) s' → StOK f s' → l' ≤ 10 * l → OkP (fun z => z.1 = lN (l' * bw f p x m s') ∧ FrB (i + 1) F z.2) (f_B_breakingFrom (M + 3) nx d F P 68 (nI (i + 1)) (lN l')) := by
        intro F s' l' hF hc' hv' hl'
        refine ih d (i + 1) l' F s' (by omega) (by omega) ?_ hF (by rwa [show 70 + 3 * (i + 1) = 73 + 3 * i by omega]) hv'
        rw [Nat.pow_succ]; omega
      have w3 : ∀ (n : Nat) (F : (Dt → Int64 → Int32 → Option (Int64 × Dt)) → Dt → Int64 → Int32 → Option (Int64 × Dt)) (a : Dt) (b : Int64) (c : Int32), wk3 (n + 1) F a b c = F (wk3 n F) a b c := fun n F a b c => rfl
      rw [w3]
      refine b48_ok (acc := 0) (e := 0) x (badS s) hP hn hN hf hp hx (by omega) hn8 (by decide) rfl rfl h hc hv hslf (fun F hF => ?_)
      rw [w3]
      refine b48_ok (10 - x) s hP hn hN hf hp hx (by omega) hn8 (by decide) rfl rfl (h.fr hF) (hc.at1 (hF _ (by omega)) (hF _ (by omega)) (hF _ (by omega))) hv hslf (fun G hG => ?_)
      rw [w3]
      unfold f_B_breakingFrom_48
      refine ok_t (show (1 : Int32) < nI 2 by decide) (ok_some ⟨?_, hF.tr hG⟩)
      show lN _ = lN _
      rw [bw_s, Nat.zero_add, Nat.mul_add]
end OI
