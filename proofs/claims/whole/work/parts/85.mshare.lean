/-! the reference: how all should be borne -/
theorem ix256 (a b : Nat) : (256 : Int32) * nI a + nI b = nI (256 * a + b) := by
  rw [lit 256, pk_mul, nI_add]
theorem xor_lt {a s : Nat} (ha : a < 256) (hs : s < 256) : a ^^^ s < 256 := Nat.xor_lt_two_pow (n := 8) ha hs
/-- what is least, by a set and those who bear it -/
def LV (n : Nat) (b z : Nat → Nat) (j V B : Nat) : Prop := V ≤ 100000 ∧ ∀ x, x < 100000 → (V ≤ x ↔ A2 n b z j (fun t => B.testBit t) x)
theorem zero_of_bits {B : Nat} (hB : B < 256) (h : ∀ t, t < 8 → B.testBit t = false) : B = 0 := Nat.eq_of_testBit_eq (fun j => by
  rw [Nat.zero_testBit]
  rcases Nat.lt_or_ge j 8 with c | c
  · exact h j c
  · have h256 : (2 : Nat) ^ 8 ≤ 2 ^ j := Nat.pow_le_pow_right (by decide) c
    exact Nat.testBit_lt_two_pow (Nat.lt_of_lt_of_le (show B < 2 ^ 8 from hB) h256))
theorem p2lt : ∀ o, o < 8 → 2 ^ o < 256 := by decide
theorem LV_0 {n : Nat} {b z : Nat → Nat} {B : Nat} (hB : B < 256) : LV n b z 0 (if B = 0 then 0 else 100000) B := by
  by_cases c : B = 0
  · rw [if_pos c]
    exact ⟨by omega, fun x _ => ⟨fun _ t _ => (by show B.testBit t = false; rw [c, Nat.zero_testBit]), fun _ => Nat.zero_le _⟩⟩
  · rw [if_neg c]
    exact ⟨Nat.le_refl _, fun x hx => ⟨fun h => (by omega), fun h => absurd (zero_of_bits hB h) c⟩⟩
theorem LV_s {n p a v : Nat} {b z : Nat → Nat} (hp : p < n) (ha : a < 256) (hv : v ≤ 100000) (h : ∀ x, x < 100000 → (v ≤ x ↔ ∃ T, T < 256 ∧ T &&& a = T ∧ b p + szS z (fun t => T.testBit t) ≤ x ∧ A2 n b z (n - (p + 1)) (fun t => (a ^^^ T).testBit t) x)) : LV n b z (n - p) v a := by
  refine ⟨hv, fun x hx => ?_⟩
  have ep : n - (n - (p + 1) + 1) = p := by omega
  rw [h x hx, show n - p = (n - (p + 1)) + 1 by omega]
  show _ ↔ ∃ T : Nat → Bool, (∀ t, t < 8 → T t = true → a.testBit t = true) ∧ b (n - (n - (p + 1) + 1)) + szS z T ≤ x ∧ A2 n b z (n - (p + 1)) (fun t => a.testBit t && !T t) x
  rw [ep]
  constructor
  · rintro ⟨T, h1, h2, h3, h4⟩
    refine ⟨fun t => T.testBit t, fun t _ e => ?_, h3, A2_cong _ _ _ x (by omega) (fun t _ => xor_bit h2) (fun _ _ _ => rfl) h4⟩
    have e : T.testBit t = true := e
    rw [← h2, Nat.testBit_and, Bool.and_eq_true] at e
    exact e.2
  · rintro ⟨T, h1, h2, h3⟩
    have hb : ∀ t, t < 8 → (bt T 8).testBit t = T t := fun t ht => by rw [bt_bit, decide_eq_true ht, Bool.true_and]
    have hsub : bt T 8 &&& a = bt T 8 := Nat.eq_of_testBit_eq (fun j => by
      rw [Nat.testBit_and, bt_bit]
      cases e : (decide (j < 8) && T j) with
      | false => rfl
      | true =>
        rw [Bool.and_eq_true] at e
        rw [h1 j (of_decide_eq_true e.1) e.2]; rfl)
    refine ⟨bt T 8, bt_lt _ 8, hsub, ?_, A2_cong _ _ _ x (by omega) (fun t ht => ?_) (fun _ _ _ => rfl) h3⟩
    · rw [szS_cong (T' := T) hb]; exact h2
    · show (a.testBit t && !T t) = (a ^^^ bt T 8).testBit t
      rw [xor_bit hsub, hb t ht]
theorem LV_mn {n V B : Nat} {b z : Nat → Nat} {r : List Nat} (hn : 1 ≤ n) (h : LV n b z n V B) (hd : r.Nodup) (h8 : ∀ t, t ∈ r → t < 8) (hB : ∀ t, t < 8 → (B.testBit t = true ↔ t ∈ r)) (hc : mn n z r b ≤ 320) : V = mn n z r b := by
  have key : ∀ x, x < 100000 → (V ≤ x ↔ mn n z r b ≤ x) := fun x hx => by
    rw [h.2 x hx, A2_Aw r b _ hd h8 hB, mn_le hn]
  have h1 := (key (mn n z r b) (by omega)).mpr (Nat.le_refl _)
  have h2 := (key V (by omega)).mp (Nat.le_refl _)
  omega
section MW
variable {N nx : Nat} {D : Dt} {P : Ft} {g : Gs}
def Fr2 (D E : Dt) : Prop := ∀ q, q ≠ 110 → q ≠ 111 → E q = D q
theorem Fr2.tr {D E F : Dt} (h : Fr2 D E) (k : Fr2 E F) : Fr2 D F := fun q a b => (k q a b).trans (h q a b)
theorem Fr2.u {D : Dt} {k : Nat} {x : Int32} : Fr2 D (upd2 D 110 k x) := fun _ a _ => upd2_n a
theorem FrO.f2 {D E : Dt} (h : FrO 111 D E) : Fr2 D E := fun q _ b => h q b
theorem Fr2.mr {E : Dt} (hf : Fr2 D E) (h : MR D g) : MR E g ∧ Lo D E := ⟨h.sc (fun q _ _ _ _ a b => hf q a b) (fun k _ => by rw [hf 97 (by decide) (by decide)]), fun q hq => hf q (by omega) (by omega)⟩
theorem leastFor_ok (hP : PB P) (h : MR D g) (ho : GOK g) (hn : 117 ≤ nx) (hN : 500 ≤ N) {set : Nat} {b : Nat → Nat} (hS : set < 256) (hb : ∀ p, p < fN (gF g) → D 110 p = nI (b p)) (hbl : ∀ p, b p ≤ 400) : OkP (fun z => (∃ V, z.1 = nI V ∧ LV (fN (gF g)) b (sZ (gS g)) (fN (gF g)) V set) ∧ FrO 111 D z.2) (f_M_leastFor N nx D P 97 (nI set)) := by
  have hf := ho.1
  have hn5 := hf.2.1
  have hn1 := hf.1
  have hP2 : P 97 2 = some 99 := hP.at (by decide) rfl
  have hP17 : P 97 17 = some 110 := hP.at (by decide) rfl
  have hP18 : P 97 18 = some 111 := hP.at (by decide) rfl
  have hP11 : P 97 11 = some 106 := hP.at (by decide) rfl
  have ab0 : ab nx 99 3 0 = true := ab_ok (t := 3) (N := 2) (kd_at (by omega) rfl) (n := 0) (by decide) (by decide)
  have abL : ∀ j, j < 1536 → ab nx 111 3 (nI j) = true := fun j hj => ab_ok (t := 3) (N := 1536) (kd_at (by omega) rfl) hj (by decide)
  have abB : ∀ j, j < 5 → ab nx 110 3 (nI j) = true := fun j hj => ab_ok (t := 3) (N := 5) (kd_at (by omega) rfl) hj (by decide)
  have fr : ∀ {E : Dt}, FrO 111 D E → MR E g ∧ E 99 (0 : Int32).toNatClampNeg = nI (fN (gF g)) ∧ E 110 = D 110 := fun hE => by
    have hm := (hE.f2.mr h).1
    exact ⟨hm, hm.1.1, hE 110 (by decide)⟩
  generalize hz0 : sZ (gS g) = z
  have hz40 : ∀ t, z t ≤ 40 := fun t => by rw [← hz0]; exact ho.2.1.z40 t
  unfold f_M_leastFor
  refine ok_t (kd_at (by omega) rfl) ?_
  refine wk2_run (I := fun t E i => i = nI t ∧ FrO 111 D E ∧ ∀ B, B < t → E 111 (256 * fN (gF g) + B) = nI (if B = 0 then 0 else 100000)) 256 N _ _ (by omega) ⟨rfl, fun _ _ => rfl, fun B hB => absurd hB (Nat.not_lt_zero B)⟩ ?_ ?_
  · rintro t ht E i ⟨rfl, hfr, hI⟩ rec hrec
    obtain ⟨hm, e99, -⟩ := fr hfr
    unfold f_M_leastFor_2
    refine ok_f (by rw [lit 256, nI_le' (by decide) (by omega)]; omega) (ok_nn hP18 (ok_nn hP2 (ok_t ab0 ?_)))
    rw [e99, ix256, nI_1]
    have fin : ∀ w : Int32, w = nI (if t = 0 then 0 else 100000) → OkP (fun z_1 => (∃ V, z_1.1 = nI V ∧ LV (fN (gF g)) b z (fN (gF g)) V set) ∧ FrO 111 D z_1.2) (rec (upd2 E 111 (256 * fN (gF g) + t) w) (nI (t + 1))) := by
      rintro w rfl
      refine hrec _ _ ⟨rfl, hfr.tr FrO.up, fun B hB => ?_⟩
      rw [upd2_s]
      by_cases c : B = t
      · rw [c, upd_s]
      · rw [upd_n (by omega)]; exact hI B (by omega)
    refine ok_ite (fun c => ok_t (abL _ (by omega)) (ok_pas ?_)) (fun c => ok_t (abL _ (by omega)) (ok_pas ?_))
    · rw [cl (n := 256 * fN (gF g) + t) (by omega)]
      rw [lit 0, nI_inj (by omega) (by decide)] at c
      exact fin _ (by rw [if_pos c]; rfl)
    · rw [cl (n := 256 * fN (gF g) + t) (by omega)]
      rw [lit 0, nI_inj (by omega) (by decide)] at c
      exact fin _ (by rw [if_neg c]; rfl)
  · rintro E0 i ⟨rfl, hfr0, hI0⟩ rec0
    obtain ⟨-, e99, -⟩ := fr hfr0
    unfold f_M_leastFor_2
    refine ok_t (by decide) (ok_nn hP2 (ok_t ab0 ?_))
    rw [e99]
    refine wk2_run (I := fun t E i2 => i2 = nI (fN (gF g) - t) - 1 ∧ FrO 111 D E ∧ ∀ q, fN (gF g) - t ≤ q → q ≤ fN (gF g) → ∀ B, B < 256 → B &&& set = B → ∃ V, E 111 (256 * q + B) = nI V ∧ LV (fN (gF g)) b z (fN (gF g) - q) V B) (fN (gF g)) N _ _ (by omega) ⟨rfl, hfr0, fun q h1 h2 B hB _ => ⟨if B = 0 then 0 else 100000, by rw [show q = fN (gF g) by omega]; exact hI0 B hB, by rw [show fN (gF g) - q = 0 by omega]; exact LV_0 hB⟩⟩ ?_ ?_
    · rintro t ht E i2 ⟨rfl, hfr1, hR⟩ rec1 hrec1
      obtain ⟨p, hp⟩ : ∃ p, fN (gF g) - t = p + 1 := ⟨fN (gF g) - t - 1, by omega⟩
      have ep : nI (fN (gF g) - t) - 1 = nI p := by rw [hp]; exact nI_pred p
      rw [ep]
      rw [hp] at hR
      unfold f_M_leastFor_51
      refine ok_f (nI_nneg (by omega)) ?_
      refine wk2_run (I := fun a F i3 => i3 = nI a ∧ FrO 111 D F ∧ (∀ q, p + 1 ≤ q → q ≤ fN (gF g) → ∀ B, B < 256 → B &&& set = B → ∃ V, F 111 (256 * q + B) = nI V ∧ LV (fN (gF g)) b z (fN (gF g) - q) V B) ∧ ∀ B, B < a → B &&& set = B → ∃ V, F 111 (256 * p + B) = nI V ∧ LV (fN (gF g)) b z (fN (gF g) - p) V B) 256 N _ _ (by omega) ⟨rfl, hfr1, hR, fun B hB => absurd hB (Nat.not_lt_zero B)⟩ ?_ ?_
      · rintro a ha F i3 ⟨rfl, hfr, hR2, hR3⟩ rec2 hrec2
        obtain ⟨hm, -, e110⟩ := fr hfr
        have eb : F 110 p = nI (b p) := by rw [e110]; exact hb p (by omega)
        have fin : ∀ v, (a &&& set = a → LV (fN (gF g)) b z (fN (gF g) - p) v a) → OkP (fun z_1 => (∃ V, z_1.1 = nI V ∧ LV (fN (gF g)) b z (fN (gF g)) V set) ∧ FrO 111 D z_1.2) (f_M_leastFor_176 N nx rec1 rec2 F P 97 (nI set) (nI p) (nI a) (nI v)) := by
          intro v hv
          unfold f_M_leastFor_176
          rw [ix256, nI_1]
          refine ok_nn hP18 (ok_t (abL _ (by omega)) (ok_pas ?_))
          rw [cl (n := 256 * p + a) (by omega)]
          refine hrec2 _ _ ⟨rfl, hfr.tr FrO.up, fun q h1 h2 B hB hs => ?_, fun B hB hs => ?_⟩
          · rw [upd2_s, upd_n (by omega)]; exact hR2 q h1 h2 B hB hs
          · rw [upd2_s]
            by_cases c : B = a
            · rw [c] at hs ⊢
              rw [upd_s]
              exact ⟨v, rfl, hv hs⟩
            · rw [upd_n (by omega)]; exact hR3 B (by omega) hs
        unfold f_M_leastFor_57
        refine ok_f (by rw [lit 256, nI_le' (by decide) (by omega)]; omega) ?_
        by_cases hs : a &&& set = a
        · refine wk2_run (I := fun k i4 i5 => ∃ v, i4 = nI v ∧ v ≤ 100000 ∧ ((∃ c, i5 = nI c ∧ c + k ≤ a ∧ c &&& a = c ∧ ∀ x, x < 100000 → (v ≤ x ↔ ∃ T, T < 256 ∧ T &&& a = T ∧ c < T ∧ b p + szS z (fun t => T.testBit t) ≤ x ∧ A2 (fN (gF g)) b z (fN (gF g) - (p + 1)) (fun t => (a ^^^ T).testBit t) x)) ∨ (i5 = -1 ∧ ∀ x, x < 100000 → (v ≤ x ↔ ∃ T, T < 256 ∧ T &&& a = T ∧ b p + szS z (fun t => T.testBit t) ≤ x ∧ A2 (fN (gF g)) b z (fN (gF g) - (p + 1)) (fun t => (a ^^^ T).testBit t) x)))) (a + 1) N _ _ (by omega) ⟨100000, rfl, Nat.le_refl _, Or.inl ⟨a, rfl, Nat.le_refl _, Nat.and_self a, fun x hx => ⟨fun k => (by omega), fun ⟨T, _, k2, k3, _⟩ => (by
            have : T ≤ a := by rw [← k2]; exact Nat.and_le_right
            omega)⟩⟩⟩ ?_ ?_
          · rintro k hk i4 i5 ⟨v, rfl, hv, hI⟩ rec3 hrec3
            unfold f_M_leastFor_71
            rcases hI with ⟨c, rfl, hck, hca, hcov⟩ | ⟨rfl, hcov⟩
            · have hc256 : c < 256 := by omega
              obtain ⟨V, hV1, hV2⟩ := hR2 (p + 1) (Nat.le_refl _) (by omega) (a ^^^ c) (xor_lt ha hc256) (sub_trans (xor_sub hca) hs)
              have hVl := hV2.1
              have hax := xor_lt ha hc256
              have hszl : szS z (fun t => c.testBit t) ≤ 320 := by
                have := sg_le (g := fun t => if c.testBit t = true then z t else 0) (c := 40) (fun t => by
                  show (if c.testBit t = true then z t else 0) ≤ 40
                  split
                  · exact hz40 t
                  · omega) 8
                exact this
              have hbp := hbl p
              refine ok_f (nI_nneg (by omega)) (ok_t (sub_bI a ha set hS hs) (ok_nn hP17 (ok_t (abB p (by omega)) (ok_nn hP11 (ok_call (M_sizeOf_eq hP hn hm.1 hf ho.2.1 (k106 hn) hm.2.1 (by omega) hc256) (ok_nn hP18 ?_))))))
              rw [and_no a ha c hc256 hca, nI_1 p, ix256, cl (n := p) (by omega), cl (n := 256 * (p + 1) + (a ^^^ c)) (by omega), eb, hV1, hz0]
              refine ok_t (abL _ (by omega)) (ok_pas ?_)
              show OkP _ (if nI (b p) + nI (szS z (fun t => c.testBit t)) ≤ nI V then _ else f_M_leastFor_138 N nx rec1 rec2 rec3 F P 97 (nI set) (nI p) (nI a) (nI v) (nI c) (nI (b p) + nI (szS z (fun t => c.testBit t))))
              rw [nI_add]
              have go : ∀ G, G ≤ 100000 → (∀ x, G ≤ x ↔ (b p + szS z (fun t => c.testBit t) ≤ x ∧ V ≤ x)) → OkP (fun z_1 => (∃ V, z_1.1 = nI V ∧ LV (fN (gF g)) b z (fN (gF g)) V set) ∧ FrO 111 D z_1.2) (f_M_leastFor_138 N nx rec1 rec2 rec3 F P 97 (nI set) (nI p) (nI a) (nI v) (nI c) (nI G)) := by
                intro G hG1 hG2
                have go2 : ∀ w, w ≤ 100000 → (∀ x, w ≤ x ↔ (v ≤ x ∨ G ≤ x)) → OkP (fun z_1 => (∃ V, z_1.1 = nI V ∧ LV (fN (gF g)) b z (fN (gF g)) V set) ∧ FrO 111 D z_1.2) (f_M_leastFor_154 N nx rec1 rec2 rec3 F P 97 (nI set) (nI p) (nI a) (nI c) (nI w)) := by
                  intro w hw1 hw2
                  have cov2 : ∀ x, x < 100000 → (w ≤ x ↔ ∃ T, T < 256 ∧ T &&& a = T ∧ (c < T ∨ T = c) ∧ b p + szS z (fun t => T.testBit t) ≤ x ∧ A2 (fN (gF g)) b z (fN (gF g) - (p + 1)) (fun t => (a ^^^ T).testBit t) x) := fun x hx => by
                    rw [hw2 x, hG2 x, hcov x hx, hV2.2 x hx]
                    constructor
                    · rintro (⟨T, k1, k2, k3, k4⟩ | ⟨k1, k2⟩)
                      · exact ⟨T, k1, k2, Or.inl k3, k4⟩
                      · exact ⟨c, hc256, hca, Or.inr rfl, k1, k2⟩
                    · rintro ⟨T, k1, k2, k3 | k3, k4⟩
                      · exact Or.inl ⟨T, k1, k2, k3, k4⟩
                      · rw [k3] at k4; exact Or.inr k4
                  unfold f_M_leastFor_154
                  refine ok_ite (fun e => ?_) (fun e => ?_)
                  · rw [lit 0, nI_inj (by omega) (by decide)] at e
                    refine hrec3 _ _ ⟨w, rfl, hw1, Or.inr ⟨rfl, fun x hx => ?_⟩⟩
                    rw [cov2 x hx]
                    constructor
                    · rintro ⟨T, k1, k2, -, k4⟩; exact ⟨T, k1, k2, k4⟩
                    · rintro ⟨T, k1, k2, k4⟩; exact ⟨T, k1, k2, by omega, k4⟩
                  · rw [lit 0, nI_inj (by omega) (by decide)] at e
                    have e1 : nI c - 1 = nI (c - 1) := pk_sub (b := 1) (by omega)
                    rw [e1, nI_and]
                    have hle : (c - 1) &&& a ≤ c - 1 := Nat.and_le_left
                    refine hrec3 _ _ ⟨w, rfl, hw1, Or.inl ⟨(c - 1) &&& a, rfl, by omega, by rw [Nat.and_assoc, Nat.and_self], fun x hx => ?_⟩⟩
                    rw [cov2 x hx]
                    constructor
                    · rintro ⟨T, k1, k2, k3, k4⟩; exact ⟨T, k1, k2, by omega, k4⟩
                    · rintro ⟨T, k1, k2, k3, k4⟩
                      refine ⟨T, k1, k2, ?_, k4⟩
                      rcases Nat.lt_or_ge T c with w1 | w1
                      · have := next_sub 8 a c T ha hca k2 w1
                        omega
                      · omega
                unfold f_M_leastFor_138
                refine ok_ite (fun e => ?_) (fun e => ?_)
                · have e := (nI_le' (by omega) (by omega)).mp e
                  exact go2 v hv (fun x => by omega)
                · have e : ¬ v ≤ G := fun k => e ((nI_le' (by omega) (by omega)).mpr k)
                  exact go2 G hG1 (fun x => by omega)
              refine ok_ite (fun e => ?_) (fun e => ?_)
              · have e := (nI_le' (by omega) (by omega)).mp e
                exact go V hVl (fun x => by omega)
              · have e : ¬ b p + szS z (fun t => c.testBit t) ≤ V := fun k => e ((nI_le' (by omega) (by omega)).mpr k)
                exact go _ (by omega) (fun x => by omega)
            · exact ok_t (by decide) (fin v (fun _ => LV_s (by omega) ha hv hcov))
          · rintro i4 i5 ⟨v, rfl, hv, hI⟩ rec3
            rcases hI with ⟨c, rfl, hck, -⟩ | ⟨rfl, hcov⟩
            · omega
            · unfold f_M_leastFor_71
              exact ok_t (by decide) (fin v (fun _ => LV_s (by omega) ha hv hcov))
        · refine wk2_run (I := fun k i4 i5 => i4 = nI 100000 ∧ i5 = nI a) 0 N _ _ (by omega) ⟨rfl, rfl⟩ (fun k hk => absurd hk (Nat.not_lt_zero k)) ?_
          rintro i4 i5 ⟨rfl, rfl⟩ rec3
          unfold f_M_leastFor_71
          exact ok_f (nI_nneg (by omega)) (ok_f (fun e => hs (subB_ok a ha set hS (decide_eq_true e))) (fin 100000 (fun e => absurd e hs)))
      · rintro F i3 ⟨rfl, hfr, hR2, hR3⟩ rec2
        unfold f_M_leastFor_57
        refine ok_t (by decide) ?_
        rw [nI_dn]
        refine hrec1 _ _ ⟨by rw [show fN (gF g) - (t + 1) = p by omega], hfr, fun q h1 h2 B hB hs => ?_⟩
        by_cases c : q = p
        · rw [c]; exact hR3 B hB hs
        · exact hR2 q (by omega) h2 B hB hs
    · rintro E i2 ⟨rfl, hfr, hR⟩ rec1
      obtain ⟨V, hV1, hV2⟩ := hR 0 (by omega) (Nat.zero_le _) set hS (Nat.and_self set)
      rw [Nat.mul_zero, Nat.zero_add] at hV1
      unfold f_M_leastFor_51
      refine ok_t (by rw [Nat.sub_self]; decide) (ok_nn hP18 (ok_t (abL _ (by omega)) (ok_some ⟨⟨V, ?_, hV2⟩, hfr⟩)))
      rw [cl (n := set) (by omega)]; exact hV1
/-- the pins from o on that somebody bears -/
def lm (c : Nat → Bool) (o : Nat) : Nat := bt (fun t => decide (o ≤ t) && c t) 8
theorem lm_bit {c : Nat → Bool} {o t : Nat} (ht : t < 8) : (lm c o).testBit t = (decide (o ≤ t) && c t) := by
  unfold lm
  rw [bt_bit, decide_eq_true ht, Bool.true_and]
theorem lm_hi {c : Nat → Bool} {o t : Nat} (ht : 8 ≤ t) : (lm c o).testBit t = false := by
  unfold lm
  rw [bt_bit, decide_eq_false (by omega), Bool.false_and]
theorem lm_lt (c : Nat → Bool) (o : Nat) : lm c o < 256 := bt_lt _ 8
theorem lm_0 (c : Nat → Bool) : lm c 0 = bt c 8 := bt_cong (fun t _ => by
  rw [decide_eq_true (Nat.zero_le t), Bool.true_and])
theorem lm_no {c : Nat → Bool} {o : Nat} (h : ¬ c o = true) : lm c (o + 1) = lm c o := bt_cong (fun t _ => by
  by_cases k : t = o
  · rw [k, Bool.eq_false_iff.mpr h, Bool.and_false, Bool.and_false]
  · rw [show decide (o + 1 ≤ t) = decide (o ≤ t) from decide_eq_decide.mpr (by omega)])
theorem lm_in {c : Nat → Bool} {o : Nat} (ho : o < 8) (h : c o = true) : 2 ^ o &&& lm c o = 2 ^ o := Nat.eq_of_testBit_eq (fun j => by
  rw [Nat.testBit_and, Nat.testBit_two_pow]
  by_cases k : o = j
  · rw [← k, lm_bit ho, h, decide_eq_true (Nat.le_refl o)]; simp
  · rw [decide_eq_false k]; rfl)
theorem lm_yes {c : Nat → Bool} {o : Nat} (ho : o < 8) (h : c o = true) : lm c o ^^^ 2 ^ o = lm c (o + 1) := Nat.eq_of_testBit_eq (fun j => by
  rw [xor_bit (lm_in ho h), Nat.testBit_two_pow]
  rcases Nat.lt_or_ge j 8 with w | w
  · rw [lm_bit w, lm_bit w]
    by_cases k : o = j
    · rw [decide_eq_true k, decide_eq_false (show ¬ o + 1 ≤ j by omega)]; simp
    · rw [decide_eq_false k, show decide (o + 1 ≤ j) = decide (o ≤ j) from decide_eq_decide.mpr (by omega)]; simp
  · rw [lm_hi w, lm_hi w]; rfl)
theorem lm_mem {c : Nat → Bool} {o : Nat} (ho : o ≤ 8) (t : Nat) (ht : t < 8) : (lm c o).testBit t = true ↔ t ∈ pl c (8 - o) o := by
  rw [lm_bit ht, pl_mem, Bool.and_eq_true, decide_eq_true_eq]
  exact ⟨fun ⟨a, b⟩ => ⟨a, by omega, b⟩, fun ⟨a, _, b⟩ => ⟨a, b⟩⟩
theorem pl_8 {c : Nat → Bool} {o : Nat} (ho : o ≤ 8) (t : Nat) (h : t ∈ pl c (8 - o) o) : t < 8 := by
  have := (pl_mem (8 - o) o t).mp h
  omega
theorem leastFor_mn (hP : PB P) (h : MR D g) (ho : GOK g) (hn : 117 ≤ nx) (hN : 500 ≤ N) {o : Nat} {b : Nat → Nat} (h8 : o ≤ 8) (hb : ∀ p, p < fN (gF g) → D 110 p = nI (b p)) (hbl : ∀ p, b p + 40 * (pl (br' (gS g)) (8 - o) o).length ≤ 320) : OkP (fun z => z.1 = nI (mn (fN (gF g)) (sZ (gS g)) (pl (br' (gS g)) (8 - o) o) b) ∧ FrO 111 D z.2) (f_M_leastFor N nx D P 97 (nI (lm (br' (gS g)) o))) := by
  refine ok_imp (leastFor_ok hP h ho hn hN (lm_lt _ _) hb (fun p => by have := hbl p; omega)) ?_
  rintro ⟨w, E⟩ ⟨⟨V, hV, hLV⟩, hE⟩
  refine ⟨?_, hE⟩
  have hV : w = nI V := hV
  rw [hV, LV_mn ho.1.1 hLV (pl_nodup _ _) (pl_8 h8) (lm_mem h8) (mn_cap ho.1.1 ho.2.1.z40 _ b hbl)]
theorem M_share_ok (hP : PB P) (h : MR D g) (ho : GOK g) (hn : 117 ≤ nx) (hN : 500 ≤ N) (x : Int32) : OkP (fun z => z.1 = oShare g x ∧ MR z.2 g ∧ Lo D z.2) (f_M_share N nx D P 97 x) := by
  have hf := ho.1
  have hn5 := hf.2.1
  have hn1 := hf.1
  have hk8 := hf.2.2.1
  have hz40 := ho.2.1.z40
  have hP2 : P 97 2 = some 99 := hP.at (by decide) rfl
  have hP17 : P 97 17 = some 110 := hP.at (by decide) rfl
  have hP11 : P 97 11 = some 106 := hP.at (by decide) rfl
  have ab0 : ab nx 99 3 0 = true := ab_ok (t := 3) (N := 2) (kd_at (by omega) rfl) (n := 0) (by decide) (by decide)
  have abB : ∀ j, j < 5 → ab nx 110 3 (nI j) = true := fun j hj => ab_ok (t := 3) (N := 5) (kd_at (by omega) rfl) hj (by decide)
  have ab18 : ∀ j, j < 18 → ab nx 106 3 (nI j) = true := fun j hj => ab_ok (t := 3) (N := 18) (kd_at (by omega) rfl) hj (by decide)
  have lens := fun o => pl_len (c := br' (gS g)) (8 - o) o
  have main : (x = -1 ∨ ∃ t, x = nI t ∧ t < fK (gF g)) → OkP (fun z => z.1 = oShare g x ∧ MR z.2 g ∧ Lo D z.2) (f_M_share_15 N nx D P 97 x) := by
    intro hx
    unfold f_M_share_15
    refine ok_nn hP11 (ok_call (M_borne_eq hP hn h.1 hf ho.2.1 (k106 hn) h.2.1 (by omega)) ?_)
    rw [← lm_0]
    refine wk2_run (I := fun t E i => i = nI t ∧ Fr2 D E ∧ ∀ j, j < t → E 110 j = 0) 5 N _ _ (by omega) ⟨rfl, fun _ _ _ => rfl, fun j hj => absurd hj (Nat.not_lt_zero j)⟩ ?_ ?_
    · rintro t ht E i ⟨rfl, hfr, hI⟩ rec hrec
      unfold f_M_share_26
      refine ok_f (le5 ht) (ok_nn hP17 (ok_t (abB t ht) (ok_pas ?_)))
      rw [cl (n := t) (by omega), nI_1]
      refine hrec _ _ ⟨rfl, hfr.tr Fr2.u, fun j hj => ?_⟩
      rw [upd2_s]
      by_cases c : j = t
      · rw [c, upd_s]
      · rw [upd_n c]; exact hI j (by omega)
    · rintro E i ⟨rfl, hfr, hI⟩ rec
      have hE := (hfr.mr h).1
      unfold f_M_share_26
      refine ok_t (by decide) (ok_bind (leastFor_mn (o := 0) (b := fun _ => 0) hP hE ho hn hN (Nat.zero_le _) (fun p hp => hI p (by omega)) (fun p => by have := lens 0; omega)) ?_)
      rintro ⟨w0, F⟩ ⟨hw, hF0⟩
      have hw : w0 = nI (mn (fN (gF g)) (sZ (gS g)) (pl (br' (gS g)) 8 0) (fun _ => 0)) := hw
      have hF : Fr2 D F := hfr.tr (FrO.f2 hF0)
      have hF110 : ∀ j, j < 5 → F 110 j = 0 := fun j hj => by
        have hF0 : FrO 111 E F := hF0
        rw [hF0 110 (by decide)]; exact hI j hj
      have hmF := hF.mr h
      have hcap := mn_cap (n := fN (gF g)) (z := sZ (gS g)) hn1 hz40 (pl (br' (gS g)) 8 0) (fun _ => 0) (fun p => by have := pl_len (c := br' (gS g)) 8 0; omega)
      subst hw
      rcases hx with rfl | ⟨t, rfl, ht⟩
      · refine ok_t rfl ?_
        unfold f_M_share_66
        exact ok_t rfl (ok_some ⟨rfl, hmF⟩)
      · have hne : ∀ u : Nat, u < 100 → ¬ nI u = (-1 : Int32) := by decide
        have hne4 : ∀ u : Nat, u < 100 → ¬ nI u = (-4 : Int32) := by decide
        have eo : oShare g (nI t) = if sP (gS g) t < 5 then nI (shr (fN (gF g)) (sZ (gS g)) (br' (gS g)) 8 0 (fun _ => 0) t) else -4 := by
          unfold oShare
          rw [if_neg (hne t (by omega)), if_pos (show isT (gF g) (nI t) = true from decide_eq_true ⟨nI_nneg (by omega), (nI_lt' (by omega) (by omega)).mpr ht⟩), cl (n := t) (by omega)]
        rw [eo]
        refine ok_f (hne t (by omega)) (ok_nn hP11 (ok_call (M_isBorne_eq (k106 hn) hmF.1.2.1 (by omega)) ?_))
        by_cases ct : sP (gS g) t < 5
        · rw [if_pos ct, if_pos ct]
          refine ok_f (by decide) ?_
          obtain ⟨best, hbest⟩ : ∃ best, best = mn (fN (gF g)) (sZ (gS g)) (pl (br' (gS g)) 8 0) (fun _ => 0) := ⟨_, rfl⟩
          obtain ⟨ans, hans⟩ : ∃ ans, ans = shr (fN (gF g)) (sZ (gS g)) (br' (gS g)) 8 0 (fun _ => 0) t := ⟨_, rfl⟩
          rw [← hbest] at hcap
          show OkP _ (wk4 N (f_M_share_85 N nx P 97 (nI t) (nI (mn (fN (gF g)) (sZ (gS g)) (pl (br' (gS g)) 8 0) (fun _ => 0)))) F (nI (lm (br' (gS g)) 0)) (-4) 0)
          rw [← hbest, ← hans]
          refine wk4_run (I := fun o E i2 i4 i5 => i5 = nI o ∧ Fr2 D E ∧ i2 = nI (lm (br' (gS g)) o) ∧ (o ≤ t → ∃ b, (∀ p, p < fN (gF g) → E 110 p = nI (b p)) ∧ (∀ p, b p + 40 * (pl (br' (gS g)) (8 - o) o).length ≤ 320) ∧ mn (fN (gF g)) (sZ (gS g)) (pl (br' (gS g)) (8 - o) o) b = best ∧ ans = shr (fN (gF g)) (sZ (gS g)) (br' (gS g)) (8 - o) o b t) ∧ (o = t + 1 → i4 = nI ans)) (t + 1) N _ _ _ _ (by omega) ⟨rfl, hF, rfl, fun _ => ⟨fun _ => 0, fun p hp => hF110 p (by omega), fun p => (by have := lens 0; show 0 + 40 * (pl (br' (gS g)) (8 - 0) 0).length ≤ 320; omega), hbest.symm, hans⟩, fun e => (by cases e)⟩ ?_ ?_
          · rintro o ho8 E2 i2 i4 i5 ⟨rfl, hfr2, rfl, hb, -⟩ rec2 hrec2
            obtain ⟨b, hb1, hb2, hb3, hb4⟩ := hb (by omega)
            have hE2 := (hfr2.mr h).1
            have e8 : 8 - o = (8 - (o + 1)) + 1 := by omega
            unfold f_M_share_85
            refine ok_f (by rw [nI_lt' (by omega) (by omega)]; omega) (ok_nn hP11 (ok_call (M_isBorne_eq (k106 hn) hE2.2.1 (by omega)) ?_))
            by_cases co : sP (gS g) o < 5
            · have cb : br' (gS g) o = true := decide_eq_true co
              rw [if_pos co]
              refine ok_f (by decide) ?_
              rw [sh1 o (by omega), and_no _ (lm_lt _ _) _ (p2lt o (by omega)) (lm_in (by omega) cb), lm_yes (by omega) cb]
              rw [e8, pl_t cb] at hb2 hb3
              rw [e8, shr_s, if_pos cb] at hb4
              have hb3 : mi (fun p => mn (fN (gF g)) (sZ (gS g)) (pl (br' (gS g)) (8 - (o + 1)) (o + 1)) (ad b p (sZ (gS g) o))) (fN (gF g)) = best := hb3
              have hlen : (o :: pl (br' (gS g)) (8 - (o + 1)) (o + 1)).length = (pl (br' (gS g)) (8 - (o + 1)) (o + 1)).length + 1 := List.length_cons
              rw [hlen] at hb2
              have hz := hz40 o
              obtain ⟨f, hfd⟩ : ∃ f, f = fun p => mn (fN (gF g)) (sZ (gS g)) (pl (br' (gS g)) (8 - (o + 1)) (o + 1)) (ad b p (sZ (gS g) o)) := ⟨_, rfl⟩
              rw [← hfd] at hb3 hb4
              obtain ⟨ha1, ha2, ha3⟩ := ar_f (f := f) (fN (gF g)) hn1
              rw [hb3] at ha2 ha3
              generalize ar f (fN (gF g)) = a at ha1 ha2 ha3 hb4
              have bnd : ∀ p q, ad b p (sZ (gS g) o) q + 40 * (pl (br' (gS g)) (8 - (o + 1)) (o + 1)).length ≤ 320 := fun p q => by
                have := hb2 q
                unfold ad; split <;> omega
              have go : ∀ F : Dt, Fr2 D F → (∀ q, q < fN (gF g) → F 110 q = nI (ad b a (sZ (gS g) o) q)) → OkP (fun z => z.1 = nI ans ∧ MR z.2 g ∧ Lo D z.2) (rec2 F (nI (lm (br' (gS g)) (o + 1))) (nI a) (nI o + 1)) := by
                intro F h1 h2
                rw [nI_1]
                refine hrec2 _ _ _ _ ⟨rfl, h1, rfl, fun k => ⟨ad b a (sZ (gS g) o), h2, bnd a, ?_, ?_⟩, fun k => ?_⟩
                · rw [← ha2, hfd]
                · rw [if_neg (by omega)] at hb4; exact hb4
                · rw [if_pos (by omega)] at hb4; rw [hb4]
              refine wk3_run (I := fun p F i4 i6 => i6 = nI p ∧ Fr2 D F ∧ ((p ≤ a ∧ i4 = -4 ∧ ∀ q, q < fN (gF g) → F 110 q = nI (b q)) ∨ (p = a + 1 ∧ i4 = nI a ∧ ∀ q, q < fN (gF g) → F 110 q = nI (ad b a (sZ (gS g) o) q)))) (fN (gF g)) N _ _ _ (by omega) ⟨rfl, hfr2, Or.inl ⟨Nat.zero_le _, rfl, hb1⟩⟩ ?_ ?_
              · rintro p hp F i4 i6 ⟨rfl, g1, g2⟩ rec3 hrec3
                have hmF := (g1.mr h).1
                have e99 : F 99 (0 : Int32).toNatClampNeg = nI (fN (gF g)) := hmF.1.1
                have e106 : F 106 (10 + o) = nI (sZ (gS g) o) := hmF.2.1.sz (by omega)
                unfold f_M_share_119
                refine ok_nn hP2 (ok_t ab0 ?_)
                rw [e99]
                refine ok_f (i2_lt hp (by omega)) ?_
                rcases g2 with ⟨k1, rfl, k3⟩ | ⟨k1, rfl, k3⟩
                · rw [ix10]
                  refine ok_t rfl (ok_nn hP17 (ok_t (abB p (by omega)) (ok_nn hP11 (ok_t (ab18 _ (by omega)) (ok_t (abB p (by omega)) (ok_pas ?_))))))
                  rw [cl (n := p) (by omega), cl (n := 10 + o) (by omega), k3 p hp, e106, nI_add]
                  have g3 : Fr2 D (upd2 F 110 p (nI (b p + sZ (gS g) o))) := g1.tr Fr2.u
                  have g4 : ∀ q, q < fN (gF g) → upd2 F 110 p (nI (b p + sZ (gS g) o)) 110 q = nI (ad b p (sZ (gS g) o) q) := fun q hq => by
                    rw [upd2_s]
                    by_cases c : q = p
                    · rw [c, upd_s, ad_s]
                    · rw [upd_n c, ad_n c]; exact k3 q hq
                  have g6 : upd2 F 110 p (nI (b p + sZ (gS g) o)) 106 = F 106 := upd2_n (by decide)
                  revert g3 g4 g6
                  generalize upd2 F 110 p (nI (b p + sZ (gS g) o)) = F1
                  intro g3 g4 g6
                  refine ok_bind (leastFor_mn (o := o + 1) (b := ad b p (sZ (gS g) o)) hP (g3.mr h).1 ho hn hN (by omega) g4 (bnd p)) ?_
                  rintro ⟨w, F2⟩ ⟨hw, hF2⟩
                  have hF2 : FrO 111 F1 F2 := hF2
                  have hw : w = nI (f p) := by rw [hfd]; exact hw
                  have hfc : f p ≤ 320 := by rw [hfd]; exact mn_cap hn1 hz40 _ _ (bnd p)
                  have g5 : Fr2 D F2 := g3.tr (FrO.f2 hF2)
                  have g7 : ∀ q, q < fN (gF g) → F2 110 q = nI (ad b p (sZ (gS g) o) q) := fun q hq => by rw [hF2 110 (by decide)]; exact g4 q hq
                  have g8 : F2 106 (10 + o) = nI (sZ (gS g) o) := by rw [hF2 106 (by decide), g6]; exact e106
                  show OkP _ (if nI best < w then f_M_share_173 N nx rec2 rec3 F2 P 97 (nI t) (nI (lm (br' (gS g)) (o + 1))) (nI best) (nI o) (nI p) (-4) else f_M_share_173 N nx rec2 rec3 F2 P 97 (nI t) (nI (lm (br' (gS g)) (o + 1))) (nI best) (nI o) (nI p) (nI p))
                  rw [hw]
                  refine ok_ite (fun e => ?_) (fun e => ?_)
                  · have e := (nI_lt' (by omega) (by omega)).mp e
                    have hpa : p ≠ a := fun k => by rw [k, ha2] at e; omega
                    unfold f_M_share_173
                    rw [ix10, nI_1]
                    refine ok_nn hP17 (ok_t (abB p (by omega)) (ok_t rfl (ok_nn hP11 (ok_t (ab18 _ (by omega)) (ok_t (abB p (by omega)) (ok_pas ?_))))))
                    rw [cl (n := p) (by omega), cl (n := 10 + o) (by omega), g7 p hp, g8, ad_s, pk_sub (by omega), show b p + sZ (gS g) o - sZ (gS g) o = b p by omega]
                    refine hrec3 _ _ _ ⟨rfl, g5.tr Fr2.u, Or.inl ⟨by omega, rfl, fun q hq => ?_⟩⟩
                    rw [upd2_s]
                    by_cases c : q = p
                    · rw [c, upd_s]
                    · rw [upd_n c, g7 q hq, ad_n c]
                  · have e : ¬ best < f p := fun k => e ((nI_lt' (by omega) (by omega)).mpr k)
                    have hpa : p = a := by
                      rcases Nat.lt_or_ge p a with w1 | w1
                      · exact absurd (ha3 p w1) e
                      · omega
                    unfold f_M_share_173
                    rw [nI_1]
                    refine ok_nn hP17 (ok_t (abB p (by omega)) (ok_f (hne4 p (by omega)) (ok_t (abB p (by omega)) (ok_pas ?_))))
                    have es : nI (ad b p (sZ (gS g) o) p) - 0 = nI (ad b p (sZ (gS g) o) p) := pk_sub (b := 0) (Nat.zero_le _)
                    rw [cl (n := p) (by omega), g7 p hp, es]
                    refine hrec3 _ _ _ ⟨rfl, g5.tr Fr2.u, Or.inr ⟨by omega, by rw [hpa], fun q hq => ?_⟩⟩
                    rw [upd2_s, ← hpa]
                    by_cases c : q = p
                    · rw [c, upd_s]
                    · rw [upd_n c]; exact g7 q hq
                · exact ok_f (hne4 a (by omega)) (go F g1 k3)
              · rintro F i4 i6 ⟨rfl, g1, g2⟩ rec3
                have hmF := (g1.mr h).1
                have e99 : F 99 (0 : Int32).toNatClampNeg = nI (fN (gF g)) := hmF.1.1
                unfold f_M_share_119
                refine ok_nn hP2 (ok_t ab0 ?_)
                rw [e99]
                refine ok_t (i2_ge (Nat.le_refl _) (by omega)) ?_
                rcases g2 with ⟨k1, -⟩ | ⟨k1, rfl, k3⟩
                · omega
                · exact go F g1 k3
            · have cb : ¬ br' (gS g) o = true := fun e => co (of_decide_eq_true e)
              rw [if_neg co]
              rw [e8, pl_f cb] at hb2 hb3
              rw [e8, shr_s, if_neg cb] at hb4
              refine ok_t rfl ?_
              rw [nI_1]
              refine hrec2 _ _ _ _ ⟨rfl, hfr2, by rw [lm_no cb], fun k => ⟨b, hb1, hb2, hb3, hb4⟩, fun k => ?_⟩
              exact absurd (show sP (gS g) o < 5 by rw [show o = t by omega]; exact ct) co
          · rintro E2 i2 i4 i5 ⟨rfl, hfr2, rfl, -, hlast⟩ rec2
            unfold f_M_share_85
            exact ok_t (by rw [nI_lt' (by omega) (by omega)]; omega) (ok_some ⟨hlast rfl, hfr2.mr h⟩)
        · rw [if_neg ct, if_neg ct]
          refine ok_t rfl ?_
          unfold f_M_share_66
          exact ok_f (hne t (by omega)) (ok_some ⟨rfl, hmF⟩)
  unfold f_M_share
  refine ok_t (kd_at (by omega) rfl) (ok_ite (fun c => main (Or.inl c)) (fun c => ok_call (M_isPin_eq hP hn h.1 hf x) ?_))
  by_cases q : isT (gF g) x = true
  · obtain ⟨t, ht1, ht2⟩ := isT_up hf q
    rw [if_pos q]
    exact ok_f (by decide) (main (Or.inr ⟨t, ht1, ht2⟩))
  · rw [if_neg q]
    refine ok_t rfl (ok_some ⟨?_, h, Lo.rf⟩)
    show -1 = oShare g x
    unfold oShare
    rw [if_neg c, if_neg q]
end MW
