/-! the same, by sets -/
def szS (z : Nat → Nat) (T : Nat → Bool) : Nat := sg (fun t => if T t = true then z t else 0) 8
def A2 (n : Nat) (b z : Nat → Nat) : Nat → (Nat → Bool) → Nat → Prop
  | 0, S, _ => ∀ t, t < 8 → S t = false
  | j + 1, S, v => ∃ T : Nat → Bool, (∀ t, t < 8 → T t = true → S t = true) ∧ b (n - (j + 1)) + szS z T ≤ v ∧ A2 n b z j (fun t => S t && !T t) v
theorem szS_cong {z : Nat → Nat} {T T' : Nat → Bool} (h : ∀ t, t < 8 → T t = T' t) : szS z T = szS z T' := sg_cong (fun t ht => by
  show (if T t = true then z t else 0) = _
  rw [h t ht])
theorem A2_cong {n : Nat} {b b' z : Nat → Nat} : ∀ (j : Nat) (S S' : Nat → Bool) (v : Nat), j ≤ n → (∀ t, t < 8 → S t = S' t) → (∀ p, n - j ≤ p → p < n → b p = b' p) → A2 n b z j S v → A2 n b' z j S' v
  | 0, S, S', v, _, h, _, k => fun t ht => by rw [← h t ht]; exact k t ht
  | j + 1, S, S', v, hj, h, hb, ⟨T, k1, k2, k3⟩ => ⟨T, fun t ht e => by rw [← h t ht]; exact k1 t ht e, by rw [← hb _ (Nat.le_refl _) (by omega)]; exact k2, A2_cong j _ _ v (by omega) (fun t ht => by
      show (S t && !T t) = (S' t && !T t)
      rw [h t ht]) (fun p h1 h2 => hb p (by omega) h2) k3⟩
theorem A2_empty {n : Nat} {b z : Nat → Nat} {v : Nat} : ∀ (j : Nat) (S : Nat → Bool), j ≤ n → (∀ t, t < 8 → S t = false) → (A2 n b z j S v ↔ ∀ p, n - j ≤ p → p < n → b p ≤ v)
  | 0, S, _, h => ⟨fun _ p h1 h2 => by omega, fun _ => h⟩
  | j + 1, S, hj, h => by
    have e0 : ∀ T : Nat → Bool, (∀ t, t < 8 → T t = true → S t = true) → ∀ t, t < 8 → T t = false := fun T hT t ht => Bool.eq_false_iff.mpr (fun k => by have := hT t ht k; rw [h t ht] at this; cases this)
    have z0 : szS z (fun _ => false) = 0 := by
      show sg (fun t => if false = true then z t else 0) 8 = 0
      rw [sg_cong (h := fun _ => 0) (fun t _ => if_neg (by decide))]; rfl
    constructor
    · rintro ⟨T, k1, k2, k3⟩ p h1 h2
      have hT := e0 T k1
      have ih := (A2_empty j (fun t => S t && !T t) (by omega) (fun t ht => by
        show (S t && !T t) = false
        rw [h t ht]; rfl)).mp k3
      by_cases c : p = n - (j + 1)
      · rw [szS_cong (T' := fun _ => false) hT, z0] at k2
        rw [c]; omega
      · exact ih p (by omega) h2
    · intro k
      refine ⟨fun _ => false, fun t _ e => (by cases e), ?_, ?_⟩
      · rw [z0]; exact k _ (Nat.le_refl _) (by omega)
      · exact (A2_empty j _ (by omega) (fun t ht => by
          show (S t && !false) = false
          rw [h t ht]; rfl)).mpr (fun p h1 h2 => k p (by omega) h2)
theorem sg_one {f f' : Nat → Nat} {t : Nat} (h : ∀ j, f' j = if j = t then 0 else f j) : ∀ T, sg f' T + (if t < T then f t else 0) = sg f T
  | 0 => rfl
  | T + 1 => by
    have ih := sg_one h T
    show sg f' T + f' T + (if t < T + 1 then f t else 0) = sg f T + f T
    rw [h T]
    rcases Nat.lt_trichotomy t T with c | c | c
    · rw [if_pos c] at ih
      rw [if_neg (show ¬ T = t by omega), if_pos (show t < T + 1 by omega)]; omega
    · subst c
      rw [if_neg (Nat.lt_irrefl t)] at ih
      rw [if_pos (show t = t from rfl), if_pos (show t < t + 1 by omega)]; omega
    · rw [if_neg (by omega)] at ih
      rw [if_neg (show ¬ T = t by omega), if_neg (show ¬ t < T + 1 by omega)]; omega
def del (S : Nat → Bool) (t0 : Nat) : Nat → Bool := fun t => if t = t0 then false else S t
theorem szS_del {z : Nat → Nat} {T : Nat → Bool} {t0 : Nat} (h8 : t0 < 8) (h : T t0 = true) : szS z (del T t0) + z t0 = szS z T := by
  have := sg_one (f := fun t => if T t = true then z t else 0) (f' := fun t => if del T t0 t = true then z t else 0) (t := t0) (fun j => by
    show (if del T t0 j = true then z j else 0) = if j = t0 then 0 else if T j = true then z j else 0
    unfold del
    by_cases c : j = t0
    · rw [if_pos c, if_pos c, if_neg (by decide)]
    · rw [if_neg c, if_neg c]) 8
  rw [if_pos h8] at this
  have e : (if T t0 = true then z t0 else 0) = z t0 := if_pos h
  have this : szS z (del T t0) + (if T t0 = true then z t0 else 0) = szS z T := this
  rw [e] at this
  exact this
/-- one pin taken out, borne by somebody -/
theorem A2_rem {n : Nat} {z : Nat → Nat} {t0 v : Nat} (h8 : t0 < 8) : ∀ (j : Nat) (b : Nat → Nat) (S : Nat → Bool), j ≤ n → S t0 = true → (A2 n b z j S v ↔ ∃ p, n - j ≤ p ∧ p < n ∧ A2 n (ad b p (z t0)) z j (del S t0) v)
  | 0, b, S, _, h => ⟨fun k => (by have := k t0 h8; rw [h] at this; cases this), fun ⟨p, h1, h2, _⟩ => (by omega)⟩
  | j + 1, b, S, hj, h => by
    constructor
    · rintro ⟨T, k1, k2, k3⟩
      by_cases c : T t0 = true
      · refine ⟨n - (j + 1), Nat.le_refl _, by omega, del T t0, fun t ht e => ?_, ?_, ?_⟩
        · unfold del at e ⊢
          by_cases w : t = t0
          · rw [if_pos w] at e; cases e
          · rw [if_neg w] at e ⊢; exact k1 t ht e
        · have := szS_del (z := z) h8 c
          rw [ad_s]; omega
        · refine A2_cong j _ _ v (by omega) (fun t ht => ?_) (fun p h1 h2 => (ad_n (by omega)).symm) k3
          show (S t && !T t) = (del S t0 t && !del T t0 t)
          unfold del
          by_cases w : t = t0
          · rw [if_pos w, if_pos w, w, c]; simp
          · rw [if_neg w, if_neg w]
      · have c : T t0 = false := Bool.eq_false_iff.mpr c
        obtain ⟨p, h1, h2, h3⟩ := (A2_rem h8 j b (fun t => S t && !T t) (by omega) (by
          show (S t0 && !T t0) = true
          rw [h, c]; rfl)).mp k3
        refine ⟨p, by omega, h2, T, fun t ht e => ?_, ?_, ?_⟩
        · unfold del
          by_cases w : t = t0
          · rw [w, c] at e; cases e
          · rw [if_neg w]; exact k1 t ht e
        · rw [ad_n (by omega)]; exact k2
        · refine A2_cong j _ _ v (by omega) (fun t ht => ?_) (fun _ _ _ => rfl) h3
          show (if t = t0 then false else (S t && !T t)) = ((if t = t0 then false else S t) && !T t)
          by_cases w : t = t0
          · rw [if_pos w, if_pos w]; rfl
          · rw [if_neg w, if_neg w]
    · rintro ⟨p, h1, h2, T, k1, k2, k3⟩
      have hT0 : T t0 = false := Bool.eq_false_iff.mpr (fun e => by
        have := k1 t0 h8 e
        unfold del at this
        rw [if_pos rfl] at this; cases this)
      by_cases c : p = n - (j + 1)
      · subst c
        rw [ad_s] at k2
        have ed : ∀ t, del (fun t => if t = t0 then true else T t) t0 t = T t := fun t => by
          unfold del
          by_cases w : t = t0
          · rw [if_pos w, w, hT0]
          · rw [if_neg w]
            show (if t = t0 then true else T t) = _
            rw [if_neg w]
        have hsz := szS_del (z := z) (T := fun t => if t = t0 then true else T t) h8 (if_pos rfl)
        rw [szS_cong (T' := T) (fun t _ => ed t)] at hsz
        refine ⟨fun t => if t = t0 then true else T t, fun t ht e => ?_, by omega, ?_⟩
        · by_cases w : t = t0
          · rw [w]; exact h
          · have e : (if t = t0 then true else T t) = true := e
            rw [if_neg w] at e
            have := k1 t ht e
            unfold del at this
            rwa [if_neg w] at this
        · refine A2_cong j _ _ v (by omega) (fun t ht => ?_) (fun q h1 h2 => ad_n (by omega)) k3
          show ((if t = t0 then false else S t) && !T t) = (S t && !(if t = t0 then true else T t))
          by_cases w : t = t0
          · rw [if_pos w, if_pos w]; simp
          · rw [if_neg w, if_neg w]
      · rw [ad_n (fun e => c e.symm)] at k2
        refine ⟨T, fun t ht e => ?_, k2, ?_⟩
        · have := k1 t ht e
          unfold del at this
          by_cases w : t = t0
          · rw [w]; exact h
          · rwa [if_neg w] at this
        · refine (A2_rem h8 j b (fun t => S t && !T t) (by omega) (by
            show (S t0 && !T t0) = true
            rw [h, hT0]; rfl)).mpr ⟨p, by omega, h2, ?_⟩
          refine A2_cong j _ _ v (by omega) (fun t ht => ?_) (fun _ _ _ => rfl) k3
          show ((if t = t0 then false else S t) && !T t) = (if t = t0 then false else (S t && !T t))
          by_cases w : t = t0
          · rw [if_pos w, if_pos w]; rfl
          · rw [if_neg w, if_neg w]
theorem A2_Aw {n : Nat} {z : Nat → Nat} {v : Nat} : ∀ (r : List Nat) (b : Nat → Nat) (S : Nat → Bool), r.Nodup → (∀ t, t ∈ r → t < 8) → (∀ t, t < 8 → (S t = true ↔ t ∈ r)) → (A2 n b z n S v ↔ Aw n z r b v)
  | [], b, S, _, _, h => by
    rw [A2_empty n S (Nat.le_refl _) (fun t ht => Bool.eq_false_iff.mpr (fun e => by cases (h t ht).mp e))]
    exact ⟨fun k p hp => k p (by omega) hp, fun k p _ hp => k p hp⟩
  | t :: r, b, S, hd, h8, h => by
    have ht := h8 t List.mem_cons_self
    have hn : ¬ t ∈ r := (List.nodup_cons.mp hd).1
    rw [A2_rem ht n b S (Nat.le_refl _) ((h t ht).mpr List.mem_cons_self)]
    have key : ∀ p, A2 n (ad b p (z t)) z n (del S t) v ↔ Aw n z r (ad b p (z t)) v := fun p => A2_Aw r _ _ (List.nodup_cons.mp hd).2 (fun x hx => h8 x (List.mem_cons_of_mem _ hx)) (fun x hx => by
      unfold del
      by_cases c : x = t
      · rw [if_pos c, c]
        exact ⟨fun e => (by cases e), fun e => absurd e hn⟩
      · rw [if_neg c, h x hx, List.mem_cons]
        exact ⟨fun e => e.resolve_left c, fun e => Or.inr e⟩)
    exact ⟨fun ⟨p, _, h2, h3⟩ => ⟨p, h2, (key p).mp h3⟩, fun ⟨p, h2, h3⟩ => ⟨p, by omega, h2, (key p).mpr h3⟩⟩
theorem pl_nodup {c : Nat → Bool} : ∀ m t, (pl c m t).Nodup
  | 0, _ => List.nodup_nil
  | m + 1, t => by
    by_cases h : c t = true
    · rw [pl_t h]
      exact List.nodup_cons.mpr ⟨fun e => by have := (pl_mem m (t + 1) t).mp e; omega, pl_nodup m (t + 1)⟩
    · rw [pl_f h]; exact pl_nodup m (t + 1)
/-! bits -/
theorem nI_and (a b : Nat) : nI a &&& nI b = nI (a &&& b) := by
  apply Int32.toBitVec_inj.mp
  show (nI a).toBitVec &&& (nI b).toBitVec = (nI (a &&& b)).toBitVec
  simp only [nI, Int32.toBitVec_ofNat]
  exact BitVec.ofNat_and.symm
theorem sub_bI : ∀ t, t < 256 → ∀ B, B < 256 → t &&& B = t → nI t &&& (nI B ^^^ (-1)) = 0 := by decide +kernel
theorem and_no : ∀ a, a < 256 → ∀ s, s < 256 → s &&& a = s → nI a &&& (nI s ^^^ (-1)) = nI (a ^^^ s) := by decide +kernel
/-- the next lower set within a set -/
theorem next_sub : ∀ (k m c T : Nat), m < 2 ^ k → c &&& m = c → T &&& m = T → T < c → T ≤ (c - 1) &&& m
  | 0, m, c, T, hm, hc, hT, h => by
    have hm0 : m = 0 := by
      have : (2 : Nat) ^ 0 = 1 := rfl
      omega
    rw [hm0, Nat.and_zero] at hc
    omega
  | k + 1, m, c, T, hm, hc, hT, h => by
    have hm2 : m / 2 < 2 ^ k := by
      rw [Nat.pow_succ] at hm; omega
    have hc2 : c / 2 &&& m / 2 = c / 2 := by rw [← Nat.and_div_two, hc]
    have hT2 : T / 2 &&& m / 2 = T / 2 := by rw [← Nat.and_div_two, hT]
    have hd : ((c - 1) &&& m) / 2 = (c - 1) / 2 &&& m / 2 := Nat.and_div_two
    have hTm : T % 2 = 1 → m % 2 = 1 := fun e => by
      have : (T &&& m) % 2 = 1 := by rw [hT]; exact e
      exact (Nat.and_mod_two_eq_one.mp this).2
    rcases Nat.mod_two_eq_zero_or_one c with c0 | c1
    · have e1 : (c - 1) / 2 = c / 2 - 1 := by omega
      have hlt : T / 2 < c / 2 := by omega
      have ih := next_sub k (m / 2) (c / 2) (T / 2) hm2 hc2 hT2 hlt
      rw [e1] at hd
      rcases Nat.mod_two_eq_zero_or_one T with t0 | t1
      · omega
      · have hx : ((c - 1) &&& m) % 2 = 1 := Nat.and_mod_two_eq_one.mpr ⟨by omega, hTm t1⟩
        omega
    · have e1 : (c - 1) / 2 = c / 2 := by omega
      rw [e1, hc2] at hd
      omega
theorem and_lt {a m : Nat} (h : m < 256) : a &&& m < 256 := Nat.lt_of_le_of_lt Nat.and_le_right h
theorem xor_bit {a s j : Nat} (h : s &&& a = s) : (a ^^^ s).testBit j = (a.testBit j && !s.testBit j) := by
  have : s.testBit j = true → a.testBit j = true := fun e => by
    rw [← h, Nat.testBit_and, Bool.and_eq_true] at e; exact e.2
  rw [Nat.testBit_xor]
  cases e1 : a.testBit j <;> cases e2 : s.testBit j
  · rfl
  · rw [this e2] at e1; cases e1
  · rfl
  · rfl
theorem sub_trans {a b c : Nat} (h1 : a &&& b = a) (h2 : b &&& c = b) : a &&& c = a := by
  rw [← h1, Nat.and_assoc, h2]
theorem xor_sub {a s : Nat} (h : s &&& a = s) : (a ^^^ s) &&& a = a ^^^ s := Nat.eq_of_testBit_eq (fun j => by
  rw [Nat.testBit_and, xor_bit h]
  cases a.testBit j <;> cases s.testBit j <;> rfl)
