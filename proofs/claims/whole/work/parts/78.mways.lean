/-! the reference: in how many ways, by sets -/
def mz (g : Gs) (n t : Nat) : Nat := lbN (fS (gF g) t) (sD (gS g)) n 0 (sZ (gS g) t)
def mayB (g : Gs) (n A B v t : Nat) : Bool := A.testBit t && !B.testBit t && decide (mz g n t = v)
def cntB (g : Gs) (n A B v : Nat) : Nat := ct (mayB g n A B v) 8
def ww (m : Nat → Nat) : Nat → Nat → (Nat → Nat) → Nat
  | 0, _, _ => 1
  | j + 1, k, c => c (m k) * ww m j (k + 1) (fun v => if v = m k then c v - 1 else c v)
theorem ww_s {m : Nat → Nat} {j k : Nat} {c : Nat → Nat} : ww m (j + 1) k c = c (m k) * ww m j (k + 1) (fun v => if v = m k then c v - 1 else c v) := rfl
theorem ww_cong {m : Nat → Nat} {M : Nat} (hm : ∀ i, i < M → m i ≤ 40) : ∀ (j k : Nat) (c c' : Nat → Nat), k + j ≤ M → (∀ v, v ≤ 40 → c v = c' v) → ww m j k c = ww m j k c'
  | 0, _, _, _, _, _ => rfl
  | j + 1, k, c, c', h, e => by
    rw [ww_s, ww_s, e (m k) (hm k (by omega))]
    rw [ww_cong hm j (k + 1) _ (fun v => if v = m k then c' v - 1 else c' v) (by omega) (fun v hv => by
      show (if v = m k then c v - 1 else c v) = (if v = m k then c' v - 1 else c' v)
      rw [e v hv])]
theorem ww_le {m : Nat → Nat} : ∀ (j k : Nat) (c : Nat → Nat), (∀ v, c v ≤ 8) → ww m j k c ≤ 8 ^ j
  | 0, _, _, _ => Nat.le_refl _
  | j + 1, k, c, h => by
    rw [ww_s, Nat.pow_succ, Nat.mul_comm (8 ^ j) 8]
    refine Nat.mul_le_mul (h _) (ww_le j (k + 1) _ (fun v => ?_))
    show (if v = m k then c v - 1 else c v) ≤ 8
    have := h v
    split <;> omega
def VB (g : Gs) (n A B : Nat) : Nat := ww (gM g).2 ((gM g).1 - pc B) (pc B) (cntB g n A B)
def Sb (B A : Nat) : Prop := ∀ j, B.testBit j = true → A.testBit j = true
theorem ct_one {b b' : Nat → Bool} {t : Nat} (ht : b t = true) (h : ∀ j, b' j = if j = t then false else b j) : ∀ T, ct b' T + (if t < T then 1 else 0) = ct b T
  | 0 => rfl
  | T + 1 => by
    have ih := ct_one ht h T
    show ct b' T + (if b' T = true then 1 else 0) + (if t < T + 1 then 1 else 0) = ct b T + (if b T = true then 1 else 0)
    rw [h T]
    rcases Nat.lt_trichotomy t T with c | c | c
    · rw [if_pos c] at ih
      rw [if_neg (show ¬ T = t by omega), if_pos (show t < T + 1 by omega)]; omega
    · subst c
      rw [if_neg (Nat.lt_irrefl t)] at ih
      rw [if_pos (show t = t from rfl), if_pos (show t < t + 1 by omega), ht, if_neg (show ¬ false = true by decide), if_pos rfl]; omega
    · rw [if_neg (by omega)] at ih
      rw [if_neg (show ¬ T = t by omega), if_neg (show ¬ t < T + 1 by omega)]; omega
theorem tb_or {B t j : Nat} : (B ||| 2 ^ t).testBit j = (B.testBit j || decide (t = j)) := by
  rw [Nat.testBit_or, Nat.testBit_two_pow]
theorem pc_or {B t : Nat} (ht : t < 8) (hb : B.testBit t = false) : pc (B ||| 2 ^ t) = pc B + 1 := by
  have := ct_one (b := fun i => (B ||| 2 ^ t).testBit i) (b' := fun i => B.testBit i) (t := t) (by
    show (B ||| 2 ^ t).testBit t = true
    rw [tb_or, decide_eq_true rfl, Bool.or_true]) (fun j => by
    show B.testBit j = if j = t then false else (B ||| 2 ^ t).testBit j
    by_cases c : j = t
    · rw [if_pos c, c, hb]
    · rw [if_neg c, tb_or, decide_eq_false (fun e => c e.symm), Bool.or_false]) 8
  rw [if_pos ht] at this
  exact this.symm
theorem may_or {g : Gs} {n A B v t j : Nat} : mayB g n A (B ||| 2 ^ t) v j = if j = t then false else mayB g n A B v j := by
  unfold mayB
  rw [tb_or]
  by_cases c : j = t
  · rw [if_pos c, decide_eq_true c.symm, Bool.or_true]
    show (A.testBit j && false && _) = false
    rw [Bool.and_false, Bool.false_and]
  · rw [if_neg c, decide_eq_false (fun e => c e.symm), Bool.or_false]
theorem cnt_or {g : Gs} {n A B v t : Nat} (ht : t < 8) (hA : A.testBit t = true) (hb : B.testBit t = false) : cntB g n A (B ||| 2 ^ t) v = if v = mz g n t then cntB g n A B v - 1 else cntB g n A B v := by
  unfold cntB
  by_cases c : v = mz g n t
  · rw [if_pos c]
    have := ct_one (b := mayB g n A B v) (b' := mayB g n A (B ||| 2 ^ t) v) (t := t) (by
      unfold mayB
      rw [hA, hb, decide_eq_true c.symm]; rfl) (fun j => may_or) 8
    rw [if_pos ht] at this
    omega
  · rw [if_neg c]
    refine ct_cong (fun j _ => ?_)
    rw [may_or]
    by_cases d : j = t
    · rw [if_pos d, d]
      unfold mayB
      rw [decide_eq_false (fun e => c e.symm), Bool.and_false]
    · rw [if_neg d]
theorem sg_const (b : Nat → Bool) (c : Nat) : ∀ T, sg (fun t => if b t = true then c else 0) T = ct b T * c
  | 0 => (Nat.zero_mul c).symm
  | T + 1 => by
    show sg (fun t => if b t = true then c else 0) T + (if b T = true then c else 0) = (ct b T + if b T = true then 1 else 0) * c
    rw [sg_const b c T, Nat.add_mul]
    split
    · rw [Nat.one_mul]
    · rw [Nat.zero_mul]
theorem may_sp {g : Gs} {n A B v t : Nat} (h : mayB g n A B v t = true) : A.testBit t = true ∧ B.testBit t = false ∧ mz g n t = v := by
  unfold mayB at h
  rw [Bool.and_eq_true, Bool.and_eq_true, Bool.not_eq_true'] at h
  exact ⟨h.1.1, h.1.2, of_decide_eq_true h.2⟩
/-- one more taken: the same, whichever it is -/
theorem VB_or {g : Gs} {n A B t : Nat} (ht : t < 8) (hk : pc B < (gM g).1) (h : mayB g n A B ((gM g).2 (pc B)) t = true) : VB g n A B = cntB g n A B ((gM g).2 (pc B)) * VB g n A (B ||| 2 ^ t) := by
  obtain ⟨h1, h2, h3⟩ := may_sp h
  have e : (fun v => if v = (gM g).2 (pc B) then cntB g n A B v - 1 else cntB g n A B v) = cntB g n A (B ||| 2 ^ t) := funext fun v => by
    rw [cnt_or ht h1 h2, h3]
  show ww (gM g).2 ((gM g).1 - pc B) (pc B) (cntB g n A B) = cntB g n A B ((gM g).2 (pc B)) * ww (gM g).2 ((gM g).1 - pc (B ||| 2 ^ t)) (pc (B ||| 2 ^ t)) (cntB g n A (B ||| 2 ^ t))
  rw [pc_or ht h2, show (gM g).1 - pc B = ((gM g).1 - (pc B + 1)) + 1 by omega, ww_s, e]
theorem ct_zero {b : Nat → Bool} : ∀ {T : Nat}, ct b T = 0 → ∀ t, t < T → b t = false
  | 0, _, t, ht => absurd ht (Nat.not_lt_zero t)
  | T + 1, h, t, ht => by
    have h : ct b T + (if b T = true then 1 else 0) = 0 := h
    by_cases c : b T = true
    · rw [if_pos c] at h; omega
    · rw [if_neg c] at h
      rcases Nat.lt_or_ge t T with d | d
      · exact ct_zero (by omega) t d
      · rw [show t = T by omega]; exact Bool.eq_false_iff.mpr c
theorem VB_step {g : Gs} {n A B : Nat} (hk : pc B < (gM g).1) : sg (fun t => if mayB g n A B ((gM g).2 (pc B)) t = true then VB g n A (B ||| 2 ^ t) else 0) 8 = VB g n A B := by
  by_cases c : cntB g n A B ((gM g).2 (pc B)) = 0
  · have h0 := ct_zero c
    have e : VB g n A B = 0 := by
      show ww (gM g).2 ((gM g).1 - pc B) (pc B) (cntB g n A B) = 0
      rw [show (gM g).1 - pc B = ((gM g).1 - (pc B + 1)) + 1 by omega, ww_s, c, Nat.zero_mul]
    rw [e, sg_cong (h := fun _ => 0) (fun t ht => if_neg (by rw [h0 t ht]; decide))]
    rfl
  · obtain ⟨W, hW⟩ : ∃ W, ∀ t, t < 8 → mayB g n A B ((gM g).2 (pc B)) t = true → VB g n A (B ||| 2 ^ t) = W := by
      refine ⟨ww (gM g).2 ((gM g).1 - (pc B + 1)) (pc B + 1) (fun v => if v = (gM g).2 (pc B) then cntB g n A B v - 1 else cntB g n A B v), fun t ht h => ?_⟩
      obtain ⟨h1, h2, h3⟩ := may_sp h
      have e : (fun v => if v = (gM g).2 (pc B) then cntB g n A B v - 1 else cntB g n A B v) = cntB g n A (B ||| 2 ^ t) := funext fun v => by
        rw [cnt_or ht h1 h2, h3]
      show ww (gM g).2 ((gM g).1 - pc (B ||| 2 ^ t)) (pc (B ||| 2 ^ t)) (cntB g n A (B ||| 2 ^ t)) = _
      rw [pc_or ht h2, e]
    rw [sg_cong (h := fun t => if mayB g n A B ((gM g).2 (pc B)) t = true then W else 0) (fun t ht => by
      by_cases d : mayB g n A B ((gM g).2 (pc B)) t = true
      · rw [if_pos d, if_pos d, hW t ht d]
      · rw [if_neg d, if_neg d]), sg_const]
    have : ∃ t, t < 8 ∧ mayB g n A B ((gM g).2 (pc B)) t = true := by
      apply Classical.byContradiction
      intro k
      refine c ?_
      show ct (mayB g n A B ((gM g).2 (pc B))) 8 = 0
      rw [ct_cong (h := fun _ => false) (fun t ht => Bool.eq_false_iff.mpr (fun d => k ⟨t, ht, d⟩))]
      rfl
    obtain ⟨t, ht, hm⟩ := this
    rw [VB_or ht hk hm, hW t ht hm]
    rfl
theorem VB_le {g : Gs} {n A B : Nat} (hM : (gM g).1 ≤ 8) : VB g n A B ≤ 16777216 := by
  have h1 := ww_le (m := (gM g).2) ((gM g).1 - pc B) (pc B) (cntB g n A B) (fun v => ct_le _ 8)
  have h2 : 8 ^ ((gM g).1 - pc B) ≤ 8 ^ 8 := Nat.pow_le_pow_right (by decide) (by omega)
  exact Nat.le_trans h1 h2
theorem sub_pc : ∀ B, B < 256 → ∀ A, A < 256 → B &&& A = B → pc A ≤ pc B → B = A := by decide +kernel
theorem Sb_eq {B A : Nat} (hB : B < 256) (hA : A < 256) (h : Sb B A) (hp : pc A ≤ pc B) : B = A := by
  refine sub_pc B hB A hA (Nat.eq_of_testBit_eq (fun j => ?_)) hp
  rw [Nat.testBit_and]
  cases e : B.testBit j with
  | false => rfl
  | true => rw [h j e]; rfl
theorem or_set {B t : Nat} (ht : t < 8) : nI B ||| ((1 : Int32) <<< (nI t &&& 31)) = nI (B ||| 2 ^ t) := by
  rw [sh1 t ht]
  apply Int32.toBitVec_inj.mp
  show (nI B).toBitVec ||| (nI (2 ^ t)).toBitVec = (nI (B ||| 2 ^ t)).toBitVec
  simp only [nI, Int32.toBitVec_ofNat]
  exact BitVec.ofNat_or.symm
theorem or_lt {B t : Nat} (hB : B < 256) (ht : t < 8) : B ||| 2 ^ t < 256 := Nat.or_lt_two_pow (n := 8) hB (Nat.pow_lt_pow_right (by decide) ht)
theorem or_gt {B t : Nat} (hb : B.testBit t = false) : B < B ||| 2 ^ t := by
  have h1 : B ≤ B ||| 2 ^ t := Nat.left_le_or
  have h2 : B ≠ B ||| 2 ^ t := fun e => by
    have : (B ||| 2 ^ t).testBit t = true := by rw [tb_or, decide_eq_true rfl, Bool.or_true]
    rw [← e, hb] at this; cases this
  omega
theorem Sb_or {B A t : Nat} (h : Sb B A) (ht : A.testBit t = true) : Sb (B ||| 2 ^ t) A := fun j hj => by
  rw [tb_or, Bool.or_eq_true] at hj
  rcases hj with k | k
  · exact h j k
  · rw [← of_decide_eq_true k]; exact ht
/-! the class's way of counting them is the same -/
theorem dn_ct (c : Nat → Bool) : ∀ T, T ≤ 8 → (dn c T).1 + ct c (8 - T) = ct c 8
  | 0, _ => Nat.zero_add _
  | T + 1, h => by
    have ih := dn_ct c T (by omega)
    have e : (dn c (T + 1)).1 = (dn c T).1 + if c (7 - T) = true then 1 else 0 := by
      show (if c (7 - T) = true then ((dn c T).1 + 1, some (7 - T)) else dn c T).1 = _
      split <;> rfl
    have e2 : ct c (8 - T) = ct c (8 - (T + 1)) + if c (7 - T) = true then 1 else 0 := by
      rw [show 8 - T = (8 - (T + 1)) + 1 by omega]
      show ct c (8 - (T + 1)) + (if c (8 - (T + 1)) = true then 1 else 0) = _
      rw [show 8 - (T + 1) = 7 - T by omega]
    omega
theorem dn8 (c : Nat → Bool) : (dn c 8).1 = ct c 8 := by
  have := dn_ct c 8 (Nat.le_refl _)
  rw [show ct c (8 - 8) = 0 from rfl] at this
  omega
theorem dn_none {c : Nat → Bool} (h : (dn c 8).2 = none) (t : Nat) (ht : t < 8) : c t = false := by
  have := dn_no c 8 h
  rw [dn8] at this
  exact ct_zero this t ht
def cR (g : Gs) (n i v : Nat) : Nat := ct (eqv (wR g n i) v) 8
theorem wR_s {g : Gs} {n i : Nat} : wR g n (i + 1) = tk (wR g n i) ((gM g).2 i) := rfl
theorem wP_s {g : Gs} {n i : Nat} : wP g n (i + 1) = wP g n i * cR g n i ((gM g).2 i) := by
  show wP g n i * (dn (eqv (wR g n i) ((gM g).2 i)) 8).1 = _
  rw [dn8]; rfl
theorem cR_s {g : Gs} {n i u : Nat} (hu : (dn (eqv (wR g n i) ((gM g).2 i)) 8).2 = some u) (hm : (gM g).2 i ≤ 40) (v : Nat) (hv : v ≤ 40) : cR g n (i + 1) v = if v = (gM g).2 i then cR g n i v - 1 else cR g n i v := by
  obtain ⟨u7, hc⟩ := dn_lt _ _ _ hu
  have hru : wR g n i u = (gM g).2 i := of_decide_eq_true hc
  have er : wR g n (i + 1) = fun t => if t = u then 1000 else wR g n i t := by
    rw [wR_s]
    unfold tk
    rw [hu]
  have ev : ∀ j, eqv (wR g n (i + 1)) v j = if j = u then false else eqv (wR g n i) v j := fun j => by
    unfold eqv
    rw [er]
    show decide ((if j = u then 1000 else wR g n i j) = v) = _
    by_cases c : j = u
    · rw [if_pos c, if_pos c]; exact decide_eq_false (by omega)
    · rw [if_neg c, if_neg c]
  unfold cR
  by_cases c : v = (gM g).2 i
  · rw [if_pos c]
    have := ct_one (b := eqv (wR g n i) v) (b' := eqv (wR g n (i + 1)) v) (t := u) (decide_eq_true (by rw [hru, c])) ev 8
    rw [if_pos (by omega)] at this
    omega
  · rw [if_neg c]
    refine ct_cong (fun j _ => ?_)
    rw [ev j]
    by_cases d : j = u
    · rw [if_pos d, d]; exact (decide_eq_false (by rw [hru]; exact fun e => c e.symm)).symm
    · rw [if_neg d]
theorem wP_ww {g : Gs} {n : Nat} (hm : ∀ i, i < (gM g).1 → (gM g).2 i ≤ 40) : ∀ j i, i + j = (gM g).1 → wP g n i * ww (gM g).2 j i (cR g n i) = wP g n (gM g).1
  | 0, i, h => by
    show wP g n i * 1 = _
    rw [Nat.mul_one, ← h]; rfl
  | j + 1, i, h => by
    have ih := wP_ww (n := n) hm j (i + 1) (by omega)
    rw [ww_s]
    rw [wP_s] at ih
    by_cases c : cR g n i ((gM g).2 i) = 0
    · rw [c, Nat.mul_zero, Nat.zero_mul] at ih
      rw [c, Nat.zero_mul, Nat.mul_zero]; exact ih
    · cases e : (dn (eqv (wR g n i) ((gM g).2 i)) 8).2 with
      | none =>
        exact absurd (by rw [← dn_no _ _ e, dn8]; rfl) c
      | some u =>
        rw [ww_cong hm j (i + 1) _ (cR g n (i + 1)) (by omega) (fun v hv => (cR_s e (hm i (by omega)) v hv).symm), ← Nat.mul_assoc]
        exact ih
