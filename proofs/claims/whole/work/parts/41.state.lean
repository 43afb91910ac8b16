/-! a family; how it stands: places (0 .. 4 persons, 5 heart, 6 shaken out, 7 gone, 8 no such pin), sizes, walked, day -/
abbrev Fam : Type := Nat × Nat × Nat × Nat × Nat × (Nat → Nat) × (Nat → Nat) × (Nat → Nat)
def fN (f : Fam) : Nat := f.1
def fK (f : Fam) : Nat := f.2.1
def fR (f : Fam) : Nat := f.2.2.1
def fD (f : Fam) : Nat := f.2.2.2.1
def fQ (f : Fam) : Nat := f.2.2.2.2.1
def fC (f : Fam) : Nat → Nat := f.2.2.2.2.2.1
def fO (f : Fam) : Nat → Nat := f.2.2.2.2.2.2.1
def fS (f : Fam) : Nat → Nat := f.2.2.2.2.2.2.2
abbrev St : Type := (Nat → Nat) × (Nat → Nat) × Nat × Int32
def sP (s : St) : Nat → Nat := s.1
def sZ (s : St) : Nat → Nat := s.2.1
def sW (s : St) : Nat := s.2.2.1
def sD (s : St) : Int32 := s.2.2.2
def cw (p : Nat) : Int32 := if p < 5 then nI p else if p = 5 then -1 else if p = 6 then -2 else if p = 7 then -3 else -4
def FamOK (f : Fam) : Prop := 1 ≤ fN f ∧ fN f ≤ 5 ∧ fK f ≤ 8 ∧ fR f ≤ 60 ∧ 1 ≤ fD f ∧ fD f ≤ 20 ∧ 1 ≤ fQ f ∧ fQ f ≤ 30 ∧ (∀ p, p < fN f → fC f p ≤ 60) ∧ (∀ t, t < fK f → fO f t < fN f ∧ fS f t ≤ 3)
def StOK (f : Fam) (s : St) : Prop := (∀ t, t < fK f → (sP s t < fN f ∨ sP s t = 5 ∨ sP s t = 6 ∨ sP s t = 7) ∧ sZ s t ≤ 40 ∧ (sP s t < 6 → 1 ≤ sZ s t)) ∧ (∀ t, fK f ≤ t → sP s t = 8 ∧ sZ s t = 0) ∧ sW s ≤ fD f
theorem StOK.p8 {f : Fam} {s : St} (hf : FamOK f) (h : StOK f s) (t : Nat) : sP s t ≤ 8 := by
  obtain ⟨h1, h2, -⟩ := h
  rcases Nat.lt_or_ge t (fK f) with q | q
  · have := (h1 t q).1; have := hf.2.1; omega
  · have := (h2 t q).1; omega
theorem StOK.z40 {f : Fam} {s : St} (h : StOK f s) (t : Nat) : sZ s t ≤ 40 := by
  obtain ⟨h1, h2, -⟩ := h
  rcases Nat.lt_or_ge t (fK f) with q | q
  · exact (h1 t q).2.1
  · have := (h2 t q).2; omega
/-- the class's cells -/
def CF (D : Dt) (a : Nat) (f : Fam) : Prop := D a 4 = nI (fN f) ∧ D a 5 = nI (fK f) ∧ D a 6 = nI (fR f) ∧ D a 7 = nI (fD f) ∧ D a 8 = nI (fQ f) ∧ (∀ p, p < fN f → D (a + 1) p = nI (fC f p)) ∧ (∀ t, t < fK f → D (a + 2) t = nI (fO f t) ∧ D (a + 3) t = nI (fS f t))
def CS (D : Dt) (a : Nat) (s : St) : Prop := D a 3 = nI (sW s) ∧ D a 4 = sD s ∧ ∀ t, t < 8 → D (a + 1) t = nI (sZ s t) ∧ D (a + 2) t = cw (sP s t)
def StA (nx : Nat) (P : Ft) (a : Nat) : Prop := kd nx a = 7 ∧ kd nx (a + 1) = 30008 ∧ kd nx (a + 2) = 30008 ∧ P a 0 = some 4 ∧ P a 1 = some (a + 1) ∧ P a 2 = some (a + 2)
def FaA (nx : Nat) (P : Ft) (a : Nat) : Prop := kd nx a = 1 ∧ kd nx (a + 1) = 30005 ∧ kd nx (a + 2) = 30008 ∧ kd nx (a + 3) = 30008 ∧ kd nx (a + 4) = 30008 ∧ P a 0 = some (a + 1) ∧ P a 1 = some (a + 2) ∧ P a 2 = some (a + 3) ∧ P a 3 = some (a + 4)
/-- nothing but the three cells of a standing has changed -/
def Fr3 (D D' : Dt) (a : Nat) : Prop := ∀ q, q ≠ a → q ≠ a + 1 → q ≠ a + 2 → D' q = D q
theorem Fr3.rf {D : Dt} {a : Nat} : Fr3 D D a := fun _ _ _ _ => rfl
theorem Fr3.tr {D D1 D2 : Dt} {a : Nat} (h1 : Fr3 D D1 a) (h2 : Fr3 D1 D2 a) : Fr3 D D2 a := fun q a b c => (h2 q a b c).trans (h1 q a b c)
def sg (g : Nat → Nat) : Nat → Nat
  | 0 => 0
  | t + 1 => sg g t + g t
def bt (g : Nat → Bool) : Nat → Nat
  | 0 => 0
  | t + 1 => bt g t + (if g t = true then 2 ^ t else 0)
def ct (g : Nat → Bool) : Nat → Nat
  | 0 => 0
  | t + 1 => ct g t + (if g t = true then 1 else 0)
theorem sg_le {g : Nat → Nat} {c : Nat} (h : ∀ t, g t ≤ c) : ∀ T, sg g T ≤ T * c
  | 0 => Nat.zero_le _
  | T + 1 => by have := sg_le h T; have := h T; rw [Nat.succ_mul]; show sg g T + g T ≤ _; omega
theorem sg_cong {g h : Nat → Nat} : ∀ {T : Nat}, (∀ t, t < T → g t = h t) → sg g T = sg h T
  | 0, _ => rfl
  | T + 1, q => by show sg g T + g T = sg h T + h T; rw [sg_cong (fun t ht => q t (by omega)), q T (by omega)]
theorem sg_more {g : Nat → Nat} {k : Nat} (h : ∀ t, k ≤ t → g t = 0) : ∀ m, sg g (k + m) = sg g k
  | 0 => rfl
  | m + 1 => by show sg g (k + m) + g (k + m) = _; rw [sg_more h m, h _ (by omega)]; rfl
theorem bt_lt (g : Nat → Bool) : ∀ T, bt g T < 2 ^ T
  | 0 => Nat.one_pos
  | T + 1 => by
    have := bt_lt g T
    show bt g T + _ < _
    rw [Nat.pow_succ]
    by_cases q : g T = true
    · rw [if_pos q]; omega
    · rw [if_neg q]; omega
theorem bt_cong {g h : Nat → Bool} : ∀ {T : Nat}, (∀ t, t < T → g t = h t) → bt g T = bt h T
  | 0, _ => rfl
  | T + 1, q => by show bt g T + _ = bt h T + _; rw [bt_cong (fun t ht => q t (by omega)), q T (by omega)]
theorem bt_more {g : Nat → Bool} {k : Nat} (h : ∀ t, k ≤ t → g t = false) : ∀ m, bt g (k + m) = bt g k
  | 0 => rfl
  | m + 1 => by show bt g (k + m) + (if g (k + m) = true then 2 ^ (k + m) else 0) = _; rw [bt_more h m, h (k + m) (Nat.le_add_right _ _)]; rfl
theorem ct_cong {g h : Nat → Bool} : ∀ {T : Nat}, (∀ t, t < T → g t = h t) → ct g T = ct h T
  | 0, _ => rfl
  | T + 1, q => by show ct g T + _ = ct h T + _; rw [ct_cong (fun t ht => q t (by omega)), q T (by omega)]
theorem ct_more {g : Nat → Bool} {k : Nat} (h : ∀ t, k ≤ t → g t = false) : ∀ m, ct g (k + m) = ct g k
  | 0 => rfl
  | m + 1 => by show ct g (k + m) + (if g (k + m) = true then 1 else 0) = _; rw [ct_more h m, h (k + m) (Nat.le_add_right _ _)]; rfl
theorem ct_le (g : Nat → Bool) : ∀ T, ct g T ≤ T
  | 0 => Nat.le_refl _
  | T + 1 => by
    have := ct_le g T
    show ct g T + _ ≤ _
    by_cases q : g T = true
    · rw [if_pos q]; omega
    · rw [if_neg q]; omega
theorem bt_bit (g : Nat → Bool) : ∀ T i, (bt g T).testBit i = (decide (i < T) && g i)
  | 0, i => by show (0 : Nat).testBit i = _; simp
  | T + 1, i => by
    have ih := bt_bit g T i
    have hl := bt_lt g T
    have hl1 := bt_lt g (T + 1)
    rcases Nat.lt_trichotomy i T with w | w | w
    · have e1 : (bt g (T + 1)).testBit i = (bt g T).testBit i := by
        show (bt g T + _).testBit i = _
        by_cases q : g T = true
        · rw [if_pos q, Nat.add_comm, Nat.testBit_two_pow_add_gt w]
        · rw [if_neg q, Nat.add_zero]
      rw [e1, ih]
      simp [w, Nat.lt_succ_of_lt w]
    · subst w
      show (bt g i + _).testBit i = _
      by_cases q : g i = true
      · rw [if_pos q, Nat.add_comm, Nat.testBit_two_pow_add_eq, Nat.testBit_lt_two_pow hl]; simp [q]
      · rw [if_neg q, Nat.add_zero, Nat.testBit_lt_two_pow hl]; simp [q]
    · rw [Nat.testBit_lt_two_pow (Nat.lt_of_lt_of_le hl1 (Nat.pow_le_pow_right (by decide) w))]
      have : ¬ i < T + 1 := by omega
      simp [this]
/-- what somebody bears; what is in the heart (5) -/
def ld (s : St) (q T : Nat) : Nat := sg (fun t => if sP s t = q then sZ s t else 0) T
def borneS (s : St) (T : Nat) : Nat := sg (fun t => if sP s t < 5 then sZ s t else 0) T
theorem sh1 : ∀ t, t < 8 → (1 : Int32) <<< (nI t &&& 31) = nI (2 ^ t) := by decide
theorem or_bit {b t : Nat} (h : b < 2 ^ t) (ht : t < 8) : nI b ||| ((1 : Int32) <<< (nI t &&& 31)) = nI (b + 2 ^ t) := by
  rw [sh1 t ht]
  have e : b ||| 2 ^ t = b + 2 ^ t := by
    have := Nat.two_pow_add_eq_or_of_lt h 1
    rw [Nat.mul_one, Nat.or_comm] at this
    rw [← this, Nat.add_comm]
  rw [← e]
  apply Int32.toBitVec_inj.mp
  show (nI b).toBitVec ||| (nI (2 ^ t)).toBitVec = (nI (b ||| 2 ^ t)).toBitVec
  simp only [nI, Int32.toBitVec_ofNat]
  exact BitVec.ofNat_or.symm
theorem le8 {t : Nat} (h : t < 8) : ¬ (8 : Int32) ≤ nI t := by
  rw [lit 8, nI_le' (by decide) (by omega)]; omega
theorem le5 {t : Nat} (h : t < 5) : ¬ (5 : Int32) ≤ nI t := by
  rw [lit 5, nI_le' (by decide) (by omega)]; omega
theorem cw_lit : ∀ p, p < 9 → ∀ q, q < 9 → (cw p = cw q ↔ p = q) := by decide
theorem cw_neg : ∀ p, p < 9 → ((0 : Int32) ≤ cw p ↔ p < 5) := by decide
theorem cw_lt1 : ∀ p, p < 9 → (cw p < (-1) ↔ 6 ≤ p) := by decide
theorem cw_ge1 : ∀ p, p < 9 → ((-1) ≤ cw p ↔ p < 6) := by decide
theorem cw_per {p : Nat} (h : p < 5) : cw p = nI p := if_pos h
