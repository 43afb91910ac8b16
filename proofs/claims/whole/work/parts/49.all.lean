/-! all that stands: family, how it stands now, text, ways back (8), kept (2), seen, marks -/
abbrev Gs : Type := Fam × St × (Nat × (Nat → Nat)) × (Nat × (Nat → St)) × (Nat × (Nat → St)) × (Nat × (Nat → Nat × Nat × Nat)) × (Nat × (Nat → Nat))
def gF (g : Gs) : Fam := g.1
def gS (g : Gs) : St := g.2.1
def gT (g : Gs) : Nat × (Nat → Nat) := g.2.2.1
def gP (g : Gs) : Nat × (Nat → St) := g.2.2.2.1
def gK (g : Gs) : Nat × (Nat → St) := g.2.2.2.2.1
def gN (g : Gs) : Nat × (Nat → Nat × Nat × Nat) := g.2.2.2.2.2.1
def gM (g : Gs) : Nat × (Nat → Nat) := g.2.2.2.2.2.2
def puT (g : Gs) (x : Nat × (Nat → Nat)) : Gs := (gF g, gS g, x, gP g, gK g, gN g, gM g)
def puS (g : Gs) (x : St) : Gs := (gF g, x, gT g, gP g, gK g, gN g, gM g)
def puP (g : Gs) (x : Nat × (Nat → St)) : Gs := (gF g, gS g, gT g, x, gK g, gN g, gM g)
def puK (g : Gs) (x : Nat × (Nat → St)) : Gs := (gF g, gS g, gT g, gP g, x, gN g, gM g)
def puN (g : Gs) (x : Nat × (Nat → Nat × Nat × Nat)) : Gs := (gF g, gS g, gT g, gP g, gK g, x, gM g)
def puM (g : Gs) (x : Nat × (Nat → Nat)) : Gs := (gF g, gS g, gT g, gP g, gK g, gN g, x)
/-- what holds of it, whoever holds it -/
def GOK (g : Gs) : Prop := FamOK (gF g) ∧ StOK (gF g) (gS g) ∧ ((gT g).1 ≤ 200 ∧ ∀ i, i < (gT g).1 → 32 ≤ (gT g).2 i ∧ (gT g).2 i ≤ 126) ∧ ((gP g).1 ≤ 8 ∧ ∀ i, i < (gP g).1 → StOK (gF g) ((gP g).2 i)) ∧ ((gK g).1 ≤ 2 ∧ ∀ i, i < (gK g).1 → StOK (gF g) ((gK g).2 i)) ∧ ((gN g).1 ≤ 8 ∧ ∀ i, i < (gN g).1 → ((gN g).2 i).1 < fK (gF g) ∧ ((gN g).2 i).2.1 ≤ 20 ∧ ((gN g).2 i).2.2 ≤ 40) ∧ ((gM g).1 ≤ 8 ∧ ∀ i, i < (gM g).1 → (gM g).2 i ≤ 40)
/-- the class's notes -/
def NR (D : Dt) (n : Nat × (Nat → Nat × Nat × Nat)) (m : Nat × (Nat → Nat)) : Prop := D 54 4 = nI n.1 ∧ D 54 5 = nI m.1 ∧ (∀ i, i < n.1 → D 55 i = nI (n.2 i).1 ∧ D 56 i = nI (n.2 i).2.1 ∧ D 57 i = nI (n.2 i).2.2) ∧ ∀ i, i < m.1 → D 58 i = nI (m.2 i)
def TXc (D : Dt) (t : Nat × (Nat → Nat)) : Prop := D 1 2 = nI t.1 ∧ ∀ i, i < t.1 → D 2 i = nI (t.2 i)
def CR (D : Dt) (P : Ft) (g : Gs) : Prop := PB P ∧ TXc D (gT g) ∧ CF D 4 (gF g) ∧ CS D 14 (gS g) ∧ ShR D P 20 8 (gP g).1 (gP g).2 ∧ ShR D P 46 2 (gK g).1 (gK g).2 ∧ NR D (gN g) (gM g)
theorem TXc.tx {D : Dt} {g : Gs} (h : TXc D (gT g)) (ho : GOK g) : TX D (gT g).1 (gT g).2 := ⟨h.1, ho.2.2.1.1, fun i hi => ⟨h.2 i hi, ho.2.2.1.2 i hi⟩⟩
theorem ShR.nn {D E : Dt} {P : Ft} {b c m : Nat} {u : Nat → St} (h : ShR D P b c m u) (hE : ∀ q, b ≤ q → q < b + 2 + 3 * c → E q = D q) : ShR E P b c m u := by
  obtain ⟨h1, h2, g, hg, hu⟩ := h
  refine ⟨by rw [hE b (Nat.le_refl _) (by omega)]; exact h1, h2, g, hg, fun i hi => ?_⟩
  obtain ⟨j, hj, ej⟩ := hg.2.1 i (by omega)
  exact (hu i hi).at1 (hE _ (by omega) (by omega)) (hE _ (by omega) (by omega)) (hE _ (by omega) (by omega))
theorem ShR.pp {D : Dt} {P P' : Ft} {b c m : Nat} {u : Nat → St} (h : ShR D P b c m u) (hP : PB P) (hP' : PB P') (hb : b ≠ 20) : ShR D P' b c m u := by
  obtain ⟨h1, h2, g, hg, hu⟩ := h
  exact ⟨h1, h2, g, ⟨fun i hi => by rw [hP' (b + 1) i (by omega), ← hP (b + 1) i (by omega)]; exact hg.1 i hi, hg.2⟩, hu⟩
theorem NR.nn {D E : Dt} {n : Nat × (Nat → Nat × Nat × Nat)} {m : Nat × (Nat → Nat)} (h : NR D n m) (hE : ∀ q, 54 ≤ q → q ≤ 58 → E q = D q) : NR E n m := by
  unfold NR
  rw [hE 54 (by decide) (by decide), hE 55 (by decide) (by decide), hE 56 (by decide) (by decide), hE 57 (by decide) (by decide), hE 58 (by decide) (by decide)]
  exact h
def Sc (q : Nat) : Prop := q = 3 ∨ (9 ≤ q ∧ q ≤ 13) ∨ (17 ≤ q ∧ q ≤ 19) ∨ 59 ≤ q
/-- only places where nothing is kept have changed -/
theorem CR.sc {D E : Dt} {P : Ft} {g : Gs} (h : CR D P g) (hE : ∀ q, ¬ Sc q → q ≠ 1 → E q = D q) (h1 : ∀ k, k ≠ 3 → E 1 k = D 1 k) : CR E P g := by
  obtain ⟨hP, ht, hf, hs, hp, hk, hn⟩ := h
  have e : ∀ q, ¬ (q = 3 ∨ (9 ≤ q ∧ q ≤ 13) ∨ (17 ≤ q ∧ q ≤ 19) ∨ 59 ≤ q) → q ≠ 1 → E q = D q := hE
  refine ⟨hP, ⟨by rw [h1 2 (by decide)]; exact ht.1, by rw [e 2 (by decide) (by decide)]; exact ht.2⟩, hf.nn (e _ (by decide) (by decide)) (e _ (by decide) (by decide)) (e _ (by decide) (by decide)) (e _ (by decide) (by decide)), hs.at1 (e _ (by decide) (by decide)) (e _ (by decide) (by decide)) (e _ (by decide) (by decide)), hp.nn (fun q h1 h2 => e q (by omega) (by omega)), hk.nn (fun q h1 h2 => e q (by omega) (by omega)), hn.nn (fun q h1 h2 => e q (by omega) (by omega))⟩
/-- the model's cells have not changed -/
def Hi (D E : Dt) : Prop := ∀ q, 97 ≤ q → E q = D q
theorem Hi.rf {D : Dt} : Hi D D := fun _ _ => rfl
theorem Hi.tr {D E F : Dt} (h : Hi D E) (g : Hi E F) : Hi D F := fun q a => (g q a).trans (h q a)
theorem up {x : Int32} {a b : Nat} (h : nI a ≤ x) (h2 : x ≤ nI b) (hb : b < 1000) (ha : a < 1000) : ∃ n, x = nI n ∧ a ≤ n ∧ n ≤ b := by
  have h0 : (0 : Int) ≤ x.toInt := by
    have e1 := Int32.le_iff_toInt_le.mp h
    have e2 : (nI a).toInt = a := nI_toInt (by omega)
    omega
  have h3 : x.toInt ≤ b := by
    have e1 := Int32.le_iff_toInt_le.mp h2
    have e2 : (nI b).toInt = b := nI_toInt (by omega)
    omega
  have h4 : (a : Int) ≤ x.toInt := by
    have e1 := Int32.le_iff_toInt_le.mp h
    have e2 : (nI a).toInt = a := nI_toInt (by omega)
    omega
  refine ⟨x.toInt.toNat, Int32.toInt_inj.mp ?_, by omega, by omega⟩
  rw [nI_toInt (by omega)]; omega
/-- whether a number lies within two others, told of any number -/
theorem isW {N nx : Nat} {D : Dt} {P : Ft} {x : Int32} {a b : Nat} (ha : a < 1000) (hb : b < 1000) : (f_H_isWithin N nx D P x (nI a) (nI b) = some 1 ∧ ∃ n, x = nI n ∧ a ≤ n ∧ n ≤ b) ∨ (f_H_isWithin N nx D P x (nI a) (nI b) = some 0 ∧ ¬ (nI a ≤ x ∧ x ≤ nI b)) := by
  unfold f_H_isWithin
  by_cases q : x < nI a
  · exact Or.inr ⟨if_pos q, fun e => Int32.not_lt.mpr e.1 q⟩
  · rw [if_neg q]
    by_cases w : nI b < x
    · exact Or.inr ⟨if_pos w, fun e => Int32.not_lt.mpr e.2 w⟩
    · exact Or.inl ⟨if_neg w, up (Int32.not_lt.mp q) (Int32.not_lt.mp w) hb ha⟩
