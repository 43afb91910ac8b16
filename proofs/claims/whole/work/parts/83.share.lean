/-! how all should be borne so that the most is least -/
theorem le_ext {a b : Nat} (h : ∀ v, a ≤ v ↔ b ≤ v) : a = b := Nat.le_antisymm ((h b).mpr (Nat.le_refl b)) ((h a).mp (Nat.le_refl a))
def ad (L : Nat → Nat) (p z : Nat) : Nat → Nat := fun x => if x = p then L x + z else L x
theorem ad_s {L : Nat → Nat} {p z : Nat} : ad L p z p = L p + z := if_pos rfl
theorem ad_n {L : Nat → Nat} {p z x : Nat} (h : x ≠ p) : ad L p z x = L x := if_neg h
theorem ad_ge {L : Nat → Nat} {p z x : Nat} : L x ≤ ad L p z x := by
  unfold ad; split <;> omega
/-- the greatest of the first n -/
def gl : Nat → (Nat → Nat) → Nat
  | 0, _ => 0
  | j + 1, L => if gl j L < L j then L j else gl j L
theorem gl_le {L : Nat → Nat} {v : Nat} : ∀ n, gl n L ≤ v ↔ ∀ p, p < n → L p ≤ v
  | 0 => ⟨fun _ p hp => absurd hp (Nat.not_lt_zero p), fun _ => Nat.zero_le _⟩
  | n + 1 => by
    show (if gl n L < L n then L n else gl n L) ≤ v ↔ _
    have ih := gl_le (L := L) (v := v) n
    constructor
    · intro h p hp
      by_cases c : gl n L < L n
      · rw [if_pos c] at h
        rcases Nat.lt_or_ge p n with w | w
        · exact ih.mp (by omega) p w
        · rw [show p = n by omega]; exact h
      · rw [if_neg c] at h
        rcases Nat.lt_or_ge p n with w | w
        · exact ih.mp h p w
        · rw [show p = n by omega]; omega
    · intro h
      have h1 := ih.mpr (fun p hp => h p (by omega))
      have h2 := h n (by omega)
      split <;> omega
theorem gl_ad {L : Nat → Nat} {n p z : Nat} (hp : p < n) : gl n (ad L p z) = if gl n L < L p + z then L p + z else gl n L := by
  refine le_ext (fun v => ?_)
  rw [gl_le]
  constructor
  · intro h
    have h1 := h p hp
    rw [ad_s] at h1
    have h2 : gl n L ≤ v := (gl_le n).mpr (fun q hq => Nat.le_trans ad_ge (h q hq))
    split <;> omega
  · intro h q hq
    have h2 : gl n L ≤ v ∧ L p + z ≤ v := by
      by_cases c : gl n L < L p + z
      · rw [if_pos c] at h; omega
      · rw [if_neg c] at h; omega
    by_cases c : q = p
    · rw [c, ad_s]; exact h2.2
    · rw [ad_n c]; exact (gl_le n).mp h2.1 q hq
/-- the least of the first n (n at least 1), and the first that is it -/
def mi (f : Nat → Nat) : Nat → Nat
  | 0 => f 0
  | j + 1 => if f j < mi f j then f j else mi f j
def ar (f : Nat → Nat) : Nat → Nat
  | 0 => 0
  | j + 1 => if f j < mi f j then j else ar f j
theorem mi_s {f : Nat → Nat} {j : Nat} : mi f (j + 1) = if f j < mi f j then f j else mi f j := rfl
theorem ar_s {f : Nat → Nat} {j : Nat} : ar f (j + 1) = if f j < mi f j then j else ar f j := rfl
theorem mi_1 {f : Nat → Nat} : mi f 1 = f 0 := by
  rw [mi_s, if_neg (show ¬ f 0 < mi f 0 from Nat.lt_irrefl (f 0))]; rfl
theorem mi_f {f : Nat → Nat} : ∀ j p, p < j → mi f j ≤ f p
  | 0, p, h => absurd h (Nat.not_lt_zero p)
  | j + 1, p, h => by
    rw [mi_s]
    rcases Nat.lt_or_ge p j with w | w
    · have := mi_f (f := f) j p w
      split <;> omega
    · rw [show p = j by omega]
      split <;> omega
theorem ar_f {f : Nat → Nat} : ∀ j, 1 ≤ j → ar f j < j ∧ f (ar f j) = mi f j ∧ ∀ p, p < ar f j → mi f j < f p
  | 0, h => by omega
  | j + 1, _ => by
    rw [mi_s, ar_s]
    by_cases c : f j < mi f j
    · rw [if_pos c, if_pos c]
      exact ⟨by omega, rfl, fun p hp => by have := mi_f (f := f) j p hp; omega⟩
    · rw [if_neg c, if_neg c]
      rcases Nat.eq_zero_or_pos j with z | z
      · subst z
        exact ⟨by show (0 : Nat) < 1; omega, rfl, fun p hp => absurd hp (Nat.not_lt_zero p)⟩
      · obtain ⟨h1, h2, h3⟩ := ar_f (f := f) j z
        exact ⟨by omega, h2, h3⟩
theorem mi_le {f : Nat → Nat} {n v : Nat} (hn : 1 ≤ n) : mi f n ≤ v ↔ ∃ p, p < n ∧ f p ≤ v := by
  obtain ⟨h1, h2, -⟩ := ar_f (f := f) n hn
  exact ⟨fun h => ⟨ar f n, h1, by omega⟩, fun ⟨p, hp, h⟩ => Nat.le_trans (mi_f n p hp) h⟩
section SHR
variable {n : Nat} {z : Nat → Nat}
def mn (n : Nat) (z : Nat → Nat) : List Nat → (Nat → Nat) → Nat
  | [], L => gl n L
  | t :: r, L => mi (fun p => mn n z r (ad L p (z t))) n
def way (n : Nat) (z : Nat → Nat) : List Nat → (Nat → Nat) → List Nat
  | [], _ => []
  | t :: r, L => ar (fun p => mn n z r (ad L p (z t))) n :: way n z r (ad L (ar (fun p => mn n z r (ad L p (z t))) n) (z t))
def Aw (n : Nat) (z : Nat → Nat) : List Nat → (Nat → Nat) → Nat → Prop
  | [], L, v => ∀ p, p < n → L p ≤ v
  | t :: r, L, v => ∃ p, p < n ∧ Aw n z r (ad L p (z t)) v
theorem mn_le (hn : 1 ≤ n) : ∀ (r : List Nat) (L : Nat → Nat) (v : Nat), mn n z r L ≤ v ↔ Aw n z r L v
  | [], _, _ => gl_le n
  | t :: r, L, v => by
    show mi (fun p => mn n z r (ad L p (z t))) n ≤ v ↔ ∃ p, p < n ∧ Aw n z r (ad L p (z t)) v
    rw [mi_le hn]
    exact ⟨fun ⟨p, hp, h⟩ => ⟨p, hp, (mn_le hn r _ v).mp h⟩, fun ⟨p, hp, h⟩ => ⟨p, hp, (mn_le hn r _ v).mpr h⟩⟩
theorem Aw_base : ∀ (r : List Nat) (L : Nat → Nat) (v : Nat), Aw n z r L v → ∀ p, p < n → L p ≤ v
  | [], _, _, h => h
  | t :: r, L, v, ⟨p, hp, h⟩ => fun q hq => Nat.le_trans ad_ge (Aw_base r _ v h q hq)
theorem mn_gl (hn : 1 ≤ n) (r : List Nat) (L : Nat → Nat) : gl n L ≤ mn n z r L := (gl_le n).mpr (Aw_base r L _ ((mn_le hn r L _).mp (Nat.le_refl _)))
theorem mn_cap (hn : 1 ≤ n) (hz : ∀ t, z t ≤ 40) : ∀ (r : List Nat) (L : Nat → Nat), (∀ p, L p + 40 * r.length ≤ 320) → mn n z r L ≤ 320
  | [], L, h => (gl_le n).mpr (fun p _ => by have := h p; omega)
  | t :: r, L, h => (mi_le hn).mpr ⟨0, by omega, mn_cap hn hz r _ (fun p => by
      have h1 := h p
      have h2 := hz t
      rw [List.length_cons] at h1
      unfold ad; split <;> omega)⟩
def sw (q j x : Nat) : Nat := if x = q then j else if x = j then q else x
theorem sw_sw {q j x : Nat} : sw q j (sw q j x) = x := by
  unfold sw
  by_cases a : x = q
  · rw [if_pos a]
    by_cases b : j = q
    · rw [if_pos b]; omega
    · rw [if_neg b, if_pos rfl]; omega
  · rw [if_neg a]
    by_cases b : x = j
    · rw [if_pos b, if_pos rfl]; omega
    · rw [if_neg b, if_neg a, if_neg b]
theorem sw_lt {q j x : Nat} (hq : q < n) (hj : j < n) (hx : x < n) : sw q j x < n := by
  unfold sw; split
  · exact hj
  · split
    · exact hq
    · exact hx
theorem Aw_swap {q j : Nat} (hq : q < n) (hj : j < n) : ∀ (r : List Nat) (L : Nat → Nat) (v : Nat), Aw n z r L v → Aw n z r (fun x => L (sw q j x)) v
  | [], L, v, h => fun p hp => h _ (sw_lt hq hj hp)
  | t :: r, L, v, ⟨p, hp, h⟩ => ⟨sw q j p, sw_lt hq hj hp, by
      have e : ad (fun x => L (sw q j x)) (sw q j p) (z t) = fun x => ad L p (z t) (sw q j x) := funext fun x => by
        unfold ad
        by_cases c : sw q j x = p
        · rw [if_pos c, if_pos (by rw [← c, sw_sw])]
        · rw [if_neg c, if_neg (fun k => c (by rw [k, sw_sw]))]
      rw [e]
      exact Aw_swap hq hj r _ v h⟩
/-- two who bear as much: the same, whichever it is -/
theorem mn_like (hn : 1 ≤ n) {q j y : Nat} (hq : q < n) (hj : j < n) {L : Nat → Nat} (h : L q = L j) (r : List Nat) : mn n z r (ad L j y) = mn n z r (ad L q y) := by
  have e1 : (fun x => ad L q y (sw q j x)) = ad L j y := funext fun x => by
    unfold ad sw
    by_cases a : x = q
    · rw [if_pos a]
      by_cases b : j = q
      · rw [if_pos b, if_pos (by omega), a, b]
      · rw [if_neg b, if_neg (by omega), a]; exact h.symm
    · rw [if_neg a]
      by_cases b : x = j
      · rw [if_pos b, if_pos rfl, if_pos b, b, h]
      · rw [if_neg b, if_neg a, if_neg b]
  have e2 : (fun x => ad L j y (sw q j x)) = ad L q y := funext fun x => by
    rw [← e1]
    show ad L q y (sw q j (sw q j x)) = _
    rw [sw_sw]
  refine le_ext (fun v => ?_)
  rw [mn_le hn, mn_le hn]
  exact ⟨fun k => by have := Aw_swap hq hj r _ v k; rwa [e2] at this, fun k => by have := Aw_swap hq hj r _ v k; rwa [e1] at this⟩
end SHR
/-! pins in order -/
def pl (c : Nat → Bool) : Nat → Nat → List Nat
  | 0, _ => []
  | m + 1, t => if c t = true then t :: pl c m (t + 1) else pl c m (t + 1)
theorem pl_t {c : Nat → Bool} {m t : Nat} (h : c t = true) : pl c (m + 1) t = t :: pl c m (t + 1) := if_pos h
theorem pl_f {c : Nat → Bool} {m t : Nat} (h : ¬ c t = true) : pl c (m + 1) t = pl c m (t + 1) := if_neg h
theorem pl_mem {c : Nat → Bool} : ∀ m t x, x ∈ pl c m t ↔ t ≤ x ∧ x < t + m ∧ c x = true
  | 0, t, x => ⟨fun h => (by cases h), fun ⟨a, b, _⟩ => (by omega)⟩
  | m + 1, t, x => by
    have ih := pl_mem (c := c) m (t + 1) x
    by_cases h : c t = true
    · rw [pl_t h, List.mem_cons, ih]
      constructor
      · rintro (rfl | ⟨a, b, e⟩)
        · exact ⟨Nat.le_refl _, by omega, h⟩
        · exact ⟨by omega, by omega, e⟩
      · rintro ⟨a, b, e⟩
        by_cases k : x = t
        · exact Or.inl k
        · exact Or.inr ⟨by omega, by omega, e⟩
    · rw [pl_f h, ih]
      constructor
      · rintro ⟨a, b, e⟩; exact ⟨by omega, by omega, e⟩
      · rintro ⟨a, b, e⟩
        by_cases k : x = t
        · rw [k] at e; exact absurd e h
        · exact ⟨by omega, by omega, e⟩
theorem pl_len {c : Nat → Bool} : ∀ m t, (pl c m t).length ≤ m
  | 0, _ => Nat.le_refl _
  | m + 1, t => by
    have := pl_len (c := c) m (t + 1)
    by_cases h : c t = true
    · rw [pl_t h, List.length_cons]; omega
    · rw [pl_f h]; omega
/-- by whom a pin is then borne -/
def shr (n : Nat) (z : Nat → Nat) (c : Nat → Bool) : Nat → Nat → (Nat → Nat) → Nat → Nat
  | 0, _, _, _ => 0
  | m + 1, o, L, t => if c o = true then (if o = t then ar (fun p => mn n z (pl c m (o + 1)) (ad L p (z o))) n else shr n z c m (o + 1) (ad L (ar (fun p => mn n z (pl c m (o + 1)) (ad L p (z o))) n) (z o)) t) else shr n z c m (o + 1) L t
theorem shr_s {n : Nat} {z : Nat → Nat} {c : Nat → Bool} {m o t : Nat} {L : Nat → Nat} : shr n z c (m + 1) o L t = if c o = true then (if o = t then ar (fun p => mn n z (pl c m (o + 1)) (ad L p (z o))) n else shr n z c m (o + 1) (ad L (ar (fun p => mn n z (pl c m (o + 1)) (ad L p (z o))) n) (z o)) t) else shr n z c m (o + 1) L t := rfl
theorem way_shr {n : Nat} {z : Nat → Nat} {c : Nat → Bool} : ∀ (m o : Nat) (L : Nat → Nat) (i : Nat), i < (pl c m o).length → (way n z (pl c m o) L).getD i 0 = shr n z c m o L ((pl c m o).getD i 0)
  | 0, _, _, i, h => absurd h (Nat.not_lt_zero i)
  | m + 1, o, L, i, h => by
    rw [shr_s]
    by_cases k : c o = true
    · rw [pl_t k] at h ⊢
      rw [if_pos k]
      cases i with
      | zero => rw [List.getD_cons_zero, if_pos rfl]; rfl
      | succ i =>
        have hi : i < (pl c m (o + 1)).length := by rw [List.length_cons] at h; omega
        have hne : ¬ o = (pl c m (o + 1)).getD i 0 := fun e => by
          have : (pl c m (o + 1)).getD i 0 ∈ pl c m (o + 1) := by
            rw [List.getD_eq_getElem?_getD, List.getElem?_eq_getElem hi]
            exact List.getElem_mem hi
          rw [← e] at this
          have := (pl_mem m (o + 1) o).mp this
          omega
        rw [List.getD_cons_succ, if_neg hne]
        exact way_shr m (o + 1) _ i hi
    · rw [pl_f k] at h ⊢
      rw [if_neg k]
      exact way_shr m (o + 1) L i h
def oShare (g : Gs) (x : Int32) : Int32 := if x = -1 then nI (mn (fN (gF g)) (sZ (gS g)) (pl (br' (gS g)) 8 0) (fun _ => 0)) else if isT (gF g) x = true then (if sP (gS g) x.toNatClampNeg < 5 then nI (shr (fN (gF g)) (sZ (gS g)) (br' (gS g)) 8 0 (fun _ => 0) x.toNatClampNeg) else -4) else -1
