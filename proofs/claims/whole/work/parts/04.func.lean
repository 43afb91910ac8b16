/-! what a function over the heap is made of -/
theorem ite_t {α : Type} {c : Prop} [Decidable c] {A B : Option α} {z : α} (hc : c) (h : (if c then A else B) = some z) : A = some z := by rw [if_pos hc] at h; exact h
theorem ite_f {α : Type} {c : Prop} [Decidable c] {A B : Option α} {z : α} (hc : ¬ c) (h : (if c then A else B) = some z) : B = some z := by rw [if_neg hc] at h; exact h
theorem grd {α : Type} {c : Prop} [Decidable c] {A : Option α} {z : α} (h : (if c then A else none) = some z) : c ∧ A = some z := by
  by_cases hc : c
  · exact ⟨hc, ite_t hc h⟩
  · rw [if_neg hc] at h; cases h
theorem grdn {α : Type} {c : Prop} [Decidable c] {A : Option α} {z : α} (h : (if c then none else A) = some z) : ¬ c ∧ A = some z := by
  by_cases hc : c
  · rw [if_pos hc] at h; cases h
  · exact ⟨hc, ite_f hc h⟩
theorem nonz {α : Type} {z : α} (h : none = some z) : False := by cases h
def nn {α : Type} (r : Option Nat) (K : Nat → Option α) : Option α := match r with
  | none => none
  | some q => K q
theorem nns {α : Type} {r : Option Nat} {K : Nat → Option α} {z : α} (h : nn r K = some z) : ∃ q, r = some q ∧ K q = some z := by
  cases r with
  | none => cases h
  | some q => exact ⟨q, rfl, h⟩
def orn {α : Type} (r : Option Nat) (A : Option α) (K : Nat → Option α) : Option α := match r with
  | none => A
  | some q => K q
theorem orN {α : Type} {r : Option Nat} {A : Option α} {K : Nat → Option α} {z : α} (h : orn r A K = some z) : (r = none ∧ A = some z) ∨ ∃ q, r = some q ∧ K q = some z := by
  cases r with
  | none => exact Or.inl ⟨rfl, h⟩
  | some q => exact Or.inr ⟨q, rfl, h⟩
def pas {α β : Type} (x : α) (K : α → Option β) : Option β := K x
theorem pass {α β : Type} {x : α} {K : α → Option β} {z : β} (h : pas x K = some z) : ∃ y, y = x ∧ K y = some z := ⟨x, rfl, h⟩
theorem bnds {α β : Type} {o : Option α} {K : α → Option β} {z : β} (h : o.bind K = some z) : ∃ y, o = some y ∧ K y = some z := by
  cases o with
  | none => cases h
  | some y => exact ⟨y, rfl, h⟩
def wk1 {A1 ρ : Type} : Nat → ((A1 → Option ρ) → A1 → Option ρ) → A1 → Option ρ
  | 0, _, _ => none
  | n + 1, F, a1 => F (wk1 n F) a1
def wk2 {A1 A2 ρ : Type} : Nat → ((A1 → A2 → Option ρ) → A1 → A2 → Option ρ) → A1 → A2 → Option ρ
  | 0, _, _, _ => none
  | n + 1, F, a1, a2 => F (wk2 n F) a1 a2
def wk3 {A1 A2 A3 ρ : Type} : Nat → ((A1 → A2 → A3 → Option ρ) → A1 → A2 → A3 → Option ρ) → A1 → A2 → A3 → Option ρ
  | 0, _, _, _, _ => none
  | n + 1, F, a1, a2, a3 => F (wk3 n F) a1 a2 a3
def wk4 {A1 A2 A3 A4 ρ : Type} : Nat → ((A1 → A2 → A3 → A4 → Option ρ) → A1 → A2 → A3 → A4 → Option ρ) → A1 → A2 → A3 → A4 → Option ρ
  | 0, _, _, _, _, _ => none
  | n + 1, F, a1, a2, a3, a4 => F (wk4 n F) a1 a2 a3 a4
def wk5 {A1 A2 A3 A4 A5 ρ : Type} : Nat → ((A1 → A2 → A3 → A4 → A5 → Option ρ) → A1 → A2 → A3 → A4 → A5 → Option ρ) → A1 → A2 → A3 → A4 → A5 → Option ρ
  | 0, _, _, _, _, _, _ => none
  | n + 1, F, a1, a2, a3, a4, a5 => F (wk5 n F) a1 a2 a3 a4 a5
def wk6 {A1 A2 A3 A4 A5 A6 ρ : Type} : Nat → ((A1 → A2 → A3 → A4 → A5 → A6 → Option ρ) → A1 → A2 → A3 → A4 → A5 → A6 → Option ρ) → A1 → A2 → A3 → A4 → A5 → A6 → Option ρ
  | 0, _, _, _, _, _, _, _ => none
  | n + 1, F, a1, a2, a3, a4, a5, a6 => F (wk6 n F) a1 a2 a3 a4 a5 a6
def wk7 {A1 A2 A3 A4 A5 A6 A7 ρ : Type} : Nat → ((A1 → A2 → A3 → A4 → A5 → A6 → A7 → Option ρ) → A1 → A2 → A3 → A4 → A5 → A6 → A7 → Option ρ) → A1 → A2 → A3 → A4 → A5 → A6 → A7 → Option ρ
  | 0, _, _, _, _, _, _, _, _ => none
  | n + 1, F, a1, a2, a3, a4, a5, a6, a7 => F (wk7 n F) a1 a2 a3 a4 a5 a6 a7
def wk8 {A1 A2 A3 A4 A5 A6 A7 A8 ρ : Type} : Nat → ((A1 → A2 → A3 → A4 → A5 → A6 → A7 → A8 → Option ρ) → A1 → A2 → A3 → A4 → A5 → A6 → A7 → A8 → Option ρ) → A1 → A2 → A3 → A4 → A5 → A6 → A7 → A8 → Option ρ
  | 0, _, _, _, _, _, _, _, _, _ => none
  | n + 1, F, a1, a2, a3, a4, a5, a6, a7, a8 => F (wk8 n F) a1 a2 a3 a4 a5 a6 a7 a8
def wk9 {A1 A2 A3 A4 A5 A6 A7 A8 A9 ρ : Type} : Nat → ((A1 → A2 → A3 → A4 → A5 → A6 → A7 → A8 → A9 → Option ρ) → A1 → A2 → A3 → A4 → A5 → A6 → A7 → A8 → A9 → Option ρ) → A1 → A2 → A3 → A4 → A5 → A6 → A7 → A8 → A9 → Option ρ
  | 0, _, _, _, _, _, _, _, _, _, _ => none
  | n + 1, F, a1, a2, a3, a4, a5, a6, a7, a8, a9 => F (wk9 n F) a1 a2 a3 a4 a5 a6 a7 a8 a9
def wk10 {A1 A2 A3 A4 A5 A6 A7 A8 A9 A10 ρ : Type} : Nat → ((A1 → A2 → A3 → A4 → A5 → A6 → A7 → A8 → A9 → A10 → Option ρ) → A1 → A2 → A3 → A4 → A5 → A6 → A7 → A8 → A9 → A10 → Option ρ) → A1 → A2 → A3 → A4 → A5 → A6 → A7 → A8 → A9 → A10 → Option ρ
  | 0, _, _, _, _, _, _, _, _, _, _, _ => none
  | n + 1, F, a1, a2, a3, a4, a5, a6, a7, a8, a9, a10 => F (wk10 n F) a1 a2 a3 a4 a5 a6 a7 a8 a9 a10
theorem sw_outg {x : Int32} {lo hi : Int} {n : Nat} (h1 : -1000 ≤ lo) (hn : n < 1000) (hh : lo + n - 1 = hi) (h : ∀ k : Nat, k < n → ¬ x = Int32.ofInt (lo + k)) : x.toInt < lo ∨ hi < x.toInt := by
  by_cases q : x.toInt < lo
  · exact Or.inl q
  · right
    apply Classical.byContradiction
    intro z
    by_cases g : x.toInt < lo + 1000
    · refine h (x.toInt - lo).toNat (by omega) ?_
      apply Int32.toInt_inj.mp
      rw [show lo + ((x.toInt - lo).toNat : Int) = x.toInt by omega, Int32.ofInt_toInt]
    · omega
section XM
variable {p : Program} {l : Launch} {e : Env} {R : Room} {s : State} {m : MethodId} {args : Array Value} {below : List Frame} {meth : Method} {c : Code} {Q : State → Prop} {cx : Cx} {b : ByteArray} {nL : Nat} {rt : Option FieldType} {own mn : String} {D : Dt} {P : Ft} {nx cells slots pc : Nat} {lv : List (Nat × Value)} {st : List Value}
theorem x_nm {x y : Int32} (h : y = x) (kk : XW p l e R s m args below meth c Q cx nL D P nx cells slots pc lv (.int y :: st)) : XW p l e R s m args below meth c Q cx nL D P nx cells slots pc lv (.int x :: st) := h ▸ kk
theorem x_nmL {x y : Int64} (h : y = x) (kk : XW p l e R s m args below meth c Q cx nL D P nx cells slots pc lv (.long y :: st)) : XW p l e R s m args below meth c Q cx nL D P nx cells slots pc lv (.long x :: st) := h ▸ kk
theorem x_rvN (kk : XW p l e R s m args below meth c Q cx nL D P nx cells slots pc lv (.null :: st)) : XW p l e R s m args below meth c Q cx nL D P nx cells slots pc lv (rv cx none :: st) := kk
theorem x_rvS {q : Nat} (kk : XW p l e R s m args below meth c Q cx nL D P nx cells slots pc lv (.ref (cx.2.2 + q) :: st)) : XW p l e R s m args below meth c Q cx nL D P nx cells slots pc lv (rv cx (some q) :: st) := kk
end XM
theorem w_oi1 : Cond.instanceMethod Lib.objectInit ∈ wT := mT 76 (by decide +kernel) rfl
theorem w_oi2 : Cond.code Lib.objectInit ⟨#[0xb1]⟩ 1 none ∈ wT := mT 77 (by decide +kernel) rfl
