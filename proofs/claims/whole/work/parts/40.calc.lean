/-! LAYER 2: what the functions answer. OkP Q o: o has an answer, of which Q holds -/
def OkP {α : Type} (Q : α → Prop) (o : Option α) : Prop := ∃ z, o = some z ∧ Q z
section OK
variable {α β : Type} {Q : α → Prop} {Q1 : β → Prop}
theorem ok_some {v : α} (h : Q v) : OkP Q (some v) := ⟨v, rfl, h⟩
theorem ok_eq {o : Option α} {v : α} (h : o = some v) (hq : Q v) : OkP Q o := ⟨v, h, hq⟩
theorem ok_ite {c : Prop} [Decidable c] {A B : Option α} (h1 : c → OkP Q A) (h2 : ¬ c → OkP Q B) : OkP Q (if c then A else B) := by
  by_cases h : c
  · rw [if_pos h]; exact h1 h
  · rw [if_neg h]; exact h2 h
theorem ok_t {c : Prop} [Decidable c] {A B : Option α} (hc : c) (h : OkP Q A) : OkP Q (if c then A else B) := by rw [if_pos hc]; exact h
theorem ok_f {c : Prop} [Decidable c] {A B : Option α} (hc : ¬ c) (h : OkP Q B) : OkP Q (if c then A else B) := by rw [if_neg hc]; exact h
theorem ok_nn {r : Option Nat} {q : Nat} {K : Nat → Option α} (h : r = some q) (k : OkP Q (K q)) : OkP Q (nn r K) := by subst h; exact k
theorem ok_orS {r : Option Nat} {q : Nat} {A : Option α} {K : Nat → Option α} (h : r = some q) (k : OkP Q (K q)) : OkP Q (orn r A K) := by subst h; exact k
theorem ok_orN {r : Option Nat} {A : Option α} {K : Nat → Option α} (h : r = none) (k : OkP Q A) : OkP Q (orn r A K) := by subst h; exact k
theorem ok_pas {x : β} {K : β → Option α} (h : OkP Q (K x)) : OkP Q (pas x K) := h
theorem ok_pas' {x : β} {K : β → Option α} (h : ∀ y, y = x → OkP Q (K y)) : OkP Q (pas x K) := h x rfl
theorem ok_bind {o : Option β} {K : β → Option α} (h : OkP Q1 o) (k : ∀ y, Q1 y → OkP Q (K y)) : OkP Q (o.bind K) := by
  obtain ⟨y, rfl, hy⟩ := h
  exact k y hy
theorem ok_call {o : Option β} {y : β} {K : β → Option α} (h : o = some y) (k : OkP Q (K y)) : OkP Q (o.bind K) := by subst h; exact k
theorem ok_imp {Q2 : α → Prop} {o : Option α} (h : OkP Q o) (k : ∀ z, Q z → Q2 z) : OkP Q2 o := by
  obtain ⟨z, h1, h2⟩ := h
  exact ⟨z, h1, k z h2⟩
theorem ok_val {o : Option α} {v : α} (h : OkP (fun z => z = v) o) : o = some v := by
  obtain ⟨z, h1, h2⟩ := h
  rw [h1, h2]
end OK
theorem wk1_inv {A1 ρ : Type} {F : (A1 → Option ρ) → A1 → Option ρ} {Q : Option ρ → Prop} (I : Nat → A1 → Prop) (T : Nat) (hs : ∀ t, t < T → ∀ (a1 : A1), I t a1 → ∀ rec : A1 → Option ρ, (∀ (b1 : A1), I (t + 1) b1 → Q (rec b1)) → Q (F rec a1)) (he : ∀ (a1 : A1), I T a1 → ∀ rec : A1 → Option ρ, Q (F rec a1)) : ∀ (t N : Nat) (a1 : A1), t ≤ T → T < N + t → I t a1 → Q (wk1 N F a1) := by
  intro t N
  induction N generalizing t with
  | zero => intro a1 h1 h2; omega
  | succ N ih =>
    intro a1 h1 h2 hI
    show Q (F (wk1 N F) a1)
    rcases Nat.lt_or_ge t T with q | q
    · exact hs t q a1 hI _ (fun b1 hb => ih (t + 1) b1 q (by omega) hb)
    · have : t = T := by omega
      subst this
      exact he a1 hI _
theorem wk1_run {A1 ρ : Type} {F : (A1 → Option ρ) → A1 → Option ρ} {Q : Option ρ → Prop} (I : Nat → A1 → Prop) (T N : Nat) (b1 : A1) (hN : T < N) (h0 : I 0 b1) (hs : ∀ t, t < T → ∀ (a1 : A1), I t a1 → ∀ rec : A1 → Option ρ, (∀ (b1 : A1), I (t + 1) b1 → Q (rec b1)) → Q (F rec a1)) (he : ∀ (a1 : A1), I T a1 → ∀ rec : A1 → Option ρ, Q (F rec a1)) : Q (wk1 N F b1) :=
  wk1_inv I T hs he 0 N b1 (Nat.zero_le _) (by omega) h0
theorem wk2_inv {A1 A2 ρ : Type} {F : (A1 → A2 → Option ρ) → A1 → A2 → Option ρ} {Q : Option ρ → Prop} (I : Nat → A1 → A2 → Prop) (T : Nat) (hs : ∀ t, t < T → ∀ (a1 : A1) (a2 : A2), I t a1 a2 → ∀ rec : A1 → A2 → Option ρ, (∀ (b1 : A1) (b2 : A2), I (t + 1) b1 b2 → Q (rec b1 b2)) → Q (F rec a1 a2)) (he : ∀ (a1 : A1) (a2 : A2), I T a1 a2 → ∀ rec : A1 → A2 → Option ρ, Q (F rec a1 a2)) : ∀ (t N : Nat) (a1 : A1) (a2 : A2), t ≤ T → T < N + t → I t a1 a2 → Q (wk2 N F a1 a2) := by
  intro t N
  induction N generalizing t with
  | zero => intro a1 a2 h1 h2; omega
  | succ N ih =>
    intro a1 a2 h1 h2 hI
    show Q (F (wk2 N F) a1 a2)
    rcases Nat.lt_or_ge t T with q | q
    · exact hs t q a1 a2 hI _ (fun b1 b2 hb => ih (t + 1) b1 b2 q (by omega) hb)
    · have : t = T := by omega
      subst this
      exact he a1 a2 hI _
theorem wk2_run {A1 A2 ρ : Type} {F : (A1 → A2 → Option ρ) → A1 → A2 → Option ρ} {Q : Option ρ → Prop} (I : Nat → A1 → A2 → Prop) (T N : Nat) (b1 : A1) (b2 : A2) (hN : T < N) (h0 : I 0 b1 b2) (hs : ∀ t, t < T → ∀ (a1 : A1) (a2 : A2), I t a1 a2 → ∀ rec : A1 → A2 → Option ρ, (∀ (b1 : A1) (b2 : A2), I (t + 1) b1 b2 → Q (rec b1 b2)) → Q (F rec a1 a2)) (he : ∀ (a1 : A1) (a2 : A2), I T a1 a2 → ∀ rec : A1 → A2 → Option ρ, Q (F rec a1 a2)) : Q (wk2 N F b1 b2) :=
  wk2_inv I T hs he 0 N b1 b2 (Nat.zero_le _) (by omega) h0
theorem wk3_inv {A1 A2 A3 ρ : Type} {F : (A1 → A2 → A3 → Option ρ) → A1 → A2 → A3 → Option ρ} {Q : Option ρ → Prop} (I : Nat → A1 → A2 → A3 → Prop) (T : Nat) (hs : ∀ t, t < T → ∀ (a1 : A1) (a2 : A2) (a3 : A3), I t a1 a2 a3 → ∀ rec : A1 → A2 → A3 → Option ρ, (∀ (b1 : A1) (b2 : A2) (b3 : A3), I (t + 1) b1 b2 b3 → Q (rec b1 b2 b3)) → Q (F rec a1 a2 a3)) (he : ∀ (a1 : A1) (a2 : A2) (a3 : A3), I T a1 a2 a3 → ∀ rec : A1 → A2 → A3 → Option ρ, Q (F rec a1 a2 a3)) : ∀ (t N : Nat) (a1 : A1) (a2 : A2) (a3 : A3), t ≤ T → T < N + t → I t a1 a2 a3 → Q (wk3 N F a1 a2 a3) := by
  intro t N
  induction N generalizing t with
  | zero => intro a1 a2 a3 h1 h2; omega
  | succ N ih =>
    intro a1 a2 a3 h1 h2 hI
    show Q (F (wk3 N F) a1 a2 a3)
    rcases Nat.lt_or_ge t T with q | q
    · exact hs t q a1 a2 a3 hI _ (fun b1 b2 b3 hb => ih (t + 1) b1 b2 b3 q (by omega) hb)
    · have : t = T := by omega
      subst this
      exact he a1 a2 a3 hI _
theorem wk3_run {A1 A2 A3 ρ : Type} {F : (A1 → A2 → A3 → Option ρ) → A1 → A2 → A3 → Option ρ} {Q : Option ρ → Prop} (I : Nat → A1 → A2 → A3 → Prop) (T N : Nat) (b1 : A1) (b2 : A2) (b3 : A3) (hN : T < N) (h0 : I 0 b1 b2 b3) (hs : ∀ t, t < T → ∀ (a1 : A1) (a2 : A2) (a3 : A3), I t a1 a2 a3 → ∀ rec : A1 → A2 → A3 → Option ρ, (∀ (b1 : A1) (b2 : A2) (b3 : A3), I (t + 1) b1 b2 b3 → Q (rec b1 b2 b3)) → Q (F rec a1 a2 a3)) (he : ∀ (a1 : A1) (a2 : A2) (a3 : A3), I T a1 a2 a3 → ∀ rec : A1 → A2 → A3 → Option ρ, Q (F rec a1 a2 a3)) : Q (wk3 N F b1 b2 b3) :=
  wk3_inv I T hs he 0 N b1 b2 b3 (Nat.zero_le _) (by omega) h0
theorem wk4_inv {A1 A2 A3 A4 ρ : Type} {F : (A1 → A2 → A3 → A4 → Option ρ) → A1 → A2 → A3 → A4 → Option ρ} {Q : Option ρ → Prop} (I : Nat → A1 → A2 → A3 → A4 → Prop) (T : Nat) (hs : ∀ t, t < T → ∀ (a1 : A1) (a2 : A2) (a3 : A3) (a4 : A4), I t a1 a2 a3 a4 → ∀ rec : A1 → A2 → A3 → A4 → Option ρ, (∀ (b1 : A1) (b2 : A2) (b3 : A3) (b4 : A4), I (t + 1) b1 b2 b3 b4 → Q (rec b1 b2 b3 b4)) → Q (F rec a1 a2 a3 a4)) (he : ∀ (a1 : A1) (a2 : A2) (a3 : A3) (a4 : A4), I T a1 a2 a3 a4 → ∀ rec : A1 → A2 → A3 → A4 → Option ρ, Q (F rec a1 a2 a3 a4)) : ∀ (t N : Nat) (a1 : A1) (a2 : A2) (a3 : A3) (a4 : A4), t ≤ T → T < N + t → I t a1 a2 a3 a4 → Q (wk4 N F a1 a2 a3 a4) := by
  intro t N
  induction N generalizing t with
  | zero => intro a1 a2 a3 a4 h1 h2; omega
  | succ N ih =>
    intro a1 a2 a3 a4 h1 h2 hI
    show Q (F (wk4 N F) a1 a2 a3 a4)
    rcases Nat.lt_or_ge t T with q | q
    · exact hs t q a1 a2 a3 a4 hI _ (fun b1 b2 b3 b4 hb => ih (t + 1) b1 b2 b3 b4 q (by omega) hb)
    · have : t = T := by omega
      subst this
      exact he a1 a2 a3 a4 hI _
theorem wk4_run {A1 A2 A3 A4 ρ : Type} {F : (A1 → A2 → A3 → A4 → Option ρ) → A1 → A2 → A3 → A4 → Option ρ} {Q : Option ρ → Prop} (I : Nat → A1 → A2 → A3 → A4 → Prop) (T N : Nat) (b1 : A1) (b2 : A2) (b3 : A3) (b4 : A4) (hN : T < N) (h0 : I 0 b1 b2 b3 b4) (hs : ∀ t, t < T → ∀ (a1 : A1) (a2 : A2) (a3 : A3) (a4 : A4), I t a1 a2 a3 a4 → ∀ rec : A1 → A2 → A3 → A4 → Option ρ, (∀ (b1 : A1) (b2 : A2) (b3 : A3) (b4 : A4), I (t + 1) b1 b2 b3 b4 → Q (rec b1 b2 b3 b4)) → Q (F rec a1 a2 a3 a4)) (he : ∀ (a1 : A1) (a2 : A2) (a3 : A3) (a4 : A4), I T a1 a2 a3 a4 → ∀ rec : A1 → A2 → A3 → A4 → Option ρ, Q (F rec a1 a2 a3 a4)) : Q (wk4 N F b1 b2 b3 b4) :=
  wk4_inv I T hs he 0 N b1 b2 b3 b4 (Nat.zero_le _) (by omega) h0
theorem wk5_inv {A1 A2 A3 A4 A5 ρ : Type} {F : (A1 → A2 → A3 → A4 → A5 → Option ρ) → A1 → A2 → A3 → A4 → A5 → Option ρ} {Q : Option ρ → Prop} (I : Nat → A1 → A2 → A3 → A4 → A5 → Prop) (T : Nat) (hs : ∀ t, t < T → ∀ (a1 : A1) (a2 : A2) (a3 : A3) (a4 : A4) (a5 : A5), I t a1 a2 a3 a4 a5 → ∀ rec : A1 → A2 → A3 → A4 → A5 → Option ρ, (∀ (b1 : A1) (b2 : A2) (b3 : A3) (b4 : A4) (b5 : A5), I (t + 1) b1 b2 b3 b4 b5 → Q (rec b1 b2 b3 b4 b5)) → Q (F rec a1 a2 a3 a4 a5)) (he : ∀ (a1 : A1) (a2 : A2) (a3 : A3) (a4 : A4) (a5 : A5), I T a1 a2 a3 a4 a5 → ∀ rec : A1 → A2 → A3 → A4 → A5 → Option ρ, Q (F rec a1 a2 a3 a4 a5)) : ∀ (t N : Nat) (a1 : A1) (a2 : A2) (a3 : A3) (a4 : A4) (a5 : A5), t ≤ T → T < N + t → I t a1 a2 a3 a4 a5 → Q (wk5 N F a1 a2 a3 a4 a5) := by
  intro t N
  induction N generalizing t with
  | zero => intro a1 a2 a3 a4 a5 h1 h2; omega
  | succ N ih =>
    intro a1 a2 a3 a4 a5 h1 h2 hI
    show Q (F (wk5 N F) a1 a2 a3 a4 a5)
    rcases Nat.lt_or_ge t T with q | q
    · exact hs t q a1 a2 a3 a4 a5 hI _ (fun b1 b2 b3 b4 b5 hb => ih (t + 1) b1 b2 b3 b4 b5 q (by omega) hb)
    · have : t = T := by omega
      subst this
      exact he a1 a2 a3 a4 a5 hI _
theorem wk5_run {A1 A2 A3 A4 A5 ρ : Type} {F : (A1 → A2 → A3 → A4 → A5 → Option ρ) → A1 → A2 → A3 → A4 → A5 → Option ρ} {Q : Option ρ → Prop} (I : Nat → A1 → A2 → A3 → A4 → A5 → Prop) (T N : Nat) (b1 : A1) (b2 : A2) (b3 : A3) (b4 : A4) (b5 : A5) (hN : T < N) (h0 : I 0 b1 b2 b3 b4 b5) (hs : ∀ t, t < T → ∀ (a1 : A1) (a2 : A2) (a3 : A3) (a4 : A4) (a5 : A5), I t a1 a2 a3 a4 a5 → ∀ rec : A1 → A2 → A3 → A4 → A5 → Option ρ, (∀ (b1 : A1) (b2 : A2) (b3 : A3) (b4 : A4) (b5 : A5), I (t + 1) b1 b2 b3 b4 b5 → Q (rec b1 b2 b3 b4 b5)) → Q (F rec a1 a2 a3 a4 a5)) (he : ∀ (a1 : A1) (a2 : A2) (a3 : A3) (a4 : A4) (a5 : A5), I T a1 a2 a3 a4 a5 → ∀ rec : A1 → A2 → A3 → A4 → A5 → Option ρ, Q (F rec a1 a2 a3 a4 a5)) : Q (wk5 N F b1 b2 b3 b4 b5) :=
  wk5_inv I T hs he 0 N b1 b2 b3 b4 b5 (Nat.zero_le _) (by omega) h0
theorem wk6_inv {A1 A2 A3 A4 A5 A6 ρ : Type} {F : (A1 → A2 → A3 → A4 → A5 → A6 → Option ρ) → A1 → A2 → A3 → A4 → A5 → A6 → Option ρ} {Q : Option ρ → Prop} (I : Nat → A1 → A2 → A3 → A4 → A5 → A6 → Prop) (T : Nat) (hs : ∀ t, t < T → ∀ (a1 : A1) (a2 : A2) (a3 : A3) (a4 : A4) (a5 : A5) (a6 : A6), I t a1 a2 a3 a4 a5 a6 → ∀ rec : A1 → A2 → A3 → A4 → A5 → A6 → Option ρ, (∀ (b1 : A1) (b2 : A2) (b3 : A3) (b4 : A4) (b5 : A5) (b6 : A6), I (t + 1) b1 b2 b3 b4 b5 b6 → Q (rec b1 b2 b3 b4 b5 b6)) → Q (F rec a1 a2 a3 a4 a5 a6)) (he : ∀ (a1 : A1) (a2 : A2) (a3 : A3) (a4 : A4) (a5 : A5) (a6 : A6), I T a1 a2 a3 a4 a5 a6 → ∀ rec : A1 → A2 → A3 → A4 → A5 → A6 → Option ρ, Q (F rec a1 a2 a3 a4 a5 a6)) : ∀ (t N : Nat) (a1 : A1) (a2 : A2) (a3 : A3) (a4 : A4) (a5 : A5) (a6 : A6), t ≤ T → T < N + t → I t a1 a2 a3 a4 a5 a6 → Q (wk6 N F a1 a2 a3 a4 a5 a6) := by
  intro t N
  induction N generalizing t with
  | zero => intro a1 a2 a3 a4 a5 a6 h1 h2; omega
  | succ N ih =>
    intro a1 a2 a3 a4 a5 a6 h1 h2 hI
    show Q (F (wk6 N F) a1 a2 a3 a4 a5 a6)
    rcases Nat.lt_or_ge t T with q | q
    · exact hs t q a1 a2 a3 a4 a5 a6 hI _ (fun b1 b2 b3 b4 b5 b6 hb => ih (t + 1) b1 b2 b3 b4 b5 b6 q (by omega) hb)
    · have : t = T := by omega
      subst this
      exact he a1 a2 a3 a4 a5 a6 hI _
theorem wk6_run {A1 A2 A3 A4 A5 A6 ρ : Type} {F : (A1 → A2 → A3 → A4 → A5 → A6 → Option ρ) → A1 → A2 → A3 → A4 → A5 → A6 → Option ρ} {Q : Option ρ → Prop} (I : Nat → A1 → A2 → A3 → A4 → A5 → A6 → Prop) (T N : Nat) (b1 : A1) (b2 : A2) (b3 : A3) (b4 : A4) (b5 : A5) (b6 : A6) (hN : T < N) (h0 : I 0 b1 b2 b3 b4 b5 b6) (hs : ∀ t, t < T → ∀ (a1 : A1) (a2 : A2) (a3 : A3) (a4 : A4) (a5 : A5) (a6 : A6), I t a1 a2 a3 a4 a5 a6 → ∀ rec : A1 → A2 → A3 → A4 → A5 → A6 → Option ρ, (∀ (b1 : A1) (b2 : A2) (b3 : A3) (b4 : A4) (b5 : A5) (b6 : A6), I (t + 1) b1 b2 b3 b4 b5 b6 → Q (rec b1 b2 b3 b4 b5 b6)) → Q (F rec a1 a2 a3 a4 a5 a6)) (he : ∀ (a1 : A1) (a2 : A2) (a3 : A3) (a4 : A4) (a5 : A5) (a6 : A6), I T a1 a2 a3 a4 a5 a6 → ∀ rec : A1 → A2 → A3 → A4 → A5 → A6 → Option ρ, Q (F rec a1 a2 a3 a4 a5 a6)) : Q (wk6 N F b1 b2 b3 b4 b5 b6) :=
  wk6_inv I T hs he 0 N b1 b2 b3 b4 b5 b6 (Nat.zero_le _) (by omega) h0
theorem wk7_inv {A1 A2 A3 A4 A5 A6 A7 ρ : Type} {F : (A1 → A2 → A3 → A4 → A5 → A6 → A7 → Option ρ) → A1 → A2 → A3 → A4 → A5 → A6 → A7 → Option ρ} {Q : Option ρ → Prop} (I : Nat → A1 → A2 → A3 → A4 → A5 → A6 → A7 → Prop) (T : Nat) (hs : ∀ t, t < T → ∀ (a1 : A1) (a2 : A2) (a3 : A3) (a4 : A4) (a5 : A5) (a6 : A6) (a7 : A7), I t a1 a2 a3 a4 a5 a6 a7 → ∀ rec : A1 → A2 → A3 → A4 → A5 → A6 → A7 → Option ρ, (∀ (b1 : A1) (b2 : A2) (b3 : A3) (b4 : A4) (b5 : A5) (b6 : A6) (b7 : A7), I (t + 1) b1 b2 b3 b4 b5 b6 b7 → Q (rec b1 b2 b3 b4 b5 b6 b7)) → Q (F rec a1 a2 a3 a4 a5 a6 a7)) (he : ∀ (a1 : A1) (a2 : A2) (a3 : A3) (a4 : A4) (a5 : A5) (a6 : A6) (a7 : A7), I T a1 a2 a3 a4 a5 a6 a7 → ∀ rec : A1 → A2 → A3 → A4 → A5 → A6 → A7 → Option ρ, Q (F rec a1 a2 a3 a4 a5 a6 a7)) : ∀ (t N : Nat) (a1 : A1) (a2 : A2) (a3 : A3) (a4 : A4) (a5 : A5) (a6 : A6) (a7 : A7), t ≤ T → T < N + t → I t a1 a2 a3 a4 a5 a6 a7 → Q (wk7 N F a1 a2 a3 a4 a5 a6 a7) := by
  intro t N
  induction N generalizing t with
  | zero => intro a1 a2 a3 a4 a5 a6 a7 h1 h2; omega
  | succ N ih =>
    intro a1 a2 a3 a4 a5 a6 a7 h1 h2 hI
    show Q (F (wk7 N F) a1 a2 a3 a4 a5 a6 a7)
    rcases Nat.lt_or_ge t T with q | q
    · exact hs t q a1 a2 a3 a4 a5 a6 a7 hI _ (fun b1 b2 b3 b4 b5 b6 b7 hb => ih (t + 1) b1 b2 b3 b4 b5 b6 b7 q (by omega) hb)
    · have : t = T := by omega
      subst this
      exact he a1 a2 a3 a4 a5 a6 a7 hI _
theorem wk7_run {A1 A2 A3 A4 A5 A6 A7 ρ : Type} {F : (A1 → A2 → A3 → A4 → A5 → A6 → A7 → Option ρ) → A1 → A2 → A3 → A4 → A5 → A6 → A7 → Option ρ} {Q : Option ρ → Prop} (I : Nat → A1 → A2 → A3 → A4 → A5 → A6 → A7 → Prop) (T N : Nat) (b1 : A1) (b2 : A2) (b3 : A3) (b4 : A4) (b5 : A5) (b6 : A6) (b7 : A7) (hN : T < N) (h0 : I 0 b1 b2 b3 b4 b5 b6 b7) (hs : ∀ t, t < T → ∀ (a1 : A1) (a2 : A2) (a3 : A3) (a4 : A4) (a5 : A5) (a6 : A6) (a7 : A7), I t a1 a2 a3 a4 a5 a6 a7 → ∀ rec : A1 → A2 → A3 → A4 → A5 → A6 → A7 → Option ρ, (∀ (b1 : A1) (b2 : A2) (b3 : A3) (b4 : A4) (b5 : A5) (b6 : A6) (b7 : A7), I (t + 1) b1 b2 b3 b4 b5 b6 b7 → Q (rec b1 b2 b3 b4 b5 b6 b7)) → Q (F rec a1 a2 a3 a4 a5 a6 a7)) (he : ∀ (a1 : A1) (a2 : A2) (a3 : A3) (a4 : A4) (a5 : A5) (a6 : A6) (a7 : A7), I T a1 a2 a3 a4 a5 a6 a7 → ∀ rec : A1 → A2 → A3 → A4 → A5 → A6 → A7 → Option ρ, Q (F rec a1 a2 a3 a4 a5 a6 a7)) : Q (wk7 N F b1 b2 b3 b4 b5 b6 b7) :=
  wk7_inv I T hs he 0 N b1 b2 b3 b4 b5 b6 b7 (Nat.zero_le _) (by omega) h0
theorem lit (n : Nat) : (OfNat.ofNat n : Int32) = nI n := rfl
theorem cl {n : Nat} (h : n < 2147483648) : (nI n).toNatClampNeg = n := nI_clamp h
theorem ab_ok {nx a t n N : Nat} (hk : kd nx a = t * 10000 + N) (hn : n < N) (hN : N < 10000) : ab nx a t (nI n) = true := by
  unfold ab
  have h1 : kd nx a / 10000 = t := by omega
  have h2 : kd nx a % 10000 = N := by omega
  rw [h1, h2, cl (by omega)]
  simp only [decide_true, Bool.true_and, Bool.not_eq_true', Bool.or_eq_false_iff, decide_eq_false_iff_not]
  exact ⟨nI_pos (by omega), by omega⟩
theorem kd_of {nx a : Nat} (h : a < nx) : kd nx a = SH a := if_pos h
theorem nI_inj {a b : Nat} (ha : a < 2147483648) (hb : b < 2147483648) : nI a = nI b ↔ a = b := nI_eq ha hb
theorem nI_lt' {a b : Nat} (ha : a < 2147483648) (hb : b < 2147483648) : nI a < nI b ↔ a < b := nI_ltI ha hb
theorem nI_le' {a b : Nat} (ha : a < 2147483648) (hb : b < 2147483648) : nI a ≤ nI b ↔ a ≤ b := nI_leI ha hb
theorem nI_1' (a : Nat) : nI a + 1 = nI (a + 1) := nI_1 a
theorem upd_s {f : Nat → Int32} {k : Nat} {x : Int32} : upd f k x k = x := if_pos rfl
theorem upd_n {f : Nat → Int32} {k j : Nat} {x : Int32} (h : j ≠ k) : upd f k x j = f j := if_neg h
