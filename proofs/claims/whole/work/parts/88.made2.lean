/-! what the constructors make -/
theorem zD0 {D : Dt} {n : Nat} (h : ∀ a k, D a k = 0) : ∀ a k, zD D n a k = 0 := fun a k => by
  show (if a = n then fun _ => 0 else D a) k = 0
  split
  · rfl
  · exact h a k
def PN (P : Ft) : Prop := ∀ a k, 97 ≤ a ∨ 26 ≤ k → P a k = none
theorem PNz {P : Ft} {n : Nat} (h : PN P) : PN (zP P n) := fun a k hk => by
  show (if a = n then fun _ => none else P a) k = none
  split
  · rfl
  · exact h a k hk
theorem PNu {P : Ft} {a k : Nat} {v : Option Nat} (ha : a < 97) (hk : k < 26) (h : PN P) : PN (updF P a k v) := fun b j hb => by
  by_cases c : b = a
  · rw [c, updF_s]
    show (if j = k then v else P a j) = none
    rw [if_neg (by omega)]
    exact h a j (by omega)
  · rw [updF_n c]; exact h b j hb
set_option maxRecDepth 100000 in
set_option maxHeartbeats 40000000 in
theorem H_made (N : Nat) : ∃ D P, f_H_init N 1 (zD (fun _ _ => 0) 0) (zP (fun _ _ => none) 0) 0 = wk2 N (f_H_init_150 N 1 P 0) D 0 ∧ (∀ a k, D a k = 0) ∧ (∀ a, a < 97 → ∀ k, k < 26 → a ≠ 21 → P a k = P0 a k) ∧ (∀ i, i < 8 → P 21 i = some (22 + 3 * i)) ∧ PN P := by
  refine ⟨_, _, rfl, ?_, by decide +kernel, by decide +kernel, ?_⟩
  · repeat (first | exact fun _ _ => rfl | refine zD0 ?_)
  · repeat (first | exact fun _ _ _ => rfl | refine PNu (by decide) (by decide) ?_ | refine PNz ?_)
