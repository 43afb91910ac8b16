/-! what the constructors make -/
set_option maxRecDepth 100000 in
set_option maxHeartbeats 40000000 in
theorem H_made (N : Nat) : ∃ D P, f_H_init N 1 (zD (fun _ _ => 0) 0) (zP (fun _ _ => none) 0) 0 = wk2 N (f_H_init_150 N 1 P 0) D 0 := by
  refine ⟨_, _, rfl⟩
