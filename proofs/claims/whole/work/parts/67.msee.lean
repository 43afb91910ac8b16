/-! the reference: what is seen; how a pin grows in a day -/
section MG
variable {N nx : Nat} {D : Dt} {P : Ft} {g : Gs}
theorem M_grown_eq {k z : Nat} {d : Int32} (hk : k ≤ 3) (hz : 1 ≤ z ∧ z ≤ 40) : f_M_grown N nx D P (nI z) (nI k) d = some (nI (gr k z (ev d))) := by
  have h29 : ∀ m, f_M_grown_29 N nx D P (nI z) (nI m) = some (nI (if z + m ≤ 40 then z + m else 40)) ∨ 1000 < m := by
    intro m
    rcases Nat.lt_or_ge 1000 m with c | c
    · exact Or.inr c
    · left
      unfold f_M_grown_29
      rw [nI_add]
      by_cases q : z + m ≤ 40
      · rw [if_pos (by rw [lit 40, nI_le' (by omega) (by decide)]; exact q), if_pos q]
      · rw [if_neg (by rw [lit 40, nI_le' (by omega) (by decide)]; exact q), if_neg q]; rfl
  have p1 : f_M_grown_29 N nx D P (nI z) 1 = some (nI (if z + 1 < 40 then z + 1 else 40)) := by
    rcases h29 1 with c | c
    · rw [show (1 : Int32) = nI 1 from rfl, c]
      congr 2
      split <;> split <;> omega
    · omega
  have p0 : f_M_grown_29 N nx D P (nI z) 0 = some (nI z) := by
    rcases h29 0 with c | c
    · rw [show (0 : Int32) = nI 0 from rfl, c, if_pos (by omega)]; rfl
    · omega
  have pm : f_M_grown_29 N nx D P (nI z) (-1) = some (nI (z - 1)) := by
    have e : nI z + (-1) = nI (z - 1) := by
      have : nI z - 1 = nI (z - 1) := pk_sub (b := 1) hz.1
      rw [← this]; exact (Int32.sub_eq_add_neg _ _).symm
    unfold f_M_grown_29
    rw [e, if_pos (by rw [lit 40, nI_le' (by omega) (by decide)]; omega)]
  unfold f_M_grown f_M_grown_20 gr ev
  rw [p1, p0, pm]
  rcases (show k = 0 ∨ k = 1 ∨ k = 2 ∨ k = 3 by omega) with rfl | rfl | rfl | rfl
  · simp [show ¬ (nI 0 : Int32) = 1 by decide, show ¬ (nI 0 : Int32) = 3 by decide, show (nI 0 : Int32) = 0 by decide]
  · simp [show (nI 1 : Int32) = 1 by decide]
  · simp [show ¬ (nI 2 : Int32) = 1 by decide, show ¬ (nI 2 : Int32) = 3 by decide, show ¬ (nI 2 : Int32) = 0 by decide]
  · by_cases q : d - d / 2 * 2 = 0
    · simp [show ¬ (nI 3 : Int32) = 1 by decide, show (nI 3 : Int32) = 3 by decide, q]
    · simp [show ¬ (nI 3 : Int32) = 1 by decide, show (nI 3 : Int32) = 3 by decide, show ¬ (nI 3 : Int32) = 0 by decide, q]
end MG
