/-! the references beyond a cell are not looked at: the first family is laid ahead of the reference's cells -/
section CG
variable {N nx : Nat} {P P' : Ft}
theorem g_with (D : Dt) (i a b : Int32) : f_H_isWithin N nx D P i a b = f_H_isWithin N nx D P' i a b := rfl
theorem g_letter (h : P 1 = P' 1) (D : Dt) (i : Int32) : f_T_letterAt N nx D P 1 i = f_T_letterAt N nx D P' 1 i := by
  unfold f_T_letterAt; rw [h]
theorem g_figure (h : P 1 = P' 1) (D : Dt) (i : Int32) : f_T_figureAt N nx D P 1 i = f_T_figureAt N nx D P' 1 i := by
  unfold f_T_figureAt; rw [g_letter h]
theorem g_number (h : P 1 = P' 1) (D : Dt) : f_T_readNumber N nx D P 1 = f_T_readNumber N nx D P' 1 := by
  unfold f_T_readNumber; simp only [g_figure h]
theorem g_nums40 (h : P 1 = P' 1) (rec : Dt → Int32 → Option (Int32 × Dt)) (D : Dt) (i1 i2 s : Int32) : f_T_readNumbers_40 N nx rec D P 1 i1 i2 s = f_T_readNumbers_40 N nx rec D P' 1 i1 i2 s := by
  unfold f_T_readNumbers_40; rw [h]; simp only [g_letter h]
theorem g_nums2 (h : P 1 = P' 1) (i1 : Int32) : f_T_readNumbers_2 N nx P 1 i1 = f_T_readNumbers_2 N nx P' 1 i1 := by
  funext rec D i2
  unfold f_T_readNumbers_2; rw [h]; simp only [g_number h, g_nums40 h]
theorem g_nums (h : P 1 = P' 1) (D : Dt) (i1 : Int32) : f_T_readNumbers N nx D P 1 i1 = f_T_readNumbers N nx D P' 1 i1 := by
  unfold f_T_readNumbers; rw [g_nums2 h]
theorem g_heart (D : Dt) (a : Nat) (i1 i2 i3 : Int32) : f_F_setHeart N nx D P a i1 i2 i3 = f_F_setHeart N nx D P' a i1 i2 i3 := rfl
theorem g_addP (h : P 9 = P' 9) (D : Dt) (i : Int32) : f_F_addPerson N nx D P 9 i = f_F_addPerson N nx D P' 9 i := by
  unfold f_F_addPerson; rw [h]; rfl
theorem g_addT (h : P 9 = P' 9) (D : Dt) (i1 i2 i3 : Int32) : f_F_addPin N nx D P 9 i1 i2 i3 = f_F_addPin N nx D P' 9 i1 i2 i3 := by
  unfold f_F_addPin; rw [h]; rfl
theorem g_item (h1 : P 1 = P' 1) (h9 : P 9 = P' 9) (D : Dt) : f_T_readItem N nx D P 1 9 = f_T_readItem N nx D P' 1 9 := by
  unfold f_T_readItem; rw [h1]; simp only [g_letter h1, g_nums h1, g_heart (P := P) (P' := P'), g_addP h9, g_addT h9]
theorem g_into11 (h1 : P 1 = P' 1) (h9 : P 9 = P' 9) : f_T_readInto_11 N nx P 1 9 = f_T_readInto_11 N nx P' 1 9 := by
  funext rec D i2
  unfold f_T_readInto_11; simp only [g_item h1 h9]
theorem g_into (h1 : P 1 = P' 1) (h9 : P 9 = P' 9) (D : Dt) : f_T_readInto N nx D P 1 9 = f_T_readInto N nx D P' 1 9 := by
  unfold f_T_readInto; rw [g_into11 h1 h9]; rfl
theorem g_copy67 (h4 : P 4 = P' 4) (h9 : P 9 = P' 9) : f_F_copyFrom_67 N nx P 4 9 = f_F_copyFrom_67 N nx P' 4 9 := by
  funext rec D i2
  unfold f_F_copyFrom_67; rw [h4, h9]
theorem g_copy42 (h4 : P 4 = P' 4) (h9 : P 9 = P' 9) : f_F_copyFrom_42 N nx P 4 9 = f_F_copyFrom_42 N nx P' 4 9 := by
  funext rec D i2
  unfold f_F_copyFrom_42; rw [g_copy67 h4 h9, h4, h9]
theorem g_copy (h4 : P 4 = P' 4) (h9 : P 9 = P' 9) (D : Dt) : f_F_copyFrom N nx D P 4 9 = f_F_copyFrom N nx D P' 4 9 := by
  unfold f_F_copyFrom; rw [g_copy42 h4 h9]
theorem g_pin (D : Dt) (a : Nat) (i : Int32) : f_F_hasPin N nx D P a i = f_F_hasPin N nx D P' a i := rfl
theorem g_beg39 (h14 : P 14 = P' 14) (h4 : P 4 = P' 4) (e : P' 14 0 = some 4) (rec : Dt → Int32 → Option Dt) (D : Dt) (i1 i2 : Int32) (s0 : Nat) (s1 s2 : Int32) : f_C_begin_39 N nx rec D P 14 i1 i2 s0 s1 s2 = f_C_begin_39 N nx rec D P' 14 i1 i2 s0 s1 s2 := by
  unfold f_C_begin_39; rw [h14]; simp only [e, nn_some, h4]
theorem g_beg2 (h14 : P 14 = P' 14) (h4 : P 4 = P' 4) (e : P' 14 0 = some 4) : f_C_begin_2 N nx P 14 = f_C_begin_2 N nx P' 14 := by
  funext rec D i
  unfold f_C_begin_2; rw [h14]; simp only [e, nn_some, h4, g_pin (P := P) (P' := P'), g_beg39 h14 h4 e]
theorem g_beg (h14 : P 14 = P' 14) (h4 : P 4 = P' 4) (e : P' 14 0 = some 4) (D : Dt) : f_C_begin N nx D P 14 = f_C_begin N nx D P' 14 := by
  unfold f_C_begin; rw [g_beg2 h14 h4 e]
theorem g_scl (D : Dt) (a : Nat) : f_S_clear N nx D P a = f_S_clear N nx D P' a := rfl
theorem g_ncl (D : Dt) (a : Nat) : f_N_clear N nx D P a = f_N_clear N nx D P' a := rfl
theorem g_tcl (D : Dt) (a : Nat) : f_T_clear N nx D P a = f_T_clear N nx D P' a := rfl
theorem g_add (h : P 1 = P' 1) (D : Dt) (i : Int32) : f_T_add N nx D P 1 i = f_T_add N nx D P' 1 i := by
  unfold f_T_add; rw [h]; rfl
theorem g_lay (h : ∀ a, a < 97 → P a = P' a) (hP : PB P') (D : Dt) : f_H_lay N nx D P 0 = f_H_lay N nx D P' 0 := by
  have e0 : P' 0 0 = some 1 := hP.at (by decide) rfl
  have e1 : P' 0 1 = some 4 := hP.at (by decide) rfl
  have e2 : P' 0 2 = some 9 := hP.at (by decide) rfl
  have e3 : P' 0 3 = some 14 := hP.at (by decide) rfl
  have e5 : P' 0 5 = some 20 := hP.at (by decide) rfl
  have e6 : P' 0 6 = some 46 := hP.at (by decide) rfl
  have e7 : P' 0 7 = some 54 := hP.at (by decide) rfl
  have e14 : P' 14 0 = some 4 := hP.at (by decide) rfl
  unfold f_H_lay
  rw [h 0 (by decide)]
  simp only [e0, e1, e2, e3, e5, e6, e7, nn_some, g_into (h 1 (by decide)) (h 9 (by decide)), g_copy (h 4 (by decide)) (h 9 (by decide)), g_beg (h 14 (by decide)) (h 4 (by decide)) e14, g_scl (P := P) (P' := P'), g_ncl (P := P) (P' := P')]
end CG
