/-! the law: class and reference answer alike at every call -/
theorem MR.hi {D E : Dt} {g : Gs} (h : MR D g) (k : Hi D E) : MR E g := by
  unfold MR MF at h ⊢
  rw [k 97 (by decide), k 98 (by decide), k 99 (by decide), k 100 (by decide), k 101 (by decide), k 102 (by decide), k 103 (by decide), k 104 (by decide), k 106 (by decide), k 107 (by decide), k 108 (by decide), k 112 (by decide), k 113 (by decide), k 114 (by decide), k 115 (by decide)]
  exact h
theorem CR.lo {D E : Dt} {P : Ft} {g : Gs} (h : CR D P g) (k : Lo D E) : CR E P g := h.sc (fun q h1 _ => by
  have h1 : ¬ (q = 3 ∨ (9 ≤ q ∧ q ≤ 13) ∨ (17 ≤ q ∧ q ≤ 19) ∨ 59 ≤ q) := h1
  exact k q (by omega)) (fun j _ => by rw [k 1 (by decide)])
theorem lim_lt {L x : Nat} (hL : L ≤ 320) (hx : x ≤ 400) : Int32.ofNat L - 5 < nI x ↔ L < x + 5 := by
  have e : (Int32.ofNat L - 5).toInt = (L : Int) - 5 := by
    have := pk_sub_toInt (a := L) (b := 5) (by omega) (by omega)
    exact this
  rw [Int32.lt_iff_toInt_lt, e, nI_toInt (by omega)]
  omega
theorem sb_ok {L j : Nat} (hL : L ≤ 320) (h : j < L) : sb L (nI j) = true := by
  unfold sb
  rw [cl (n := j) (by omega), decide_eq_false (nI_nneg (by omega)), decide_eq_false (show ¬ L ≤ j by omega)]; rfl
section LW
variable {N L : Nat} {xs : Nat → Int32}
set_option maxHeartbeats 4000000 in
theorem loop_ok (hN : 2000 ≤ N) (hL : L ≤ 320) {D : Dt} {P : Ft} {g : Gs} (hG : GOK g) (hC : CR D P g) (hM : MR D g) : OkP (fun z => z = 1) (wk3 N (f_L_law_18 N L xs 0 97) D P 0) := by
  have k8 : kd 117 0 = 8 := by decide +kernel
  have k9 : kd 117 97 = 9 := by decide +kernel
  refine wk3_run (I := fun t D P i => i = nI (5 * t) ∧ ∃ g, GOK g ∧ CR D P g ∧ MR D g) (L / 5) N _ _ _ (by omega) ⟨rfl, g, hG, hC, hM⟩ ?_ ?_
  · rintro t ht D P i ⟨rfl, g, hG, hC, hM⟩ rec hrec
    have hP := hC.1
    have e1 : nI (5 * t) + 1 = nI (5 * t + 1) := nI_add _ 1
    have e2 : nI (5 * t) + 2 = nI (5 * t + 2) := nI_add _ 2
    have e3 : nI (5 * t) + 3 = nI (5 * t + 3) := nI_add _ 3
    have e4 : nI (5 * t) + 4 = nI (5 * t + 4) := nI_add _ 4
    have s0 : sb L (nI (5 * t)) = true := sb_ok hL (by omega)
    have s1 : sb L (nI (5 * t) + 1) = true := by rw [e1]; exact sb_ok hL (by omega)
    have s2 : sb L (nI (5 * t) + 2) = true := by rw [e2]; exact sb_ok hL (by omega)
    have s3 : sb L (nI (5 * t) + 3) = true := by rw [e3]; exact sb_ok hL (by omega)
    have s4 : sb L (nI (5 * t) + 4) = true := by rw [e4]; exact sb_ok hL (by omega)
    have nxt : ∀ (D' : Dt) (P' : Ft) (g' : Gs), GOK g' → CR D' P' g' → MR D' g' → OkP (fun z => z = 1) (rec D' P' (nI (5 * t) + 5)) := fun D' P' g' a b c => hrec _ _ _ ⟨nI_add _ 5, g', a, b, c⟩
    unfold f_L_law_18
    refine ok_f (by rw [lim_lt hL (by omega)]; omega) (ok_t s0 ?_)
    refine ok_ite (fun _ => ?_) (fun _ => ?_)
    · skip
      refine ok_t s1 (ok_t k8 (ok_bind (H_write hC hG (by decide) (xs (nI (5 * t) + 1).toNatClampNeg)) ?_))
      rintro ⟨y, E⟩ ⟨h1, h2, h3⟩
      have h2 : CR E P (oWrite g (xs (nI (5 * t) + 1).toNatClampNeg)).2 := h2
      have h3 : Hi D E := h3
      have hM' := hM.hi h3
      refine ok_t s1 (ok_t k9 (ok_bind (M_write_ok hP hM' hG (by decide) (xs (nI (5 * t) + 1).toNatClampNeg)) ?_))
      rintro ⟨y', F⟩ ⟨h4, h5, h6⟩
      have h5 : MR F (oWrite g (xs (nI (5 * t) + 1).toNatClampNeg)).2 := h5
      have h6 : Lo E F := h6
      exact ok_t (h1.trans h4.symm) (nxt F P _ (gok_write hG (xs (nI (5 * t) + 1).toNatClampNeg)) (h2.lo h6) h5)
    refine ok_ite (fun _ => ?_) (fun _ => ?_)
    · skip
      refine ok_t k8 (ok_bind (H_wipe hC (by decide) ) ?_)
      rintro ⟨y, E⟩ ⟨h1, h2, h3⟩
      have h2 : CR E P (oWipe g).2 := h2
      have h3 : Hi D E := h3
      have hM' := hM.hi h3
      refine ok_t k9 (ok_bind (M_wipe_ok hM' (by decide) ) ?_)
      rintro ⟨y', F⟩ ⟨h4, h5, h6⟩
      have h5 : MR F (oWipe g).2 := h5
      have h6 : Lo E F := h6
      exact ok_t (h1.trans h4.symm) (nxt F P _ (gok_wipe hG ) (h2.lo h6) h5)
    refine ok_ite (fun _ => ?_) (fun _ => ?_)
    · skip
      refine ok_t k8 (ok_bind (H_fault hC hG (by decide) (by omega) ) ?_)
      rintro ⟨y, E⟩ ⟨h1, h2, h3⟩
      have h2 : CR E P g := h2
      have h3 : Hi D E := h3
      have hM' := hM.hi h3
      refine ok_t k9 (ok_bind (M_fault_ok hP hM' hG (by decide) (by omega) ) ?_)
      rintro ⟨y', F⟩ ⟨h4, h5, h6⟩
      have h5 : MR F g := h5
      have h6 : Lo E F := h6
      exact ok_t (h1.trans h4.symm) (nxt F P _ hG (h2.lo h6) h5)
    refine ok_ite (fun _ => ?_) (fun _ => ?_)
    · skip
      refine ok_t k8 (ok_bind (H_lay hC hG (by decide) (by omega) ) ?_)
      rintro ⟨y, E⟩ ⟨h1, h2, h3⟩
      have h2 : CR E P (oLay g).2 := h2
      have h3 : Hi D E := h3
      have hM' := hM.hi h3
      refine ok_t k9 (ok_bind (M_lay_ok hP hM' hG (by decide) (by omega) ) ?_)
      rintro ⟨y', F⟩ ⟨h4, h5, h6⟩
      have h5 : MR F (oLay g).2 := h5
      have h6 : Lo E F := h6
      exact ok_t (h1.trans h4.symm) (nxt F P _ (gok_lay hG ) (h2.lo h6) h5)
    refine ok_ite (fun _ => ?_) (fun _ => ?_)
    · skip
      refine ok_t s1 (ok_t s2 (ok_t k8 (ok_call (H_person hC hG (by decide) (by omega) (xs (nI (5 * t) + 1).toNatClampNeg) (xs (nI (5 * t) + 2).toNatClampNeg)) (ok_t s1 (ok_t s2 (ok_t k9 (ok_call (M_person_eq hP hM hG (by decide) (by omega) (xs (nI (5 * t) + 1).toNatClampNeg) (xs (nI (5 * t) + 2).toNatClampNeg)) (ok_t rfl (nxt D P g hG hC hM)))))))))
    refine ok_ite (fun _ => ?_) (fun _ => ?_)
    · skip
      refine ok_t s1 (ok_t s2 (ok_t k8 (ok_call (H_pin hC hG (by decide) (by omega) (xs (nI (5 * t) + 1).toNatClampNeg) (xs (nI (5 * t) + 2).toNatClampNeg)) (ok_t s1 (ok_t s2 (ok_t k9 (ok_call (M_pin_eq hP hM hG (by decide) (by omega) (xs (nI (5 * t) + 1).toNatClampNeg) (xs (nI (5 * t) + 2).toNatClampNeg)) (ok_t rfl (nxt D P g hG hC hM)))))))))
    refine ok_ite (fun _ => ?_) (fun _ => ?_)
    · skip
      refine ok_t s1 (ok_t k8 (ok_call (H_heart hC hG (by decide) (by omega) (xs (nI (5 * t) + 1).toNatClampNeg)) (ok_t s1 (ok_t k9 (ok_call (M_heart_eq hP hM hG (by decide) (by omega) (xs (nI (5 * t) + 1).toNatClampNeg)) (ok_t rfl (nxt D P g hG hC hM)))))))
    refine ok_ite (fun _ => ?_) (fun _ => ?_)
    · skip
      refine ok_t s1 (ok_t k8 (ok_bind (H_stick hC hG (by decide) (by omega) (xs (nI (5 * t) + 1).toNatClampNeg)) ?_))
      rintro ⟨y, E, P2⟩ ⟨h1, h2, h3⟩
      have h2 : CR E P2 (oStick g (xs (nI (5 * t) + 1).toNatClampNeg)).2 := h2
      have h3 : Hi D E := h3
      have hM' := hM.hi h3
      have hP := h2.1
      refine ok_t s1 (ok_t k9 (ok_bind (M_stick_ok hP hM' hG (by decide) (by omega) (xs (nI (5 * t) + 1).toNatClampNeg)) ?_))
      rintro ⟨y', F⟩ ⟨h4, h5, h6⟩
      have h5 : MR F (oStick g (xs (nI (5 * t) + 1).toNatClampNeg)).2 := h5
      have h6 : Lo E F := h6
      exact ok_t (h1.trans h4.symm) (nxt F P2 _ (gok_stick hG (xs (nI (5 * t) + 1).toNatClampNeg)) (h2.lo h6) h5)
    refine ok_ite (fun _ => ?_) (fun _ => ?_)
    · skip
      refine ok_t s1 (ok_t s2 (ok_t k8 (ok_bind (H_feel hC hG (by decide) (by omega) (xs (nI (5 * t) + 1).toNatClampNeg) (xs (nI (5 * t) + 2).toNatClampNeg)) ?_)))
      rintro ⟨y, E, P2⟩ ⟨h1, h2, h3⟩
      have h2 : CR E P2 (oFeel g (xs (nI (5 * t) + 1).toNatClampNeg) (xs (nI (5 * t) + 2).toNatClampNeg)).2 := h2
      have h3 : Hi D E := h3
      have hM' := hM.hi h3
      have hP := h2.1
      refine ok_t s1 (ok_t s2 (ok_t k9 (ok_bind (M_feel_ok hP hM' hG (by decide) (by omega) (xs (nI (5 * t) + 1).toNatClampNeg) (xs (nI (5 * t) + 2).toNatClampNeg)) ?_)))
      rintro ⟨y', F⟩ ⟨h4, h5, h6⟩
      have h5 : MR F (oFeel g (xs (nI (5 * t) + 1).toNatClampNeg) (xs (nI (5 * t) + 2).toNatClampNeg)).2 := h5
      have h6 : Lo E F := h6
      exact ok_t (h1.trans h4.symm) (nxt F P2 _ (gok_feel hG (xs (nI (5 * t) + 1).toNatClampNeg) (xs (nI (5 * t) + 2).toNatClampNeg)) (h2.lo h6) h5)
    refine ok_ite (fun _ => ?_) (fun _ => ?_)
    · skip
      refine ok_t s1 (ok_t s2 (ok_t k8 (ok_bind (H_bear hC hG (by decide) (by omega) (xs (nI (5 * t) + 1).toNatClampNeg) (xs (nI (5 * t) + 2).toNatClampNeg)) ?_)))
      rintro ⟨y, E, P2⟩ ⟨h1, h2, h3⟩
      have h2 : CR E P2 (oBear g (xs (nI (5 * t) + 1).toNatClampNeg) (xs (nI (5 * t) + 2).toNatClampNeg)).2 := h2
      have h3 : Hi D E := h3
      have hM' := hM.hi h3
      have hP := h2.1
      refine ok_t s1 (ok_t s2 (ok_t k9 (ok_bind (M_bear_ok hP hM' hG (by decide) (by omega) (xs (nI (5 * t) + 1).toNatClampNeg) (xs (nI (5 * t) + 2).toNatClampNeg)) ?_)))
      rintro ⟨y', F⟩ ⟨h4, h5, h6⟩
      have h5 : MR F (oBear g (xs (nI (5 * t) + 1).toNatClampNeg) (xs (nI (5 * t) + 2).toNatClampNeg)).2 := h5
      have h6 : Lo E F := h6
      exact ok_t (h1.trans h4.symm) (nxt F P2 _ (gok_bear hG (xs (nI (5 * t) + 1).toNatClampNeg) (xs (nI (5 * t) + 2).toNatClampNeg)) (h2.lo h6) h5)
    refine ok_ite (fun _ => ?_) (fun _ => ?_)
    · skip
      refine ok_t s1 (ok_t k8 (ok_bind (H_pass hC hG (by decide) (by omega) (xs (nI (5 * t) + 1).toNatClampNeg)) ?_))
      rintro ⟨y, E, P2⟩ ⟨h1, h2, h3⟩
      have h2 : CR E P2 (oPass g (xs (nI (5 * t) + 1).toNatClampNeg)).2 := h2
      have h3 : Hi D E := h3
      have hM' := hM.hi h3
      have hP := h2.1
      refine ok_t s1 (ok_t k9 (ok_bind (M_pass_ok hP hM' hG (by decide) (by omega) (xs (nI (5 * t) + 1).toNatClampNeg)) ?_))
      rintro ⟨y', F⟩ ⟨h4, h5, h6⟩
      have h5 : MR F (oPass g (xs (nI (5 * t) + 1).toNatClampNeg)).2 := h5
      have h6 : Lo E F := h6
      exact ok_t (h1.trans h4.symm) (nxt F P2 _ (gok_pass hG (xs (nI (5 * t) + 1).toNatClampNeg)) (h2.lo h6) h5)
    refine ok_ite (fun _ => ?_) (fun _ => ?_)
    · skip
      refine ok_t k8 (ok_bind (H_undo hC hG (by decide) (by omega) ) ?_)
      rintro ⟨y, E⟩ ⟨h1, h2, h3⟩
      have h2 : CR E P (oUndo g).2 := h2
      have h3 : Hi D E := h3
      have hM' := hM.hi h3
      refine ok_t k9 (ok_bind (M_undo_ok hP hM' hG (by decide) (by omega) ) ?_)
      rintro ⟨y', F⟩ ⟨h4, h5, h6⟩
      have h5 : MR F (oUndo g).2 := h5
      have h6 : Lo E F := h6
      exact ok_t (h1.trans h4.symm) (nxt F P _ (gok_undo hG ) (h2.lo h6) h5)
    refine ok_ite (fun _ => ?_) (fun _ => ?_)
    · skip
      refine ok_t s1 (ok_t s2 (ok_t k8 (ok_bind (H_behind hC hG (by decide) (by omega) (xs (nI (5 * t) + 1).toNatClampNeg) (xs (nI (5 * t) + 2).toNatClampNeg)) ?_)))
      rintro ⟨y, E⟩ ⟨h1, h2, h3⟩
      have h2 : CR E P g := h2
      have h3 : Hi D E := h3
      have hM' := hM.hi h3
      refine ok_t s1 (ok_t s2 (ok_t k9 (ok_bind (M_behind_ok hP hM' hG (by decide) (by omega) (xs (nI (5 * t) + 1).toNatClampNeg) (xs (nI (5 * t) + 2).toNatClampNeg)) ?_)))
      rintro ⟨y', F⟩ ⟨h4, h5, h6⟩
      have h5 : MR F g := h5
      have h6 : Lo E F := h6
      exact ok_t (h1.trans h4.symm) (nxt F P _ hG (h2.lo h6) h5)
    refine ok_ite (fun _ => ?_) (fun _ => ?_)
    · skip
      refine ok_t s1 (ok_t k8 (ok_bind (H_walked hC hG (by decide) (by omega) (xs (nI (5 * t) + 1).toNatClampNeg)) ?_))
      rintro ⟨y, E⟩ ⟨h1, h2, h3⟩
      have h2 : CR E P g := h2
      have h3 : Hi D E := h3
      have hM' := hM.hi h3
      refine ok_t s1 (ok_t k9 (ok_bind (M_walked_ok hP hM' hG (by decide) (by omega) (xs (nI (5 * t) + 1).toNatClampNeg)) ?_))
      rintro ⟨y', F⟩ ⟨h4, h5, h6⟩
      have h5 : MR F g := h5
      have h6 : Lo E F := h6
      exact ok_t (h1.trans h4.symm) (nxt F P _ hG (h2.lo h6) h5)
    refine ok_ite (fun _ => ?_) (fun _ => ?_)
    · skip
      refine ok_t s1 (ok_t k8 (ok_bind (H_breaks hC hG (by decide) (by omega) (xs (nI (5 * t) + 1).toNatClampNeg)) ?_))
      rintro ⟨y, E⟩ ⟨h1, h2, h3⟩
      have h2 : CR E P g := h2
      have h3 : Hi D E := h3
      have hM' := hM.hi h3
      refine ok_t s1 (ok_t k9 (ok_bind (M_breaks_ok hP hM' hG (by decide) (by omega) (xs (nI (5 * t) + 1).toNatClampNeg)) ?_))
      rintro ⟨y', F⟩ ⟨h4, h5, h6⟩
      have h5 : MR F g := h5
      have h6 : Lo E F := h6
      exact ok_t (h1.trans h4.symm) (nxt F P _ hG (h2.lo h6) h5)
    refine ok_ite (fun _ => ?_) (fun _ => ?_)
    · skip
      refine ok_t k8 (ok_bind (H_door hC hG (by decide) (by omega) ) ?_)
      rintro ⟨y, E⟩ ⟨h1, h2, h3⟩
      have h2 : CR E P g := h2
      have h3 : Hi D E := h3
      have hM' := hM.hi h3
      refine ok_t k9 (ok_bind (M_door_ok hP hM' hG (by decide) (by omega) ) ?_)
      rintro ⟨y', F⟩ ⟨h4, h5, h6⟩
      have h5 : MR F g := h5
      have h6 : Lo E F := h6
      exact ok_t (h1.trans h4.symm) (nxt F P _ hG (h2.lo h6) h5)
    refine ok_ite (fun _ => ?_) (fun _ => ?_)
    · skip
      refine ok_t s1 (ok_t s2 (ok_t k8 (ok_bind (H_best hC hG (by decide) (by omega) (xs (nI (5 * t) + 1).toNatClampNeg) (xs (nI (5 * t) + 2).toNatClampNeg)) ?_)))
      rintro ⟨y, E⟩ ⟨h1, h2, h3⟩
      have h2 : CR E P g := h2
      have h3 : Hi D E := h3
      have hM' := hM.hi h3
      refine ok_t s1 (ok_t s2 (ok_t k9 (ok_bind (M_best_ok hP hM' hG (by decide) (by omega) (xs (nI (5 * t) + 1).toNatClampNeg) (xs (nI (5 * t) + 2).toNatClampNeg)) ?_)))
      rintro ⟨y', F⟩ ⟨h4, h5, h6⟩
      have h5 : MR F g := h5
      have h6 : Lo E F := h6
      exact ok_t (h1.trans h4.symm) (nxt F P _ hG (h2.lo h6) h5)
    refine ok_ite (fun _ => ?_) (fun _ => ?_)
    · skip
      refine ok_t s1 (ok_t k8 (ok_bind (H_share hC hG (by decide) (by omega) (xs (nI (5 * t) + 1).toNatClampNeg)) ?_))
      rintro ⟨y, E⟩ ⟨h1, h2, h3⟩
      have h2 : CR E P g := h2
      have h3 : Hi D E := h3
      have hM' := hM.hi h3
      refine ok_t s1 (ok_t k9 (ok_bind (M_share_ok hP hM' hG (by decide) (by omega) (xs (nI (5 * t) + 1).toNatClampNeg)) ?_))
      rintro ⟨y', F⟩ ⟨h4, h5, h6⟩
      have h5 : MR F g := h5
      have h6 : Lo E F := h6
      exact ok_t (h1.trans h4.symm) (nxt F P _ hG (h2.lo h6) h5)
    refine ok_ite (fun _ => ?_) (fun _ => ?_)
    · skip
      refine ok_t s1 (ok_t k8 (ok_bind (H_relief hC hG (by decide) (by omega) (xs (nI (5 * t) + 1).toNatClampNeg)) ?_))
      rintro ⟨y, E⟩ ⟨h1, h2, h3⟩
      have h2 : CR E P g := h2
      have h3 : Hi D E := h3
      have hM' := hM.hi h3
      refine ok_t s1 (ok_t k9 (ok_bind (M_relief_ok hP hM' hG (by decide) (by omega) (xs (nI (5 * t) + 1).toNatClampNeg)) ?_))
      rintro ⟨y', F⟩ ⟨h4, h5, h6⟩
      have h5 : MR F g := h5
      have h6 : Lo E F := h6
      exact ok_t (h1.trans h4.symm) (nxt F P _ hG (h2.lo h6) h5)
    refine ok_ite (fun _ => ?_) (fun _ => ?_)
    · skip
      refine ok_t s1 (ok_t k8 (ok_call (H_pair hC hG (by decide) (by omega) (xs (nI (5 * t) + 1).toNatClampNeg)) (ok_t s1 (ok_t k9 (ok_call (M_pair_eq hP hM hG (by decide) (by omega) (xs (nI (5 * t) + 1).toNatClampNeg)) (ok_t rfl (nxt D P g hG hC hM)))))))
    refine ok_ite (fun _ => ?_) (fun _ => ?_)
    · skip
      refine ok_t s1 (ok_t s2 (ok_t s3 (ok_t k8 (ok_bind (H_see hC hG (by decide) (xs (nI (5 * t) + 1).toNatClampNeg) (xs (nI (5 * t) + 2).toNatClampNeg) (xs (nI (5 * t) + 3).toNatClampNeg)) ?_))))
      rintro ⟨y, E⟩ ⟨h1, h2, h3⟩
      have h2 : CR E P (oSee g (xs (nI (5 * t) + 1).toNatClampNeg) (xs (nI (5 * t) + 2).toNatClampNeg) (xs (nI (5 * t) + 3).toNatClampNeg)).2 := h2
      have h3 : Hi D E := h3
      have hM' := hM.hi h3
      refine ok_t s1 (ok_t s2 (ok_t s3 (ok_t k9 (ok_bind (M_see_ok hP hM' hG (by decide) (xs (nI (5 * t) + 1).toNatClampNeg) (xs (nI (5 * t) + 2).toNatClampNeg) (xs (nI (5 * t) + 3).toNatClampNeg)) ?_))))
      rintro ⟨y', F⟩ ⟨h4, h5, h6⟩
      have h5 : MR F (oSee g (xs (nI (5 * t) + 1).toNatClampNeg) (xs (nI (5 * t) + 2).toNatClampNeg) (xs (nI (5 * t) + 3).toNatClampNeg)).2 := h5
      have h6 : Lo E F := h6
      exact ok_t (h1.trans h4.symm) (nxt F P _ (gok_see hG (xs (nI (5 * t) + 1).toNatClampNeg) (xs (nI (5 * t) + 2).toNatClampNeg) (xs (nI (5 * t) + 3).toNatClampNeg)) (h2.lo h6) h5)
    refine ok_ite (fun _ => ?_) (fun _ => ?_)
    · skip
      refine ok_t s1 (ok_t k8 (ok_bind (H_mark hC hG (by decide) (xs (nI (5 * t) + 1).toNatClampNeg)) ?_))
      rintro ⟨y, E⟩ ⟨h1, h2, h3⟩
      have h2 : CR E P (oMark g (xs (nI (5 * t) + 1).toNatClampNeg)).2 := h2
      have h3 : Hi D E := h3
      have hM' := hM.hi h3
      refine ok_t s1 (ok_t k9 (ok_bind (M_mark_ok hP hM' hG (by decide) (xs (nI (5 * t) + 1).toNatClampNeg)) ?_))
      rintro ⟨y', F⟩ ⟨h4, h5, h6⟩
      have h5 : MR F (oMark g (xs (nI (5 * t) + 1).toNatClampNeg)).2 := h5
      have h6 : Lo E F := h6
      exact ok_t (h1.trans h4.symm) (nxt F P _ (gok_mark hG (xs (nI (5 * t) + 1).toNatClampNeg)) (h2.lo h6) h5)
    refine ok_ite (fun _ => ?_) (fun _ => ?_)
    · skip
      refine ok_t k8 (ok_bind (H_forget hC hG (by decide) ) ?_)
      rintro ⟨y, E⟩ ⟨h1, h2, h3⟩
      have h2 : CR E P (oForget g).2 := h2
      have h3 : Hi D E := h3
      have hM' := hM.hi h3
      refine ok_t k9 (ok_bind (M_forget_ok hM' (by decide) ) ?_)
      rintro ⟨y', F⟩ ⟨h4, h5, h6⟩
      have h5 : MR F (oForget g).2 := h5
      have h6 : Lo E F := h6
      exact ok_t (h1.trans h4.symm) (nxt F P _ (gok_forget hG ) (h2.lo h6) h5)
    refine ok_ite (fun _ => ?_) (fun _ => ?_)
    · skip
      refine ok_t s1 (ok_t k8 (ok_call (H_kinds hC hG (by decide) (by omega) (xs (nI (5 * t) + 1).toNatClampNeg)) (ok_t s1 (ok_t k9 (ok_call (M_kinds_eq hP hM hG (by decide) (by omega) (xs (nI (5 * t) + 1).toNatClampNeg)) (ok_t rfl (nxt D P g hG hC hM)))))))
    refine ok_ite (fun _ => ?_) (fun _ => ?_)
    · skip
      refine ok_t s1 (ok_t s2 (ok_t k8 (ok_bind (H_which hC hG (by decide) (by omega) (xs (nI (5 * t) + 1).toNatClampNeg) (xs (nI (5 * t) + 2).toNatClampNeg)) ?_)))
      rintro ⟨y, E⟩ ⟨h1, h2, h3⟩
      have h2 : CR E P g := h2
      have h3 : Hi D E := h3
      have hM' := hM.hi h3
      refine ok_t s1 (ok_t s2 (ok_t k9 (ok_bind (M_which_ok hP hM' hG (by decide) (by omega) (xs (nI (5 * t) + 1).toNatClampNeg) (xs (nI (5 * t) + 2).toNatClampNeg)) ?_)))
      rintro ⟨y', F⟩ ⟨h4, h5, h6⟩
      have h5 : MR F g := h5
      have h6 : Lo E F := h6
      exact ok_t (h1.trans h4.symm) (nxt F P _ hG (h2.lo h6) h5)
    refine ok_ite (fun _ => ?_) (fun _ => ?_)
    · skip
      refine ok_t s1 (ok_t s2 (ok_t s3 (ok_t s4 (ok_t k8 (ok_bind (H_bad hC hG (by decide) (by omega) (xs (nI (5 * t) + 1).toNatClampNeg) (xs (nI (5 * t) + 2).toNatClampNeg) (xs (nI (5 * t) + 3).toNatClampNeg) (xs (nI (5 * t) + 4).toNatClampNeg)) ?_)))))
      rintro ⟨y, E⟩ ⟨h1, h2, h3⟩
      have h2 : CR E P g := h2
      have h3 : Hi D E := h3
      have hM' := hM.hi h3
      refine ok_t s1 (ok_t s2 (ok_t s3 (ok_t s4 (ok_t k9 (ok_bind (M_bad_ok hP hM' hG (by decide) (by omega) (xs (nI (5 * t) + 1).toNatClampNeg) (xs (nI (5 * t) + 2).toNatClampNeg) (xs (nI (5 * t) + 3).toNatClampNeg) (xs (nI (5 * t) + 4).toNatClampNeg)) ?_)))))
      rintro ⟨y', F⟩ ⟨h4, h5, h6⟩
      have h5 : MR F g := h5
      have h6 : Lo E F := h6
      exact ok_t (h1.trans h4.symm) (nxt F P _ hG (h2.lo h6) h5)
    refine ok_ite (fun _ => ?_) (fun _ => ?_)
    · skip
      refine ok_t s1 (ok_t s2 (ok_t s3 (ok_t k8 (ok_bind (H_month hC hG (by decide) (by omega) (xs (nI (5 * t) + 1).toNatClampNeg) (xs (nI (5 * t) + 2).toNatClampNeg) (xs (nI (5 * t) + 3).toNatClampNeg)) ?_))))
      rintro ⟨y, E⟩ ⟨h1, h2, h3⟩
      have h2 : CR E P g := h2
      have h3 : Hi D E := h3
      have hM' := hM.hi h3
      refine ok_t s1 (ok_t s2 (ok_t s3 (ok_t k9 (ok_bind (M_month_ok hP hM' hG (by decide) (by omega) (xs (nI (5 * t) + 1).toNatClampNeg) (xs (nI (5 * t) + 2).toNatClampNeg) (xs (nI (5 * t) + 3).toNatClampNeg)) ?_))))
      rintro ⟨y', F⟩ ⟨h4, h5, h6⟩
      have h5 : MR F g := h5
      have h6 : Lo E F := h6
      exact ok_t (h1.trans h4.symm) (nxt F P _ hG (h2.lo h6) h5)
    refine ok_ite (fun _ => ?_) (fun _ => ?_)
    · skip
      refine ok_t k8 (ok_bind (H_keep hC hG (by decide) (by omega) ) ?_)
      rintro ⟨y, E, P2⟩ ⟨h1, h2, h3⟩
      have h2 : CR E P2 (oKeep g).2 := h2
      have h3 : Hi D E := h3
      have hM' := hM.hi h3
      have hP := h2.1
      refine ok_t k9 (ok_bind (M_keep_ok hP hM' hG (by decide) (by omega) ) ?_)
      rintro ⟨y', F⟩ ⟨h4, h5, h6⟩
      have h5 : MR F (oKeep g).2 := h5
      have h6 : Lo E F := h6
      exact ok_t (h1.trans h4.symm) (nxt F P2 _ (gok_keep hG ) (h2.lo h6) h5)
    refine ok_ite (fun _ => ?_) (fun _ => ?_)
    · skip
      refine ok_t k8 (ok_bind (H_back hC hG (by decide) (by omega) ) ?_)
      rintro ⟨y, E⟩ ⟨h1, h2, h3⟩
      have h2 : CR E P (oBack g).2 := h2
      have h3 : Hi D E := h3
      have hM' := hM.hi h3
      refine ok_t k9 (ok_bind (M_back_ok hP hM' hG (by decide) (by omega) ) ?_)
      rintro ⟨y', F⟩ ⟨h4, h5, h6⟩
      have h5 : MR F (oBack g).2 := h5
      have h6 : Lo E F := h6
      exact ok_t (h1.trans h4.symm) (nxt F P _ (gok_back hG ) (h2.lo h6) h5)
    refine ok_ite (fun _ => ?_) (fun _ => ?_)
    · skip
      refine ok_t s1 (ok_t k8 (ok_call (H_count hC hG (by decide) (by omega) (xs (nI (5 * t) + 1).toNatClampNeg)) (ok_t s1 (ok_t k9 (ok_call (M_count_eq hP hM hG (by decide) (by omega) (xs (nI (5 * t) + 1).toNatClampNeg)) (ok_t rfl (nxt D P g hG hC hM)))))))
    exact nxt D P g hG hC hM
  · rintro D P i ⟨rfl, -⟩ rec
    unfold f_L_law_18
    exact ok_t (by rw [lim_lt hL (by omega)]; omega) (ok_some rfl)
theorem law_all (hN : 2000 ≤ N) (hL : L ≤ 320) : f_L_law N L xs = some 1 := by
  apply ok_val
  unfold f_L_law
  refine ok_t (by decide +kernel) (ok_pas (ok_pas (ok_bind (start_H N (by omega)) ?_)))
  rintro ⟨D, P⟩ ⟨h1, h2, h3, h4⟩
  refine ok_t (by decide +kernel) (ok_pas (ok_pas (ok_bind (start_M N (by omega) h1 h2 h3 h4) ?_)))
  rintro ⟨E, P'⟩ ⟨h5, h6⟩
  exact loop_ok hN hL g1_ok h5 h6
end LW
