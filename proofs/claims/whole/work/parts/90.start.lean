/-! the first family, in class and reference -/
def FBn (j : Nat) : Nat := (FB j).toNatClampNeg
theorem FB_ok : ∀ j, j < 79 → 32 ≤ FBn j ∧ FBn j ≤ 126 ∧ ((FB j &&& 255).toUInt32 % 65536).toInt32 = nI (FBn j) := by decide +kernel
def d1 : Dr := drH (drT (drT (drT (drT (drT (drT (drT (drT (drP (drP (drP (drP dr0 12) 20) 9) 15) 0 0 5) 0 1 3) 1 2 9) 1 3 4) 2 1 6) 2 0 2) 3 3 7) 3 2 4) 10 4 9
theorem rd_step {m n i : Nat} {v : Nat → Nat} {d : Dr} {x : Dr × Nat} (h : rdItem m v i d = some x) (hi : i < m) : rdAll m v (n + 1) i d = rdAll m v n x.2 x.1 := by
  show (if m ≤ i then (none, d) else match rdItem m v i d with | none => (some i, d) | some x => rdAll m v n x.2 x.1) = _
  rw [if_neg (by omega), h]
theorem it_p {m i : Nat} {v : Nat → Nat} {d : Dr} {a j : Nat} (hl : la m v i = 112) (h : stp m v (i + 1) 59 = some (a, j)) (ha : a ≤ 60) (h5 : fN d.1 < 5) : rdItem m v i d = some (drP d a, j) := by
  unfold rdItem
  rw [if_neg (by omega), if_pos hl, h]
  exact if_pos ⟨ha, h5⟩
theorem it_t {m i : Nat} {v : Nat → Nat} {d : Dr} {a b c j : Nat} (hl : la m v i = 116) (h : tri m v (i + 1) = some (a, b, c, j)) (ha : a < fN d.1) (hb : b ≤ 3) (hc : 1 ≤ c ∧ c ≤ 20) (h8 : fK d.1 < 8) : rdItem m v i d = some (drT d a b c, j) := by
  unfold rdItem
  rw [if_neg (by omega), if_neg (by omega), if_pos hl, h]
  exact if_pos ⟨ha, hb, hc, h8⟩
theorem it_h {m i : Nat} {v : Nat → Nat} {d : Dr} {a b c j : Nat} (hl : la m v i = 104) (h : tri m v (i + 1) = some (a, b, c, j)) (ha : a ≤ 60) (hb : 1 ≤ b ∧ b ≤ 20) (hc : 1 ≤ c ∧ c ≤ 30) : rdItem m v i d = some (drH d a b c, j) := by
  unfold rdItem
  rw [if_pos hl, h]
  exact if_pos ⟨ha, hb, hc⟩
theorem rd1 : rdAll 79 FBn 200 0 dr0 = (none, d1) := by
  rw [rd_step (it_p (a := 12) (j := 4) (by decide +kernel) (by decide +kernel) (by decide) (by decide)) (by decide)]
  show rdAll 79 FBn 199 4 _ = _
  rw [rd_step (it_p (a := 20) (j := 8) (by decide +kernel) (by decide +kernel) (by decide) (by decide)) (by decide)]
  show rdAll 79 FBn 198 8 _ = _
  rw [rd_step (it_p (a := 9) (j := 11) (by decide +kernel) (by decide +kernel) (by decide) (by decide)) (by decide)]
  show rdAll 79 FBn 197 11 _ = _
  rw [rd_step (it_p (a := 15) (j := 15) (by decide +kernel) (by decide +kernel) (by decide) (by decide)) (by decide)]
  show rdAll 79 FBn 196 15 _ = _
  rw [rd_step (it_t (a := 0) (b := 0) (c := 5) (j := 22) (by decide +kernel) (by decide +kernel) (by decide) (by decide) (by decide) (by decide)) (by decide)]
  show rdAll 79 FBn 195 22 _ = _
  rw [rd_step (it_t (a := 0) (b := 1) (c := 3) (j := 29) (by decide +kernel) (by decide +kernel) (by decide) (by decide) (by decide) (by decide)) (by decide)]
  show rdAll 79 FBn 194 29 _ = _
  rw [rd_step (it_t (a := 1) (b := 2) (c := 9) (j := 36) (by decide +kernel) (by decide +kernel) (by decide) (by decide) (by decide) (by decide)) (by decide)]
  show rdAll 79 FBn 193 36 _ = _
  rw [rd_step (it_t (a := 1) (b := 3) (c := 4) (j := 43) (by decide +kernel) (by decide +kernel) (by decide) (by decide) (by decide) (by decide)) (by decide)]
  show rdAll 79 FBn 192 43 _ = _
  rw [rd_step (it_t (a := 2) (b := 1) (c := 6) (j := 50) (by decide +kernel) (by decide +kernel) (by decide) (by decide) (by decide) (by decide)) (by decide)]
  show rdAll 79 FBn 191 50 _ = _
  rw [rd_step (it_t (a := 2) (b := 0) (c := 2) (j := 57) (by decide +kernel) (by decide +kernel) (by decide) (by decide) (by decide) (by decide)) (by decide)]
  show rdAll 79 FBn 190 57 _ = _
  rw [rd_step (it_t (a := 3) (b := 3) (c := 7) (j := 64) (by decide +kernel) (by decide +kernel) (by decide) (by decide) (by decide) (by decide)) (by decide)]
  show rdAll 79 FBn 189 64 _ = _
  rw [rd_step (it_t (a := 3) (b := 2) (c := 4) (j := 71) (by decide +kernel) (by decide +kernel) (by decide) (by decide) (by decide) (by decide)) (by decide)]
  show rdAll 79 FBn 188 71 _ = _
  rw [rd_step (it_h (a := 10) (b := 4) (c := 9) (j := 79) (by decide +kernel) (by decide +kernel) (by decide) (by decide) (by decide)) (by decide)]
  rfl
theorem d1_ok : DOK d1 := by
  have := rdAll_ok (m := 79) (v := FBn) 200 0 dr0 DOK.z
  rw [rd1] at this; exact this
def g1 : Gs := (d1.1, iniS d1.1 d1.2, (0, FBn), (0, fun _ => iniS d1.1 d1.2), (0, fun _ => iniS d1.1 d1.2), (0, fun _ => (0, 0, 0)), (0, fun _ => 0))
def g0 : Gs := ((0, 0, 0, 0, 0, fun _ => 0, fun _ => 0, fun _ => 0), (fun _ => 0, fun _ => 0, 0, 0), (79, FBn), (0, fun _ => iniS d1.1 d1.2), (0, fun _ => iniS d1.1 d1.2), (0, fun _ => (0, 0, 0)), (0, fun _ => 0))
theorem g1_ok : GOK g1 := by
  have hd := d1_ok
  refine ⟨hd.fam (by decide), ⟨fun t ht => ?_, fun t ht => ?_, Nat.zero_le _⟩, ⟨Nat.zero_le _, fun i hi => absurd hi (Nat.not_lt_zero i)⟩, ⟨Nat.zero_le _, fun i hi => absurd hi (Nat.not_lt_zero i)⟩, ⟨Nat.zero_le _, fun i hi => absurd hi (Nat.not_lt_zero i)⟩, ⟨Nat.zero_le _, fun i hi => absurd hi (Nat.not_lt_zero i)⟩, ⟨Nat.zero_le _, fun i hi => absurd hi (Nat.not_lt_zero i)⟩⟩
  · have ht : t < fK d1.1 := ht
    obtain ⟨a, b, c, e⟩ := hd.2.2.2.2.2.2 t ht
    show ((if t < fK d1.1 then fO d1.1 t else 8) < fN d1.1 ∨ (if t < fK d1.1 then fO d1.1 t else 8) = 5 ∨ (if t < fK d1.1 then fO d1.1 t else 8) = 6 ∨ (if t < fK d1.1 then fO d1.1 t else 8) = 7) ∧ (if t < fK d1.1 then d1.2 t else 0) ≤ 40 ∧ ((if t < fK d1.1 then fO d1.1 t else 8) < 6 → 1 ≤ (if t < fK d1.1 then d1.2 t else 0))
    rw [if_pos ht, if_pos ht]
    exact ⟨Or.inl a, by omega, fun _ => c⟩
  · have ht : fK d1.1 ≤ t := ht
    show (if t < fK d1.1 then fO d1.1 t else 8) = 8 ∧ (if t < fK d1.1 then d1.2 t else 0) = 0
    rw [if_neg (by omega), if_neg (by omega)]
    exact ⟨rfl, rfl⟩
section ST
variable {N nx : Nat} {D : Dt} {P : Ft} {d : Dr}
theorem tellPerson_ok (hP : PB P) (hn : 117 ≤ nx) (hd : DRm D d) (h5 : fN d.1 < 5) (a : Nat) : OkP (fun E => DRm E (drP d a) ∧ FrM D E ∧ E 97 = D 97) (f_M_tellPerson N nx D P 97 (nI a)) := by
  have ab1 : ab nx 99 3 1 = true := ab_ok (t := 3) (N := 2) (kd_at (by omega) rfl) (n := 1) (by decide) (by decide)
  have h99 : D 99 (1 : Int32).toNatClampNeg = nI (fN d.1) := hd.1
  unfold f_M_tellPerson
  refine ok_t (kd_at (by omega) rfl) (ok_nn (hP.at (by decide) (show P0 97 5 = some 102 from rfl)) (ok_nn (hP.at (by decide) (show P0 97 2 = some 99 from rfl)) (ok_t ab1 ?_)))
  rw [h99, show (5 : Int32) + nI (fN d.1) = nI (5 + fN d.1) from nI_add 5 _]
  refine ok_t (ab_ok (t := 3) (N := 10) (kd_at (by omega) rfl) (by omega) (by decide)) (ok_pas (ok_t ab1 (ok_t ab1 (ok_pas ?_))))
  rw [cl (n := 5 + fN d.1) (by omega)]
  show OkP _ (some (upd2 (upd2 D 102 (5 + fN d.1) (nI a)) 99 1 (upd2 D 102 (5 + fN d.1) (nI a) 99 1 + 1)))
  obtain ⟨e1, e2, e3, e4, e5, e6, e7⟩ := hd
  rw [upd2_n (show 99 ≠ 102 by decide), e1, nI_1]
  have e : ∀ q, q ≠ 99 → q ≠ 102 → upd2 (upd2 D 102 (5 + fN d.1) (nI a)) 99 1 (nI (fN d.1 + 1)) q = D q := fun q a b => by rw [upd2_n a, upd2_n b]
  refine ok_some ⟨?_, (FrM.up (by omega)).tr (FrM.up (by decide)), e 97 (by decide) (by decide)⟩
  unfold DRm
  rw [e 100 (by decide) (by decide), e 101 (by decide) (by decide), e 103 (by decide) (by decide), e 104 (by decide) (by decide), e 105 (by decide) (by decide)]
  refine ⟨by rw [upd2_s, upd_s]; rfl, e2, e3, e4, e5, fun p hp => ?_, e7⟩
  have hp : p < fN d.1 + 1 := hp
  rw [upd2_n (by decide), upd2_s]
  show _ = nI (if p = fN d.1 then a else fC d.1 p)
  by_cases c : p = fN d.1
  · rw [if_pos c, c, upd_s]
  · rw [if_neg c, upd_n (by omega)]; exact e6 p (by omega)
theorem tellPin_ok (hP : PB P) (hn : 117 ≤ nx) (hd : DRm D d) (h8 : fK d.1 < 8) (a b c : Nat) : OkP (fun E => DRm E (drT d a b c) ∧ FrM D E ∧ E 97 = D 97) (f_M_tellPin N nx D P 97 (nI a) (nI b) (nI c)) := by
  have ab1 : ab nx 100 3 1 = true := ab_ok (t := 3) (N := 2) (kd_at (by omega) rfl) (n := 1) (by decide) (by decide)
  have ab16 : ∀ a, a = 103 ∨ a = 104 ∨ a = 105 → ab nx a 3 (nI (8 + fK d.1)) = true := by
    rintro a (rfl | rfl | rfl)
    · exact ab_ok (t := 3) (N := 16) (kd_at (by omega) rfl) (by omega) (by decide)
    · exact ab_ok (t := 3) (N := 16) (kd_at (by omega) rfl) (by omega) (by decide)
    · exact ab_ok (t := 3) (N := 16) (kd_at (by omega) rfl) (by omega) (by decide)
  have h100 : D 100 (1 : Int32).toNatClampNeg = nI (fK d.1) := hd.2.1
  have ix8 : (8 : Int32) + nI (fK d.1) = nI (8 + fK d.1) := nI_add 8 _
  unfold f_M_tellPin
  refine ok_t (kd_at (by omega) rfl) (ok_nn (hP.at (by decide) (show P0 97 6 = some 103 from rfl)) (ok_nn (hP.at (by decide) (show P0 97 3 = some 100 from rfl)) (ok_t ab1 ?_)))
  rw [h100, ix8]
  refine ok_t (ab16 103 (by decide)) (ok_pas (ok_nn (hP.at (by decide) (show P0 97 7 = some 104 from rfl)) (ok_t ab1 ?_)))
  rw [cl (n := 8 + fK d.1) (by omega), upd2_n (show 100 ≠ 103 by decide), h100, ix8]
  refine ok_t (ab16 104 (by decide)) (ok_pas (ok_nn (hP.at (by decide) (show P0 97 8 = some 105 from rfl)) (ok_t ab1 ?_)))
  rw [cl (n := 8 + fK d.1) (by omega), upd2_n (show 100 ≠ 104 by decide), upd2_n (show 100 ≠ 103 by decide), h100, ix8]
  refine ok_t (ab16 105 (by decide)) (ok_pas (ok_t ab1 (ok_t ab1 (ok_pas ?_))))
  rw [cl (n := 8 + fK d.1) (by omega), upd2_n (show 100 ≠ 105 by decide), upd2_n (show 100 ≠ 104 by decide), upd2_n (show 100 ≠ 103 by decide), h100, nI_1]
  show OkP _ (some (upd2 (upd2 (upd2 (upd2 D 103 (8 + fK d.1) (nI a)) 104 (8 + fK d.1) (nI b)) 105 (8 + fK d.1) (nI c)) 100 1 (nI (fK d.1 + 1))))
  have e : ∀ q, q < 100 ∨ q = 101 ∨ q = 102 → upd2 (upd2 (upd2 (upd2 D 103 (8 + fK d.1) (nI a)) 104 (8 + fK d.1) (nI b)) 105 (8 + fK d.1) (nI c)) 100 1 (nI (fK d.1 + 1)) q = D q := fun q h => by rw [upd2_n (by omega), upd2_n (by omega), upd2_n (by omega), upd2_n (by omega)]
  obtain ⟨e1, e2, e3, e4, e5, e6, e7⟩ := hd
  refine ok_some ⟨?_, (((FrM.up (by omega)).tr (FrM.up (by omega))).tr (FrM.up (by omega))).tr (FrM.up (by decide)), e 97 (by decide)⟩
  unfold DRm
  rw [e 99 (by decide), e 101 (by decide), e 102 (by decide)]
  refine ⟨e1, by rw [upd2_s, upd_s]; rfl, e3, e4, e5, e6, fun t ht => ?_⟩
  have ht : t < fK d.1 + 1 := ht
  rw [upd2_n (show 103 ≠ 100 by decide), upd2_n (show 103 ≠ 105 by decide), upd2_n (show 103 ≠ 104 by decide), upd2_s, upd2_n (show 104 ≠ 100 by decide), upd2_n (show 104 ≠ 105 by decide), upd2_s, upd2_n (show 104 ≠ 103 by decide), upd2_n (show 105 ≠ 100 by decide), upd2_s, upd2_n (show 105 ≠ 104 by decide), upd2_n (show 105 ≠ 103 by decide)]
  show _ = nI (if t = fK d.1 then a else fO d.1 t) ∧ _ = nI (if t = fK d.1 then b else fS d.1 t) ∧ _ = nI (if t = fK d.1 then c else d.2 t)
  by_cases k : t = fK d.1
  · rw [if_pos k, if_pos k, if_pos k, k, upd_s, upd_s, upd_s]; exact ⟨rfl, rfl, rfl⟩
  · rw [if_neg k, if_neg k, if_neg k, upd_n (by omega), upd_n (by omega), upd_n (by omega)]; exact e7 t (by omega)
theorem M_first_ok (hP : PB P) (hn : 117 ≤ nx) : OkP (fun E => DRm E d1 ∧ (∀ k, k ≠ 9 → k ≠ 10 → E 97 k = D 97 k) ∧ ∀ q, q < 97 ∨ q = 98 ∨ 105 < q → E q = D q) (f_M_first N nx D P 97) := by
  unfold f_M_first
  refine ok_t (kd_at (by omega) rfl) (ok_bind (M_begin_ok hP hn) (fun E0 h0 => ?_))
  refine ok_bind (tellPerson_ok hP hn h0.2.1 (by decide) 12) (fun E1 h1 => ?_)
  refine ok_bind (tellPerson_ok hP hn h1.1 (by decide) 20) (fun E2 h2 => ?_)
  refine ok_bind (tellPerson_ok hP hn h2.1 (by decide) 9) (fun E3 h3 => ?_)
  refine ok_bind (tellPerson_ok hP hn h3.1 (by decide) 15) (fun E4 h4 => ?_)
  refine ok_bind (tellPin_ok hP hn h4.1 (by decide) 0 0 5) (fun E5 h5 => ?_)
  refine ok_bind (tellPin_ok hP hn h5.1 (by decide) 0 1 3) (fun E6 h6 => ?_)
  refine ok_bind (tellPin_ok hP hn h6.1 (by decide) 1 2 9) (fun E7 h7 => ?_)
  refine ok_bind (tellPin_ok hP hn h7.1 (by decide) 1 3 4) (fun E8 h8 => ?_)
  refine ok_bind (tellPin_ok hP hn h8.1 (by decide) 2 1 6) (fun E9 h9 => ?_)
  refine ok_bind (tellPin_ok hP hn h9.1 (by decide) 2 0 2) (fun E10 h10 => ?_)
  refine ok_bind (tellPin_ok hP hn h10.1 (by decide) 3 3 7) (fun E11 h11 => ?_)
  refine ok_bind (tellPin_ok hP hn h11.1 (by decide) 3 2 4) (fun E12 h12 => ?_)
  refine ok_bind (tellHeart_ok (a := 10) (b := 4) (c := 9) hP hn h12.1) (fun E13 h13 => ok_some ?_)
  have fr : FrM D E13 := ((((((((((((h0.1.tr h1.2.1).tr h2.2.1).tr h3.2.1).tr h4.2.1).tr h5.2.1).tr h6.2.1).tr h7.2.1).tr h8.2.1).tr h9.2.1).tr h10.2.1).tr h11.2.1).tr h12.2.1).tr h13.1
  exact ⟨h13.2.1, fr.2.1, fr.1⟩
theorem add_ok (hP1 : P 1 0 = some 2) (hn : 97 ≤ nx) {t c : Nat} (h2 : D 1 2 = nI t) (ht : t < 200) (hc : c < 127) : f_T_add N nx D P 1 (nI c) = some (1, upd2 (upd2 D 2 t (nI c)) 1 2 (nI (t + 1))) := by
  have e : f_H_isWithin N nx D P (nI t) (nI 0) (nI 199) = some 1 := by
    rw [isWithin_eq (by omega) (by omega) (by omega), if_pos ⟨Nat.zero_le _, by omega⟩]
  apply ok_val
  unfold f_T_add
  rw [h2]
  refine ok_t (kd_at (by omega) rfl) (ok_call e (ok_f (by decide) (ok_nn hP1 (ok_t (ab_ok (t := 2) (N := 200) (kd_at (by omega) rfl) ht (by decide)) (ok_pas (ok_pas (ok_some ?_)))))))
  rw [cl (n := t) (by omega), ch2_ok c hc, upd2_n (show 1 ≠ 2 by decide), h2, nI_1]
end ST
/-- where the cells are that the reference has not made yet, taken as made -/
def PX (P : Ft) : Ft := fun a k => if a < 97 then P a k else P0 a k
theorem PX_lo {P : Ft} {a : Nat} (h : a < 97) : PX P a = P a := funext fun k => if_pos h
theorem start_H (N : Nat) (hN : 1000 ≤ N) : OkP (fun z => CR z.1 (PX z.2) g1 ∧ (∀ a, a < 97 → ∀ k, a ≠ 21 → z.2 a k = P0 a k) ∧ (∀ i, i < 8 → z.2 21 i = some (22 + 3 * i)) ∧ PN z.2) (f_H_init N 1 (zD (fun _ _ => 0) 0) (zP (fun _ _ => none) 0) 0) := by
  obtain ⟨D, P, e, hD, h1, h2, h3⟩ := H_made N
  rw [e]
  have hlo : ∀ a, a < 97 → ∀ k, a ≠ 21 → P a k = P0 a k := fun a ha k hk => by
    rcases Nat.lt_or_ge k 26 with c | c
    · exact h1 a ha k c hk
    · rw [h3 a k (Or.inr c), P0_out (Or.inr c)]
  have hPB : PB (PX P) := fun a k ha => by
    show (if a < 97 then P a k else P0 a k) = P0 a k
    by_cases c : a < 97
    · rw [if_pos c]; exact hlo a c k ha
    · rw [if_neg c]
  have hsame : ∀ a, a < 97 → P a = PX P a := fun a ha => (PX_lo ha).symm
  have hP0 : P 0 0 = some 1 := (hlo 0 (by decide) 0 (by decide)).trans rfl
  have hP1 : P 1 0 = some 2 := (hlo 1 (by decide) 0 (by decide)).trans rfl
  refine wk2_run (I := fun t E i => i = nI t ∧ E 1 2 = nI t ∧ (∀ j, j < t → E 2 j = nI (FBn j)) ∧ ∀ q k, q ≠ 1 → q ≠ 2 → E q k = 0) 79 N _ _ (by omega) ⟨rfl, hD 1 2, fun j hj => absurd hj (Nat.not_lt_zero j), fun q k _ _ => hD q k⟩ ?_ ?_
  · rintro t ht E i ⟨rfl, e2, et, eq⟩ rec hrec
    obtain ⟨c1, c2, c3⟩ := FB_ok t ht
    unfold f_H_init_150
    refine ok_f (by rw [lit 79, nI_le' (by decide) (by omega)]; omega) (ok_t (kd_at (by omega) rfl) (ok_nn hP0 (ok_t ⟨nI_nneg (by omega), by rw [lit 79, nI_lt' (by omega) (by decide)]; exact ht⟩ (ok_t (kd_at (by omega) rfl) ?_))))
    rw [cl (n := t) (by omega), c3]
    refine ok_call (add_ok hP1 (by omega) e2 (by omega) (by omega)) ?_
    rw [nI_1]
    show OkP _ (rec (upd2 (upd2 E 2 t (nI (FBn t))) 1 2 (nI (t + 1))) (nI (t + 1)))
    refine hrec _ _ ⟨rfl, by rw [upd2_s, upd_s], fun j hj => ?_, fun q k a b => by rw [upd2_n a, upd2_n b]; exact eq q k a b⟩
    rw [upd2_n (by decide), upd2_s]
    by_cases c : j = t
    · rw [c, upd_s]
    · rw [upd_n c]; exact et j (by omega)
  · rintro E i ⟨rfl, e2, et, eq⟩ rec
    have rws : Rws (PX P) 20 8 (fun i => 22 + 3 * i) := ⟨fun i hi => by
      show PX P 21 i = _
      rw [PX_lo (by decide)]; exact h2 i hi, fun i hi => ⟨i, hi, rfl⟩, fun i j _ _ h => by
      have h : 22 + 3 * i = 22 + 3 * j := h
      omega⟩
    have rws2 : Rws (PX P) 46 2 (fun i => 48 + 3 * i) := ⟨fun i hi => by
      show PX P 47 i = _
      rw [hPB 47 i (by decide)]
      rcases (show i = 0 ∨ i = 1 by omega) with rfl | rfl <;> rfl, fun i hi => ⟨i, hi, rfl⟩, fun i j _ _ h => by
      have h : 48 + 3 * i = 48 + 3 * j := h
      omega⟩
    have no : ∀ {u : Nat → St} {g : Nat → Nat}, ∀ i, i < 0 → CS E (g i) (u i) := fun i hi => absurd hi (Nat.not_lt_zero i)
    have hCR : CR E (PX P) g0 := by
      refine ⟨hPB, ⟨e2, et⟩, ⟨eq 4 4 (by decide) (by decide), eq 4 5 (by decide) (by decide), eq 4 6 (by decide) (by decide), eq 4 7 (by decide) (by decide), eq 4 8 (by decide) (by decide), fun p hp => absurd hp (Nat.not_lt_zero p), fun t ht => absurd ht (Nat.not_lt_zero t)⟩, ⟨eq 14 3 (by decide) (by decide), eq 14 4 (by decide) (by decide), fun t _ => ⟨eq 15 t (by decide) (by decide), eq 16 t (by decide) (by decide)⟩⟩, ⟨eq 20 1 (by decide) (by decide), Nat.zero_le _, _, rws, no⟩, ⟨eq 46 1 (by decide) (by decide), Nat.zero_le _, _, rws2, no⟩, eq 54 4 (by decide) (by decide), eq 54 5 (by decide) (by decide), fun i hi => absurd hi (Nat.not_lt_zero i), fun i hi => absurd hi (Nat.not_lt_zero i)⟩
    have hlay := H_lay0 (N := N) (nx := 1 + 96) hCR ⟨(by decide : 79 ≤ 200), fun i hi => ⟨(FB_ok i hi).1, (FB_ok i hi).2.1⟩⟩ (by omega) (by omega)
    have eo : (oLay g0).2 = ((d1.1, iniS d1.1 d1.2, (79, FBn), (0, fun _ => iniS d1.1 d1.2), (0, fun _ => iniS d1.1 d1.2), (0, fun _ => (0, 0, 0)), (0, fun _ => 0)) : Gs) := by
      unfold oLay
      rw [show rdAll (gT g0).1 (gT g0).2 200 0 dr0 = (none, d1) from rd1, if_pos ⟨rfl, by decide⟩]
      rfl
    rw [eo] at hlay
    unfold f_H_init_150
    rw [g_lay hsame hPB]
    refine ok_t (by decide) (ok_t (kd_at (by omega) rfl) (ok_bind hlay ?_))
    rintro ⟨w, F⟩ ⟨-, hF, -⟩
    refine ok_nn hP0 (ok_t (kd_at (by omega) rfl) ?_)
    unfold f_T_clear
    refine ok_bind (Q1 := fun G => G = upd2 F 1 2 0) (ok_t (kd_at (by omega) rfl) (ok_pas (ok_some rfl))) ?_
    rintro G rfl
    refine ok_some ⟨?_, hlo, h2, h3⟩
    obtain ⟨k1, k2, k3, k4, k5, k6, k7⟩ := hF
    have en : ∀ q, q ≠ 1 → upd2 F 1 2 0 q = F q := fun q a => upd2_n a
    exact ⟨k1, ⟨by show upd2 F 1 2 0 1 2 = nI 0; rw [upd2_s, upd_s]; rfl, fun i hi => absurd hi (Nat.not_lt_zero i)⟩, k3.nn (en 4 (by decide)) (en 5 (by decide)) (en 6 (by decide)) (en 7 (by decide)), k4.at1 (en 14 (by decide)) (en 15 (by decide)) (en 16 (by decide)), k5.nn (fun q a b => en q (by omega)), k6.nn (fun q a b => en q (by omega)), k7.nn (fun q a b => en q (by omega))⟩
theorem start_M (N : Nat) (hN : 1000 ≤ N) {D : Dt} {P : Ft} (hC : CR D (PX P) g1) (hlo : ∀ a, a < 97 → ∀ k, a ≠ 21 → P a k = P0 a k) (h21 : ∀ i, i < 8 → P 21 i = some (22 + 3 * i)) (hPN : PN P) : OkP (fun z => CR z.1 z.2 g1 ∧ MR z.1 g1) (f_M_init N 98 (zD D 97) (zP P 97) 97) := by
  obtain ⟨D', P', e, x1, x2, x3, x4⟩ := M_made N (zD D 97) (zP P 97)
  have hlo2 : ∀ a, a < 97 → P' a = P a := fun a ha => by rw [x2 a (Or.inl ha), zP_n (by omega)]
  have hPB : PB P' := fun a k ha => by
    rcases Nat.lt_or_ge a 97 with c | c
    · rw [hlo2 a c]; exact hlo a c k ha
    · by_cases c2 : a = 97
      · subst c2
        rw [x4, zP_s]
        rcases Nat.lt_or_ge k 26 with w | w
        · rcases (show k = 0 ∨ k = 1 ∨ k = 2 ∨ k = 3 ∨ k = 4 ∨ k = 5 ∨ k = 6 ∨ k = 7 ∨ k = 8 ∨ k = 9 ∨ k = 10 ∨ k = 11 ∨ k = 12 ∨ k = 13 ∨ k = 14 ∨ k = 15 ∨ k = 16 ∨ k = 17 ∨ k = 18 ∨ k = 19 ∨ k = 20 ∨ k = 21 ∨ k = 22 ∨ k = 23 ∨ k = 24 ∨ k = 25 by omega) with rfl | rfl | rfl | rfl | rfl | rfl | rfl | rfl | rfl | rfl | rfl | rfl | rfl | rfl | rfl | rfl | rfl | rfl | rfl | rfl | rfl | rfl | rfl | rfl | rfl | rfl <;> rfl
        · rw [P0_out (Or.inr w)]
          unfold va_up
          rw [if_neg (by omega), if_neg (by omega), if_neg (by omega), if_neg (by omega), if_neg (by omega), if_neg (by omega), if_neg (by omega), if_neg (by omega), if_neg (by omega), if_neg (by omega), if_neg (by omega), if_neg (by omega), if_neg (by omega), if_neg (by omega), if_neg (by omega), if_neg (by omega), if_neg (by omega), if_neg (by omega), if_neg (by omega)]
      · rcases Nat.lt_or_ge a 117 with w | w
        · rw [x3 a (by omega) w]
          rcases (show a = 98 ∨ a = 99 ∨ a = 100 ∨ a = 101 ∨ a = 102 ∨ a = 103 ∨ a = 104 ∨ a = 105 ∨ a = 106 ∨ a = 107 ∨ a = 108 ∨ a = 109 ∨ a = 110 ∨ a = 111 ∨ a = 112 ∨ a = 113 ∨ a = 114 ∨ a = 115 ∨ a = 116 by omega) with rfl | rfl | rfl | rfl | rfl | rfl | rfl | rfl | rfl | rfl | rfl | rfl | rfl | rfl | rfl | rfl | rfl | rfl | rfl <;> rfl
        · rw [x2 a (Or.inr w), zP_n c2, hPN a k (Or.inl c), P0_out (Or.inl w)]
  rw [e]
  refine ok_bind (M_first_ok hPB (by decide)) ?_
  rintro E ⟨y1, y2, y3⟩
  refine ok_bind (M_takeDraft_ok hPB (by decide) (by omega) y1 d1_ok) ?_
  rintro F ⟨f1, f2, ⟨f3, f4, f5, f6⟩, f7, f8⟩
  have eF : ∀ q, q < 97 → F q = D q := fun q hq => by
    rw [f8 q (Or.inl hq), y3 q (Or.inl hq), x1 q (by omega)]
    exact if_neg (by omega)
  refine ok_some ⟨?_, f1, f2, ⟨?_, fun i hi => absurd hi (Nat.not_lt_zero i)⟩, ⟨f3, fun i hi => absurd hi (Nat.not_lt_zero i)⟩, ⟨f4, fun i hi => absurd hi (Nat.not_lt_zero i)⟩, ⟨f5, fun i hi => absurd hi (Nat.not_lt_zero i)⟩, f6, fun i hi => absurd hi (Nat.not_lt_zero i)⟩
  · obtain ⟨k1, k2, k3, k4, k5, k6, k7⟩ := hC
    have rw21 : ∀ i, P' 21 i = P 21 i := fun i => by rw [hlo2 21 (by decide)]
    refine ⟨hPB, ⟨by show F 1 2 = _; rw [eF 1 (by decide)]; exact k2.1, fun i hi => absurd hi (Nat.not_lt_zero i)⟩, k3.nn (eF 4 (by decide)) (eF 5 (by decide)) (eF 6 (by decide)) (eF 7 (by decide)), k4.at1 (eF 14 (by decide)) (eF 15 (by decide)) (eF 16 (by decide)), ?_, ?_, k7.nn (fun q a b => eF q (by omega))⟩
    · refine ⟨by show F 20 1 = _; rw [eF 20 (by decide)]; exact k5.1, Nat.zero_le _, fun i => 22 + 3 * i, ⟨fun i hi => by
        show P' 21 i = _
        rw [rw21]; exact h21 i hi, fun i hi => ⟨i, hi, rfl⟩, fun i j _ _ h => by
        have h : 22 + 3 * i = 22 + 3 * j := h
        omega⟩, fun i hi => absurd hi (Nat.not_lt_zero i)⟩
    · refine ⟨by show F 46 1 = _; rw [eF 46 (by decide)]; exact k6.1, Nat.zero_le _, fun i => 48 + 3 * i, ⟨fun i hi => by
        show P' 47 i = _
        rw [hPB 47 i (by decide)]
        rcases (show i = 0 ∨ i = 1 by omega) with rfl | rfl <;> rfl, fun i hi => ⟨i, hi, rfl⟩, fun i j _ _ h => by
        have h : 48 + 3 * i = 48 + 3 * j := h
        omega⟩, fun i hi => absurd hi (Nat.not_lt_zero i)⟩
  · show F 97 1 = nI 0
    rw [f7 1 (by decide) (by decide) (by decide) (by decide), y2 1 (by decide) (by decide), x1 97 (by decide)]
    exact congrFun (if_pos rfl) 1
