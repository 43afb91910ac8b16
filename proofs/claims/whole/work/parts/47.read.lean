/-! the written family, as the class reads it -/
def la (m : Nat) (v : Nat → Nat) (i : Nat) : Nat := if i < m then v i else 32
def fgr (c : Nat) : Option Nat := if 48 ≤ c ∧ c ≤ 57 then some (c - 48) else none
def num (m : Nat) (v : Nat → Nat) (i : Nat) : Option (Nat × Nat) := match fgr (la m v i) with
  | none => none
  | some a => match fgr (la m v (i + 1)) with
    | none => some (a, i + 1)
    | some b => some (10 * a + b, i + 2)
def stp (m : Nat) (v : Nat → Nat) (i s : Nat) : Option (Nat × Nat) := match num m v i with
  | none => none
  | some x => if la m v x.2 = s then some (x.1, x.2 + 1) else none
abbrev Dr : Type := Fam × (Nat → Nat)
def dr0 : Dr := ((0, 0, 12, 5, 14, fun _ => 0, fun _ => 0, fun _ => 0), fun _ => 0)
def drH (d : Dr) (a b c : Nat) : Dr := ((fN d.1, fK d.1, a, b, c, fC d.1, fO d.1, fS d.1), d.2)
def drP (d : Dr) (a : Nat) : Dr := ((fN d.1 + 1, fK d.1, fR d.1, fD d.1, fQ d.1, fun p => if p = fN d.1 then a else fC d.1 p, fO d.1, fS d.1), d.2)
def drT (d : Dr) (a b c : Nat) : Dr := ((fN d.1, fK d.1 + 1, fR d.1, fD d.1, fQ d.1, fC d.1, fun t => if t = fK d.1 then a else fO d.1 t, fun t => if t = fK d.1 then b else fS d.1 t), fun t => if t = fK d.1 then c else d.2 t)
def tri (m : Nat) (v : Nat → Nat) (i : Nat) : Option (Nat × Nat × Nat × Nat) := (stp m v i 44).bind fun x => (stp m v x.2 44).bind fun y => (stp m v y.2 59).bind fun z => some (x.1, y.1, z.1, z.2)
def rdItem (m : Nat) (v : Nat → Nat) (i : Nat) (d : Dr) : Option (Dr × Nat) :=
  if la m v i = 104 then (tri m v (i + 1)).bind fun x => if x.1 ≤ 60 ∧ (1 ≤ x.2.1 ∧ x.2.1 ≤ 20) ∧ (1 ≤ x.2.2.1 ∧ x.2.2.1 ≤ 30) then some (drH d x.1 x.2.1 x.2.2.1, x.2.2.2) else none
  else if la m v i = 112 then (stp m v (i + 1) 59).bind fun x => if x.1 ≤ 60 ∧ fN d.1 < 5 then some (drP d x.1, x.2) else none
  else if la m v i = 116 then (tri m v (i + 1)).bind fun x => if x.1 < fN d.1 ∧ x.2.1 ≤ 3 ∧ (1 ≤ x.2.2.1 ∧ x.2.2.1 ≤ 20) ∧ fK d.1 < 8 then some (drT d x.1 x.2.1 x.2.2.1, x.2.2.2) else none
  else none
/-- none: it is well written -/
def rdAll (m : Nat) (v : Nat → Nat) : Nat → Nat → Dr → Option Nat × Dr
  | 0, i, d => if m ≤ i then (none, d) else (some i, d)
  | n + 1, i, d => if m ≤ i then (none, d) else match rdItem m v i d with
    | none => (some i, d)
    | some x => rdAll m v n x.2 x.1
def TX (D : Dt) (m : Nat) (v : Nat → Nat) : Prop := D 1 2 = nI m ∧ m ≤ 200 ∧ ∀ i, i < m → D 2 i = nI (v i) ∧ 32 ≤ v i ∧ v i ≤ 126
def FrT (D E : Dt) : Prop := (∀ q, q ≠ 1 → q ≠ 3 → E q = D q) ∧ ∀ k, k ≠ 3 → E 1 k = D 1 k
theorem FrT.rf {D : Dt} : FrT D D := ⟨fun _ _ _ => rfl, fun _ _ => rfl⟩
theorem FrT.tr {D E F : Dt} (h : FrT D E) (g : FrT E F) : FrT D F := ⟨fun q a b => (g.1 q a b).trans (h.1 q a b), fun k a => (g.2 k a).trans (h.2 k a)⟩
theorem FrT.at {D : Dt} {x : Int32} : FrT D (upd2 D 1 3 x) := ⟨fun q a _ => upd2_n a, fun k a => by rw [upd2_s, upd_n a]⟩
theorem FrT.n {D : Dt} {k : Nat} {x : Int32} : FrT D (upd2 D 3 k x) := ⟨fun q _ a => upd2_n a, fun k _ => by rw [upd2_n (by decide)]⟩
theorem TX.fr {D E : Dt} {m : Nat} {v : Nat → Nat} (h : TX D m v) (g : FrT D E) : TX E m v := by
  unfold TX
  rw [g.1 2 (by decide) (by decide), g.2 2 (by decide)]; exact h
theorem ten_ok : ∀ a, a < 10 → ∀ b, b < 10 → (10 : Int32) * nI a + nI b = nI (10 * a + b) := by decide
theorem ch_ok : ∀ c, c < 127 → (Int32.toUInt32 (nI c) % 65536).toInt32 = nI c := by decide
theorem isWithin_eq {N nx : Nat} {D : Dt} {P : Ft} {x : Nat} {a b : Nat} (hx : x < 100000) (ha : a < 100000) (hb : b < 100000) : f_H_isWithin N nx D P (nI x) (nI a) (nI b) = some (if a ≤ x ∧ x ≤ b then 1 else 0) := by
  unfold f_H_isWithin
  by_cases q : x < a
  · rw [if_pos (by rw [nI_lt' (by omega) (by omega)]; exact q), if_neg (by omega)]
  · rw [if_neg (by rw [nI_lt' (by omega) (by omega)]; exact q)]
    by_cases w : b < x
    · rw [if_pos (by rw [nI_lt' (by omega) (by omega)]; exact w), if_neg (by omega)]
    · rw [if_neg (by rw [nI_lt' (by omega) (by omega)]; exact w), if_pos (by omega)]
section RD
variable {N nx m i : Nat} {D : Dt} {P : Ft} {v : Nat → Nat}
theorem la_le (h : TX D m v) : 32 ≤ la m v i ∧ la m v i < 127 := by
  unfold la
  split
  · have := h.2.2 i (by assumption); omega
  · omega
theorem num_lt {s : Nat × Nat} (h : num m v i = some s) : s.1 < 100 ∧ i < s.2 ∧ s.2 ≤ i + 2 ∧ i < m := by
  unfold num at h
  have hf : ∀ c a, fgr c = some a → a ≤ 9 ∧ c = a + 48 := by
    intro c a q
    unfold fgr at q
    split at q
    · injection q with q; omega
    · exact (by cases q)
  split at h
  · cases h
  · rename_i a ha
    have h1 := hf _ _ ha
    have him : i < m := by
      rcases Nat.lt_or_ge i m with w | w
      · exact w
      · have h2 : la m v i = 32 := if_neg (by omega)
        omega
    split at h
    · cases h; exact ⟨by show a < 100; omega, by show i < i + 1; omega, by show i + 1 ≤ _; omega, him⟩
    · rename_i b hb
      have h2 := hf _ _ hb
      cases h; exact ⟨by show 10 * a + b < 100; omega, by show i < i + 2; omega, by show i + 2 ≤ _; omega, him⟩
theorem stp_lt {s : Nat} {x : Nat × Nat} (h : stp m v i s = some x) (hs : s ≠ 32) : x.1 < 100 ∧ i < x.2 ∧ x.2 ≤ m := by
  unfold stp at h
  split at h
  · cases h
  · rename_i y hy
    have h1 := num_lt hy
    split at h
    · rename_i hl
      cases h
      refine ⟨h1.1, by show i < y.2 + 1; omega, ?_⟩
      show y.2 + 1 ≤ m
      rcases Nat.lt_or_ge y.2 m with w | w
      · exact w
      · have h2 : la m v y.2 = 32 := if_neg (by omega)
        omega
    · cases h
theorem letterAt_eq (hP : PB P) (hn : 97 ≤ nx) (h : TX D m v) (hi : i < 1000) : f_T_letterAt N nx D P 1 (nI i) = some (nI (la m v i)) := by
  have hm := h.2.1
  unfold f_T_letterAt la
  rw [if_pos (show kd nx 1 = 2 from kd_at (by omega) rfl), if_neg (nI_nneg (by omega)), h.1]
  by_cases q : i < m
  · obtain ⟨h1, h2, h3⟩ := h.2.2 i q
    rw [if_neg (i2_lt q (by omega)), if_neg (by rw [lit 200, nI_le' (by decide) (by omega)]; omega), hP.at (by decide) (show P0 1 0 = some 2 from rfl), nn_some, if_pos (ab_ok (t := 2) (N := 200) (kd_at (by omega) rfl) (by omega) (by decide)), cl (by omega), h1, if_pos (ch_ok _ (by omega)), if_pos q]
  · rw [if_pos (i2_ge (by omega) (by omega)), if_pos (by decide), if_neg q]; rfl
theorem figureAt_eq (hP : PB P) (hn : 97 ≤ nx) (h : TX D m v) (hi : i < 1000) : f_T_figureAt N nx D P 1 (nI i) = some (match fgr (la m v i) with | none => -1 | some a => nI a) := by
  have hl := la_le (i := i) h
  unfold f_T_figureAt
  rw [if_pos (show kd nx 1 = 2 from kd_at (by omega) rfl), letterAt_eq hP hn h hi, bnd_some]
  unfold fgr
  by_cases q : la m v i < 48
  · rw [if_pos (by rw [lit 48, nI_lt' (by omega) (by decide)]; exact q), if_neg (by omega)]
  · rw [if_neg (by rw [lit 48, nI_lt' (by omega) (by decide)]; exact q)]
    by_cases w : 57 < la m v i
    · rw [if_pos (by rw [lit 57, nI_lt' (by decide) (by omega)]; exact w), if_neg (by omega)]
    · rw [if_neg (by rw [lit 57, nI_lt' (by decide) (by omega)]; exact w), if_pos (by omega)]
      exact congrArg some (pk_sub (a := la m v i) (b := 48) (by omega))
theorem readNumber_ok (hP : PB P) (hn : 97 ≤ nx) (h : TX D m v) (h3 : D 1 3 = nI i) (hi : i < 900) : OkP (fun z => FrT D z.2 ∧ z.2 3 = D 3 ∧ match num m v i with | none => z.1 = (-1 : Int32) | some x => z.1 = nI x.1 ∧ z.2 1 3 = nI x.2) (f_T_readNumber N nx D P 1) := by
  unfold f_T_readNumber num
  rw [h3]
  refine ok_t (kd_at (by omega) rfl) (ok_call (figureAt_eq hP hn h (by omega)) ?_)
  cases e : fgr (la m v i) with
  | none => exact ok_f (by decide) (ok_some ⟨FrT.rf, rfl, rfl⟩)
  | some a =>
    have ha : a ≤ 9 := by
      unfold fgr at e
      split at e
      · injection e with e; omega
      · cases e
    have h2 : TX (upd2 D 1 3 (nI (i + 1))) m v := h.fr FrT.at
    refine ok_t (by show (0 : Int32) ≤ nI a; rw [lit 0, nI_le' (by decide) (by omega)]; omega) (ok_pas ?_)
    rw [nI_1, upd2_s, upd_s]
    refine ok_call (figureAt_eq hP hn h2 (by omega)) ?_
    cases e2 : fgr (la m v (i + 1)) with
    | none =>
      refine ok_t (show (-1 : Int32) < 0 by decide) (ok_some ⟨FrT.at, ?_, rfl, ?_⟩)
      · show upd2 D 1 3 (nI (i + 1)) 3 = _
        rw [upd2_n (by decide)]
      · show upd2 D 1 3 (nI (i + 1)) 1 3 = _
        rw [upd2_s, upd_s]
    | some b =>
      have hb : b ≤ 9 := by
        unfold fgr at e2
        split at e2
        · injection e2 with e2; omega
        · cases e2
      refine ok_f (nI_nneg (n := b) (by omega)) (ok_pas (ok_some ⟨FrT.at.tr FrT.at, ?_, ?_, ?_⟩))
      · show upd2 (upd2 D 1 3 (nI (i + 1))) 1 3 (nI (i + 1) + 1) 3 = _
        rw [upd2_n (by decide), upd2_n (by decide)]
      · show 10 * nI a + nI b = nI (10 * a + b)
        exact ten_ok a (by omega) b (by omega)
      · show upd2 (upd2 D 1 3 (nI (i + 1))) 1 3 (nI (i + 1) + 1) 1 3 = _
        rw [upd2_s, upd_s, nI_1]
theorem rn40_ok (hP : PB P) (hn : 97 ≤ nx) {rec : Dt → Int32 → Option (Int32 × Dt)} {Q : Int32 × Dt → Prop} {t k sep a : Nat} (ht : t < 3) (h : TX D m v) (hj : D 1 3 = nI i) (hi : i ≤ m + 2) (h3 : D 3 t = nI a) (ha : a < 100) (hs : sep < 127) (hy : la m v i = sep → ∀ E, FrT D E → E 3 = D 3 → E 1 3 = nI (i + 1) → OkP Q (rec E (nI (t + 1)))) (hno : la m v i ≠ sep → OkP Q (some (0, D))) : OkP Q (f_T_readNumbers_40 N nx rec D P 1 (nI k) (nI t) (nI sep)) := by
  have hm := h.2.1
  have hl := la_le (i := i) h
  unfold f_T_readNumbers_40
  refine ok_nn (hP.at (by decide) (show P0 1 1 = some 3 from rfl)) (ok_t (ab_ok (t := 3) (N := 3) (kd_at (by omega) rfl) ht (by decide)) ?_)
  rw [cl (by omega), h3, hj]
  refine ok_f (nI_nneg (by omega)) (ok_call (letterAt_eq hP hn h (by omega)) ?_)
  by_cases q : la m v i = sep
  · refine ok_t (by rw [q]) (ok_pas ?_)
    rw [nI_1, nI_1]
    exact hy q _ FrT.at (upd2_n (by decide)) (by rw [upd2_s, upd_s])
  · exact ok_f (by rw [nI_inj (by omega) (by omega)]; exact q) (hno q)
theorem rn_step (hP : PB P) (hn : 97 ≤ nx) {rec : Dt → Int32 → Option (Int32 × Dt)} {Q : Int32 × Dt → Prop} {t k : Nat} (ht : t < k) (hk : k ≤ 3) (h : TX D m v) (h3 : D 1 3 = nI i) (hi : i ≤ m) (hrec : ∀ a j E, stp m v i (if t + 1 = k then 59 else 44) = some (a, j) → FrT D E → E 3 t = nI a → (∀ u, u ≠ t → E 3 u = D 3 u) → E 1 3 = nI j → OkP Q (rec E (nI (t + 1)))) (hno : stp m v i (if t + 1 = k then 59 else 44) = none → ∀ E, FrT D E → OkP Q (some (0, E))) : OkP Q (f_T_readNumbers_2 N nx P 1 (nI k) rec D (nI t)) := by
  have hm := h.2.1
  unfold f_T_readNumbers_2
  refine ok_f (i2_lt ht (by omega)) (ok_nn (hP.at (by decide) (show P0 1 1 = some 3 from rfl)) ?_)
  have hk3 : kd nx 3 = 30003 := kd_at (by omega) rfl
  rw [hk3]
  refine ok_t (Or.inl rfl) (ok_f (by show ¬ nI 3 ≤ nI t; exact i2_lt (by omega) (by omega)) (ok_bind (readNumber_ok hP hn h h3 (by omega)) ?_))
  rintro ⟨z, E⟩ ⟨hfr, he3, hz⟩
  have hfr : FrT D E := hfr
  have he3 : E 3 = D 3 := he3
  refine ok_t (ab_ok (t := 3) (N := 3) hk3 (by omega) (by decide)) (ok_pas ?_)
  rw [cl (by omega)]
  show OkP Q (if nI t = nI k - 1 then f_T_readNumbers_40 N nx rec (upd2 E 3 t z) P 1 (nI k) (nI t) 59 else f_T_readNumbers_40 N nx rec (upd2 E 3 t z) P 1 (nI k) (nI t) 44)
  have hkm : nI k - 1 = nI (k - 1) := pk_sub (b := 1) (by omega)
  have hfr2 : FrT D (upd2 E 3 t z) := hfr.tr FrT.n
  have key : ∀ sep, sep < 127 → sep = (if t + 1 = k then 59 else 44) → OkP Q (f_T_readNumbers_40 N nx rec (upd2 E 3 t z) P 1 (nI k) (nI t) (nI sep)) := by
    intro sep hs127 hs
    cases en : num m v i with
    | none =>
      rw [en] at hz
      have hz : z = -1 := hz
      subst hz
      unfold f_T_readNumbers_40
      refine ok_nn (hP.at (by decide) (show P0 1 1 = some 3 from rfl)) (ok_t (ab_ok (t := 3) (N := 3) hk3 (by omega) (by decide)) (ok_t ?_ (hno ?_ _ hfr2)))
      · rw [cl (by omega), upd2_s, upd_s]; decide
      · unfold stp; rw [en]
    | some x =>
      rw [en] at hz
      have hz : z = nI x.1 ∧ E 1 3 = nI x.2 := hz
      have hx := num_lt en
      refine rn40_ok hP hn (by omega) (h.fr hfr2) (i := x.2) (a := x.1) ?_ (by omega) ?_ (by omega) hs127 (fun hq F hF1 hF2 hF3 => hrec x.1 (x.2 + 1) F ?_ (hfr2.tr hF1) ?_ ?_ hF3) (fun hq => hno ?_ _ hfr2)
      · rw [upd2_n (by decide)]; exact hz.2
      · rw [upd2_s, upd_s]; exact hz.1
      · unfold stp; rw [en, ← hs]; exact if_pos hq
      · rw [hF2, upd2_s, upd_s]; exact hz.1
      · intro u hu
        rw [hF2, upd2_s, upd_n hu, he3]
      · unfold stp; rw [en, ← hs]; exact if_neg hq
  by_cases q : t + 1 = k
  · rw [if_pos (by rw [hkm, show k - 1 = t by omega])]
    exact key 59 (by decide) (by rw [if_pos q])
  · rw [if_neg (by rw [hkm, nI_inj (by omega) (by omega)]; omega)]
    exact key 44 (by decide) (by rw [if_neg q])
theorem rn_end (hP : PB P) (hn : 97 ≤ nx) {rec : Dt → Int32 → Option (Int32 × Dt)} {Q : Int32 × Dt → Prop} {k : Nat} (hk : k ≤ 3) (h : Q (1, D)) : OkP Q (f_T_readNumbers_2 N nx P 1 (nI k) rec D (nI k)) := by
  unfold f_T_readNumbers_2
  exact ok_t (i2_ge (Nat.le_refl _) (by omega)) (ok_some h)
theorem rn1_ok (hP : PB P) (hn : 97 ≤ nx) (h : TX D m v) (h3 : D 1 3 = nI i) (hi : i ≤ m) (hN : 100 ≤ N) : OkP (fun z => FrT D z.2 ∧ match stp m v i 59 with | none => z.1 = (0 : Int32) | some x => z.1 = (1 : Int32) ∧ z.2 3 0 = nI x.1 ∧ z.2 1 3 = nI x.2) (f_T_readNumbers N nx D P 1 1) := by
  obtain ⟨M, rfl⟩ : ∃ M, N = M + 4 := ⟨N - 4, by omega⟩
  unfold f_T_readNumbers
  refine ok_t (kd_at (by omega) rfl) ?_
  show OkP _ (f_T_readNumbers_2 (M + 4) nx P 1 (nI 1) (wk2 (M + 3) (f_T_readNumbers_2 (M + 4) nx P 1 1)) D (nI 0))
  refine rn_step hP hn (by decide) (by decide) h h3 hi (fun a j E hs hf ha hu hj => ?_) (fun hs E hf => ok_some ⟨hf, ?_⟩)
  · show OkP _ (f_T_readNumbers_2 (M + 4) nx P 1 (nI 1) (wk2 (M + 2) (f_T_readNumbers_2 (M + 4) nx P 1 1)) E (nI 1))
    have hs : stp m v i 59 = some (a, j) := hs
    rw [hs]
    exact rn_end hP hn (by decide) ⟨hf, rfl, ha, hj⟩
  · have hs : stp m v i 59 = none := hs
    rw [hs]
theorem rn3_ok (hP : PB P) (hn : 97 ≤ nx) (h : TX D m v) (h3 : D 1 3 = nI i) (hi : i ≤ m) (hN : 100 ≤ N) : OkP (fun z => FrT D z.2 ∧ match tri m v i with | none => z.1 = (0 : Int32) | some x => z.1 = (1 : Int32) ∧ z.2 3 0 = nI x.1 ∧ z.2 3 1 = nI x.2.1 ∧ z.2 3 2 = nI x.2.2.1 ∧ z.2 1 3 = nI x.2.2.2) (f_T_readNumbers N nx D P 1 3) := by
  obtain ⟨M, rfl⟩ : ∃ M, N = M + 4 := ⟨N - 4, by omega⟩
  unfold f_T_readNumbers
  refine ok_t (kd_at (by omega) rfl) ?_
  show OkP _ (f_T_readNumbers_2 (M + 4) nx P 1 (nI 3) (wk2 (M + 3) (f_T_readNumbers_2 (M + 4) nx P 1 3)) D (nI 0))
  refine rn_step hP hn (by decide) (by decide) h h3 hi (fun a j E hs hf ha hu hj => ?_) (fun hs E hf => ok_some ⟨hf, ?_⟩)
  · have hs : stp m v i 44 = some (a, j) := hs
    have hl := stp_lt hs (by decide)
    show OkP _ (f_T_readNumbers_2 (M + 4) nx P 1 (nI 3) (wk2 (M + 2) (f_T_readNumbers_2 (M + 4) nx P 1 3)) E (nI 1))
    refine rn_step hP hn (by decide) (by decide) (h.fr hf) hj hl.2.2 (fun b j2 E2 hs2 hf2 hb hu2 hj2 => ?_) (fun hs2 E2 hf2 => ok_some ⟨hf.tr hf2, ?_⟩)
    · have hs2 : stp m v j 44 = some (b, j2) := hs2
      have hl2 := stp_lt hs2 (by decide)
      show OkP _ (f_T_readNumbers_2 (M + 4) nx P 1 (nI 3) (wk2 (M + 1) (f_T_readNumbers_2 (M + 4) nx P 1 3)) E2 (nI 2))
      refine rn_step hP hn (by decide) (by decide) ((h.fr hf).fr hf2) hj2 hl2.2.2 (fun c j3 E3 hs3 hf3 hc hu3 hj3 => ?_) (fun hs3 E3 hf3 => ok_some ⟨(hf.tr hf2).tr hf3, ?_⟩)
      · have hs3 : stp m v j2 59 = some (c, j3) := hs3
        show OkP _ (f_T_readNumbers_2 (M + 4) nx P 1 (nI 3) (wk2 M (f_T_readNumbers_2 (M + 4) nx P 1 3)) E3 (nI 3))
        refine rn_end hP hn (by decide) ⟨(hf.tr hf2).tr hf3, ?_⟩
        have e : tri m v i = some (a, b, c, j3) := by
          unfold tri; rw [hs]; show (stp m v j 44).bind _ = _; rw [hs2]; show (stp m v j2 59).bind _ = _; rw [hs3]; rfl
        rw [e]
        refine ⟨rfl, ?_, ?_, hc, hj3⟩
        · show E3 3 0 = _
          rw [hu3 0 (by decide), hu2 0 (by decide), ha]
        · show E3 3 1 = _
          rw [hu3 1 (by decide), hb]
      · have hs3 : stp m v j2 59 = none := hs3
        have e : tri m v i = none := by
          unfold tri; rw [hs]; show (stp m v j 44).bind _ = _; rw [hs2]; show (stp m v j2 59).bind _ = _; rw [hs3]; rfl
        rw [e]
    · have hs2 : stp m v j 44 = none := hs2
      have e : tri m v i = none := by
        unfold tri; rw [hs]; show (stp m v j 44).bind _ = _; rw [hs2]; rfl
      rw [e]
  · have hs : stp m v i 44 = none := hs
    have e : tri m v i = none := by
      unfold tri; rw [hs]; rfl
    rw [e]
end RD
