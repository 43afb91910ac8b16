/-! standings one upon the other -/
def ShA (nx : Nat) (P : Ft) (b c : Nat) : Prop := kd nx b = 6 ∧ kd nx (b + 1) = 40000 + c ∧ P b 0 = some (b + 1) ∧ 1 ≤ c ∧ c ≤ 8 ∧ ∀ j, j < c → StA nx P (b + 2 + 3 * j)
def Rws (P : Ft) (b c : Nat) (g : Nat → Nat) : Prop := (∀ i, i < c → P (b + 1) i = some (g i)) ∧ (∀ i, i < c → ∃ j, j < c ∧ g i = b + 2 + 3 * j) ∧ (∀ i j, i < c → j < c → g i = g j → i = j)
def ShR (D : Dt) (P : Ft) (b c m : Nat) (u : Nat → St) : Prop := D b 1 = nI m ∧ m ≤ c ∧ ∃ g : Nat → Nat, Rws P b c g ∧ ∀ i, i < m → CS D (g i) (u i)
/-- nothing but the shelf's own cells has changed -/
def FrS (D D' : Dt) (b c : Nat) : Prop := ∀ q, q ≠ b → (q < b + 2 ∨ b + 2 + 3 * c ≤ q) → D' q = D q
theorem CS.fr {D D' : Dt} {a b : Nat} {s : St} (h : CS D a s) (hf : Fr3 D D' b) (hab : a + 3 ≤ b ∨ b + 3 ≤ a) : CS D' a s := by
  unfold CS
  rw [hf a (by omega) (by omega) (by omega), hf (a + 1) (by omega) (by omega) (by omega), hf (a + 2) (by omega) (by omega) (by omega)]
  exact h
theorem CS.at1 {D D' : Dt} {a : Nat} {s : St} (h : CS D a s) (h0 : D' a = D a) (h1 : D' (a + 1) = D (a + 1)) (h2 : D' (a + 2) = D (a + 2)) : CS D' a s := by
  unfold CS
  rw [h0, h1, h2]; exact h
section SH2
variable {N nx a b c : Nat} {D : Dt} {P : Ft} {s : St}
theorem rowAt_in (hA : ShA nx P b c) {g : Nat → Nat} (hg : Rws P b c g) (i : Nat) (hi : i < c) : f_S_rowAt N nx D P b (nI i) = some (some (g i)) := by
  obtain ⟨k1, k2, p0, hc1, hc8, -⟩ := hA
  have e1 : kd nx (b + 1) / 10000 = 4 := by rw [k2]; omega
  have e2 : kd nx (b + 1) % 10000 = c := by rw [k2]; omega
  unfold f_S_rowAt
  rw [if_pos k1, if_neg (nI_nneg (by omega)), p0, nn_some, if_pos (Or.inr e1), e2, if_neg (show ¬ Int32.ofNat c ≤ nI i from i2_lt (n := c) hi (by omega)), if_pos (ab_ok (t := 4) (N := c) k2 hi (by omega)), cl (by omega), hg.1 i hi]
  rfl
theorem rowAt_neg (hA : ShA nx P b c) {x : Int32} (hx : x < 0) : f_S_rowAt N nx D P b x = some none := by
  unfold f_S_rowAt
  rw [if_pos hA.1, if_pos hx]
theorem put16_ok (hA : ShA nx P b c) (hs : StA nx P a) (hab : a + 3 ≤ b ∨ b + 2 + 3 * c ≤ a) {m : Nat} {u : Nat → St} (h : ShR D P b c m u) (hm : m < c) (hc : CS D a s) (hN : 100 ≤ N) : OkP (fun z => z.2 = P ∧ ShR z.1 P b c (m + 1) (fun i => if i = m then s else u i) ∧ FrS D z.1 b c) (f_S_put_16 N nx D P b a) := by
  obtain ⟨h1, h2, g, hg, hu⟩ := h
  have hc8 := hA.2.2.2.2.1
  obtain ⟨j, hj, ej⟩ := hg.2.1 m hm
  have hst := hA.2.2.2.2.2 j hj
  rw [← ej] at hst
  unfold f_S_put_16
  rw [h1]
  refine ok_call (rowAt_in hA hg m hm) (ok_orS rfl (ok_t hst.1 (ok_bind (copyFrom_ok hst hs (by omega) hc hN) (fun E hE => ok_pas (ok_some ⟨rfl, ⟨?_, by omega, g, hg, fun i hi => ?_⟩, ?_⟩)))))
  · show upd2 E b 1 _ b 1 = _
    rw [upd2_s, upd_s, hE.2 b (by omega) (by omega) (by omega), h1, nI_1]
  · have hbi : ∃ j', j' < c ∧ g i = b + 2 + 3 * j' := hg.2.1 i (by omega)
    obtain ⟨j', hj', ej'⟩ := hbi
    have hE' : CS E (g i) (if i = m then s else u i) := by
      by_cases q : i = m
      · subst q; rw [if_pos rfl]; exact hE.1
      · rw [if_neg q]
        have hne : g i ≠ g m := fun e => q (hg.2.2 i m (by omega) hm e)
        exact (hu i (by omega)).fr hE.2 (by omega)
    refine hE'.at1 ?_ ?_ ?_ <;> exact upd2_n (by omega)
  · intro q hq1 hq2
    show upd2 E _ _ _ q = _
    rw [upd2_n hq1]; exact hE.2 q (by omega) (by omega) (by omega)
theorem put_in (hA : ShA nx P b c) (hs : StA nx P a) (hab : a + 3 ≤ b ∨ b + 2 + 3 * c ≤ a) {m : Nat} {u : Nat → St} (h : ShR D P b c m u) (hm : m < c) (hc : CS D a s) (hN : 100 ≤ N) : OkP (fun z => z.2 = P ∧ ShR z.1 P b c (m + 1) (fun i => if i = m then s else u i) ∧ FrS D z.1 b c) (f_S_put N nx D P b a) := by
  obtain ⟨k1, k2, p0, hc1, hc8, -⟩ := id hA
  have e1 : kd nx (b + 1) / 10000 = 4 := by rw [k2]; omega
  have e2 : kd nx (b + 1) % 10000 = c := by rw [k2]; omega
  unfold f_S_put
  refine ok_t k1 (ok_nn p0 (ok_t (Or.inr e1) ?_))
  rw [e2, h.1]
  exact ok_t (by show nI m < nI c; rw [nI_lt' (by omega) (by omega)]; exact hm) (put16_ok hA hs hab h hm hc hN)
theorem take_none (hA : ShA nx P b c) {u : Nat → St} (h : ShR D P b c 0 u) : f_S_take N nx D P b a = some (0, D) := by
  unfold f_S_take
  rw [if_pos hA.1, h.1, rowAt_neg hA (by decide)]
  rfl
theorem take_ok (hA : ShA nx P b c) (hs : StA nx P a) (hab : a + 3 ≤ b ∨ b + 2 + 3 * c ≤ a) {m : Nat} {u : Nat → St} (h : ShR D P b c (m + 1) u) (hN : 100 ≤ N) : OkP (fun z => z.1 = 1 ∧ ShR z.2 P b c m u ∧ CS z.2 a (u m) ∧ ∀ q, q ≠ b → q ≠ a → q ≠ a + 1 → q ≠ a + 2 → z.2 q = D q) (f_S_take N nx D P b a) := by
  obtain ⟨h1, h2, g, hg, hu⟩ := h
  have hc8 := hA.2.2.2.2.1
  obtain ⟨j, hj, ej⟩ := hg.2.1 m (by omega)
  have hst := hA.2.2.2.2.2 j hj
  rw [← ej] at hst
  have hm1 : nI (m + 1) - 1 = nI m := nI_pred m
  unfold f_S_take
  rw [h1, hm1]
  refine ok_t hA.1 (ok_call (rowAt_in hA hg m (by omega)) (ok_orS rfl (ok_t hs.1 (ok_bind (copyFrom_ok hs hst (by omega) (hu m (by omega)) hN) (fun E hE => ok_pas (ok_some ⟨rfl, ⟨?_, by omega, g, hg, fun i hi => ?_⟩, ?_, ?_⟩))))))
  · show upd2 E b 1 _ b 1 = _
    rw [upd2_s, upd_s, hE.2 b (by omega) (by omega) (by omega), h1, hm1]
  · obtain ⟨j', hj', ej'⟩ := hg.2.1 i (by omega)
    have hE' := (hu i (by omega)).fr hE.2 (by omega)
    refine hE'.at1 ?_ ?_ ?_ <;> exact upd2_n (by omega)
  · refine hE.1.at1 ?_ ?_ ?_ <;> exact upd2_n (by omega)
  · intro q h1 h2 h3 h4
    show upd2 E b 1 _ q = _
    rw [upd2_n h1]; exact hE.2 q h2 h3 h4
/-- the oldest comes to the end -/
theorem dropOldest_ok (hA : ShA nx P b c) {u : Nat → St} (h : ShR D P b c c u) (hP : PB P) (hb : b = 20) (hn : 97 ≤ nx) (hN : 100 ≤ N) : OkP (fun z => ShR z.1 z.2 b c (c - 1) (fun i => u (i + 1)) ∧ PB z.2 ∧ ∀ q, q ≠ b → z.1 q = D q) (f_S_dropOldest N nx D P b) := by
  obtain ⟨h1, h2, g, hg, hu⟩ := h
  obtain ⟨k1, k2, p0, hc1, hc8, hst⟩ := id hA
  have e1 : kd nx (b + 1) / 10000 = 4 := by rw [k2]; omega
  have e2 : kd nx (b + 1) % 10000 = c := by rw [k2]; omega
  have er : f_S_rowAt N nx D P b 0 = some (some (g 0)) := rowAt_in hA hg 0 (by omega)
  unfold f_S_dropOldest
  refine ok_t k1 (ok_call er (ok_orS rfl ?_))
  refine wk2_run (I := fun t E i => (∀ j, j < c → E (b + 1) j = some (if j < t then g (j + 1) else g j)) ∧ (∀ q k, q ≠ b + 1 → E q k = P q k) ∧ i = nI (t + 1)) (c - 1) N _ _ (by omega) ⟨fun j hj => by rw [if_neg (Nat.not_lt_zero j)]; exact hg.1 j hj, fun q k _ => rfl, rfl⟩ ?_ ?_
  · rintro t ht E i ⟨hE, hk, rfl⟩ rec hrec
    unfold f_S_dropOldest_13
    have hx : E (b + 1) (t + 1) = some (g (t + 1)) := by rw [hE (t + 1) (by omega), if_neg (by omega)]
    obtain ⟨j, hj, ej⟩ := hg.2.1 (t + 1) (by omega)
    have hkd : kd nx (g (t + 1)) = 7 := by rw [ej]; exact (hst j hj).1
    refine ok_nn ((hk b 0 (by omega)).trans p0) (ok_t (Or.inr e1) ?_)
    rw [e2]
    refine ok_f (i2_lt (n := c) (by omega) (by omega)) (ok_t (ab_ok (t := 4) (N := c) k2 (by omega) (by omega)) ?_)
    rw [cl (by omega)]
    refine ok_nn hx (ok_t hkd ?_)
    rw [nI_pred]
    refine ok_t (ab_ok (t := 4) (N := c) k2 (by omega) (by omega)) (ok_pas ?_)
    rw [cl (by omega)]
    refine hrec _ _ ⟨fun j hj => ?_, fun q k hq => ?_, nI_1 (t + 1)⟩
    · rw [updF_s]
      show (if j = t then some (g (t + 1)) else E (b + 1) j) = _
      by_cases q : j = t
      · subst q; rw [if_pos rfl, if_pos (by omega)]
      · rw [if_neg q, hE j hj]
        by_cases w : j < t
        · rw [if_pos w, if_pos (by omega)]
        · rw [if_neg w, if_neg (by omega)]
    · rw [updF_n hq]; exact hk q k hq
  · rintro E i ⟨hE, hk, rfl⟩ rec
    obtain ⟨j, hj, ej⟩ := hg.2.1 0 (by omega)
    have hkd : kd nx (g 0) = 7 := by rw [ej]; exact (hst j hj).1
    have hlen : Int32.ofNat (kd nx (b + 1) % 10000) - 1 = nI (c - 1) := by rw [e2]; exact pk_sub (b := 1) hc1
    unfold f_S_dropOldest_13
    refine ok_nn ((hk b 0 (by omega)).trans p0) (ok_t (Or.inr e1) ?_)
    rw [show (c - 1 + 1) = c by omega]
    refine ok_t (by rw [e2]; exact i2_ge (Nat.le_refl c) (by omega)) (ok_t (Or.inr e1) (ok_t hkd ?_))
    rw [hlen]
    refine ok_t (ab_ok (t := 4) (N := c) k2 (by omega) (by omega)) (ok_pas ?_)
    rw [cl (by omega)]
    have hPn : ∀ q k, q ≠ b + 1 → updF E (b + 1) (c - 1) (some (g 0)) q k = P q k := fun q k hq => by rw [updF_n hq]; exact hk q k hq
    refine ok_nn ((hPn b 0 (by omega)).trans p0) (ok_t (Or.inr e1) ?_)
    rw [hlen]
    refine ok_pas (ok_some ⟨⟨?_, by omega, fun i => if i = c - 1 then g 0 else g (i + 1), ⟨fun i hi => ?_, fun i hi => ?_, fun i j hi hj e => ?_⟩, fun i hi => ?_⟩, fun a k ha => ?_, fun q hq => upd2_n hq⟩)
    · show upd2 D b 1 _ b 1 = _
      rw [upd2_s, upd_s]
    · show updF _ _ _ _ _ i = _
      rw [updF_s]
      show (if i = c - 1 then some (g 0) else E (b + 1) i) = some (if i = c - 1 then g 0 else g (i + 1))
      by_cases q : i = c - 1
      · rw [if_pos q, if_pos q]
      · rw [if_neg q, if_neg q, hE i hi, if_pos (by omega)]
    · show ∃ j, j < c ∧ (if i = c - 1 then g 0 else g (i + 1)) = _
      split
      · exact hg.2.1 0 (by omega)
      · exact hg.2.1 (i + 1) (by omega)
    · have e' : (if i = c - 1 then g 0 else g (i + 1)) = (if j = c - 1 then g 0 else g (j + 1)) := e
      by_cases q : i = c - 1
      · by_cases w : j = c - 1
        · omega
        · rw [if_pos q, if_neg w] at e'
          have := hg.2.2 0 (j + 1) (by omega) (by omega) e'
          omega
      · by_cases w : j = c - 1
        · rw [if_neg q, if_pos w] at e'
          have := hg.2.2 (i + 1) 0 (by omega) (by omega) e'
          omega
        · rw [if_neg q, if_neg w] at e'
          have := hg.2.2 (i + 1) (j + 1) (by omega) (by omega) e'
          omega
    · show CS (upd2 D b 1 _) (if i = c - 1 then g 0 else g (i + 1)) (u (i + 1))
      rw [if_neg (by omega)]
      obtain ⟨j', hj', ej'⟩ := hg.2.1 (i + 1) (by omega)
      refine (hu (i + 1) (by omega)).at1 ?_ ?_ ?_ <;> exact upd2_n (by omega)
    · show updF _ _ _ _ a k = _
      rw [hPn a k (by omega)]; exact hP a k ha
end SH2
theorem ShA.of20 {nx : Nat} {P : Ft} (hP : PB P) (hn : 97 ≤ nx) : ShA nx P 20 8 := ⟨kd_at (by omega) rfl, kd_at (by omega) rfl, hP.at (by decide) rfl, by decide, by decide, fun j hj => StA.of hP hn ((by decide : ∀ j, j < 8 → 20 + 2 + 3 * j ∈ SL) j hj)⟩
theorem ShA.of46 {nx : Nat} {P : Ft} (hP : PB P) (hn : 97 ≤ nx) : ShA nx P 46 2 := ⟨kd_at (by omega) rfl, kd_at (by omega) rfl, hP.at (by decide) rfl, by decide, by decide, fun j hj => StA.of hP hn ((by decide : ∀ j, j < 2 → 46 + 2 + 3 * j ∈ SL) j hj)⟩
/-- what is kept of the ways back: the last eight -/
def pushN (m : Nat) : Nat := if m < 8 then m + 1 else 8
def pushU (m : Nat) (u : Nat → St) (s : St) : Nat → St := if m < 8 then (fun i => if i = m then s else u i) else (fun i => if i = 7 then s else u (i + 1))
theorem put20 {N nx : Nat} {D : Dt} {P : Ft} {s : St} (hP : PB P) (hn : 97 ≤ nx) {m : Nat} {u : Nat → St} (h : ShR D P 20 8 m u) (hc : CS D 14 s) (hN : 100 ≤ N) : OkP (fun z => PB z.2 ∧ ShR z.1 z.2 20 8 (pushN m) (pushU m u s) ∧ FrS D z.1 20 8) (f_S_put N nx D P 20 14) := by
  have hA := ShA.of20 hP hn
  have hs : StA nx P 14 := StA.of hP hn (by decide)
  rcases Nat.lt_or_ge m 8 with q | q
  · refine ok_imp (put_in hA hs (by omega) h q hc hN) (fun z hz => ?_)
    unfold pushN pushU
    rw [if_pos q, if_pos q, hz.1]
    exact ⟨hP, hz.2⟩
  · have hm : m = 8 := by have := h.2.1; omega
    subst hm
    obtain ⟨k1, k2, p0, hc1, hc8, -⟩ := id hA
    unfold f_S_put
    refine ok_t k1 (ok_nn p0 (ok_t (Or.inr (by rw [k2])) ?_))
    rw [k2, h.1]
    refine ok_f (by decide) (ok_bind (dropOldest_ok hA h hP rfl hn hN) (fun z hz => ?_))
    refine ok_imp (put16_ok (ShA.of20 hz.2.1 hn) (StA.of hz.2.1 hn (by decide)) (by omega) hz.1 (by decide) (hc.at1 (hz.2.2 _ (by decide)) (hz.2.2 _ (by decide)) (hz.2.2 _ (by decide))) hN) (fun w hw => ?_)
    refine ⟨by rw [hw.1]; exact hz.2.1, ?_, fun q h1 h2 => (hw.2.2 q h1 h2).trans (hz.2.2 q h1)⟩
    rw [hw.1]
    exact hw.2.1
