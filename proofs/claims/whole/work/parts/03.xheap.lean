/-! what an instruction does to the heap; calls; ends -/
abbrev MV (y : MethodName) (b : ByteArray) (nL : Nat) (rt : Option FieldType) (n : Nat) : Prop :=
  Cond.code y b nL rt ∈ wT ∧ Cond.instanceMethod y ∈ wT ∧ Cond.selects y.cls y y ∈ wT ∧ Cond.initialized y.cls ∈ wT ∧ y.cls ≠ "java/lang/invoke/MethodHandle" ∧ y.cls ≠ "java/lang/invoke/VarHandle" ∧ (parseMethodDescriptor y.desc).map (fun d => d.parameters.length) = some n
abbrev MS (y : MethodName) (b : ByteArray) (nL : Nat) (rt : Option FieldType) (n : Nat) : Prop :=
  Cond.code y b nL rt ∈ wT ∧ Cond.static y ∈ wT ∧ Cond.initialized y.cls ∈ wT ∧ y.cls ≠ "java/lang/invoke/MethodHandle" ∧ y.cls ≠ "java/lang/invoke/VarHandle" ∧ (parseMethodDescriptor y.desc).map (fun d => d.parameters.length) = some n
abbrev MI (y : MethodName) (b : ByteArray) (nL : Nat) (n : Nat) : Prop :=
  Cond.code y b nL none ∈ wT ∧ Cond.instanceMethod y ∈ wT ∧ y.name = "<init>" ∧ Cond.initialized y.cls ∈ wT ∧ y.cls ≠ "java/lang/invoke/MethodHandle" ∧ y.cls ≠ "java/lang/invoke/VarHandle" ∧ (parseMethodDescriptor y.desc).map (fun d => d.parameters.length) = some n
theorem wT_good {w : Cond} (h : w ∈ wT) : goodWord w = true := (List.mem_filter.mp h).2
theorem good_wT {y : MethodName} {b : ByteArray} {nL : Nat} {rt : Option FieldType} (h : Cond.code y b nL rt ∈ wT) : GoodIn wT (.code y b nL rt :: wT) := by
  intro w hw
  rcases List.mem_cons.mp hw with rfl | q
  · exact ⟨h, good_of_word (wT_good h)⟩
  · exact ⟨q, good_of_word (wT_good q)⟩
theorem rep_obj {cx : Cx} {D : Dt} {P : Ft} {nx a ci n : Nat} {C : String} {T : u_T} {H : Heap} (hR : Rep cx D P nx H) (hk : kd nx a = ci) (hc : vwCl[ci]? = some (C, T, n)) : va_at cx.1 vwCl (cx.2.2 + a, .inr (ci, flds cx ci (D a) (P a))) H := by
  have hlt := cls_lt hc
  obtain ⟨h1, h2⟩ := kd_lt (nx := nx) (a := a) (by omega)
  have h3 := hR.2 a h1
  rw [h2, hk, cellE_obj hlt] at h3
  exact h3
section XH
variable {p : Program} {l : Launch} {e : Env} {R : Room} {s : State} {m : MethodId} {args : Array Value} {below : List Frame} {meth : Method} {c : Code} {Q : State → Prop} {cx : Cx} {b : ByteArray} {nL : Nat} {rt : Option FieldType} {own mn : String} {D : Dt} {P : Ft} {nx cells slots pc : Nat} {lv : List (Nat × Value)} {st : List Value}
theorem x_get (X : XC p s m args meth c cx b nL rt own mn) {idx ci k n a : Nat} {C : String} {T : u_T} {v : Value} (hd : decode b pc = .ok (.getfield idx, 3)) (hk : kd nx a = ci) (hc : vwCl[ci]? = some (C, T, n)) (hkn : k < n) (hw : Cond.fieldLink own idx (T k).1 (T k).2.1 (T k).2.2.1 ∈ wT) (hv : (flds cx ci (D a) (P a))[k]? = some v) (kk : XW p l e R s m args below meth c Q cx nL D P nx cells slots (pc + 3) lv (v :: st)) : XW p l e R s m args below meth c Q cx nL D P nx cells slots pc lv (.ref (cx.2.2 + a) :: st) := by
  intro H locs ls hR hS hl
  obtain ⟨hx, hb, hml, hr, hown, hts, hK, hlk, hmn⟩ := X
  exact va_get (D := cx.1) (cl := vwCl) (tys := tysOf cx) hx hb hts (cls_all hc).1 hown hK.1 (va_P1 (rep_obj hR hk hc)) 0 rfl hc k hkn (hts _ hw) (fun x h => h) hv hd (kk H locs ls hR hS hl)
/-- an int of an object -/
theorem x_geti (X : XC p s m args meth c cx b nL rt own mn) {idx ci k n a : Nat} {C : String} {T : u_T} (hd : decode b pc = .ok (.getfield idx, 3)) (hk : kd nx a = ci) (hc : vwCl[ci]? = some (C, T, n)) (hkn : k < n) (hw : Cond.fieldLink own idx (T k).1 (T k).2.1 (T k).2.2.1 ∈ wT) (hi : isI ci k = true) (kk : XW p l e R s m args below meth c Q cx nL D P nx cells slots (pc + 3) lv (.int (D a k) :: st)) : XW p l e R s m args below meth c Q cx nL D P nx cells slots pc lv (.ref (cx.2.2 + a) :: st) := by
  refine x_get X hd hk hc hkn hw ?_ kk
  have hn := cls_nfs hc
  simp [flds, hn, hkn, fld, hi]
/-- a reference of an object, known -/
theorem x_getr (X : XC p s m args meth c cx b nL rt own mn) {idx ci k n a q : Nat} {C : String} {T : u_T} (hd : decode b pc = .ok (.getfield idx, 3)) (hk : kd nx a = ci) (hc : vwCl[ci]? = some (C, T, n)) (hkn : k < n) (hw : Cond.fieldLink own idx (T k).1 (T k).2.1 (T k).2.2.1 ∈ wT) (hi : isI ci k = false) (hq : P a k = some q) (kk : XW p l e R s m args below meth c Q cx nL D P nx cells slots (pc + 3) lv (.ref (cx.2.2 + q) :: st)) : XW p l e R s m args below meth c Q cx nL D P nx cells slots pc lv (.ref (cx.2.2 + a) :: st) := by
  refine x_get X hd hk hc hkn hw ?_ kk
  have hn := cls_nfs hc
  simp [flds, hn, hkn, fld, hi, hq, rv, va_rf]
theorem x_put0 (X : XC p s m args meth c cx b nL rt own mn) {idx ci k n a : Nat} {C : String} {T : u_T} {ty : FieldType} {v : Value} {D' : Dt} {P' : Ft} (hd : decode b pc = .ok (.putfield idx, 3)) (hk : kd nx a = ci) (hc : vwCl[ci]? = some (C, T, n)) (hkn : k < n) (hw : Cond.fieldLink own idx (T k).1 (T k).2.1 (T k).2.2.1 ∈ wT) (hfin : (T k).2.2.2 = false ∨ (mn = "<init>" ∧ (T k).1 = own)) (hty : parseFieldDescriptor (T k).2.2.1 = some ty) (hn : narrow ty v = v) (hfit : fits ty v = true) (hD : ∀ q, q ≠ a → D' q = D q) (hP : ∀ q, q ≠ a → P' q = P q) (hf : flds cx ci (D' a) (P' a) = (flds cx ci (D a) (P a)).set k v) (kk : XW p l e R s m args below meth c Q cx nL D' P' nx cells slots (pc + 3) lv st) : XW p l e R s m args below meth c Q cx nL D P nx cells slots pc lv (v :: .ref (cx.2.2 + a) :: st) := by
  intro H locs ls hR hS hl
  obtain ⟨hx, hb, hml, hr, hown, hts, hK, hlk, hmn⟩ := X
  obtain ⟨hin, ty0, hty0, hnm⟩ := cls_all hc
  have hlt10 := cls_lt hc
  have hkd2 := (kd_lt (nx := nx) (a := a) (by omega)).2
  have hap := va_apart (own := own) hts hin ty0 hty0 hnm hK.1 hc
  obtain ⟨r, h1, cell, q1, q2, q3, q4⟩ := rep_obj hR hk hc
  have hr' : r = (C, T, n) := Option.some.inj (h1.symm.trans hc)
  subst hr'
  obtain ⟨hSl, hfc, kC, hkC, hkind⟩ := hK.1.1 ci _ hc
  obtain ⟨cf, kf, fi, f, hi, hsl⟩ := hSl k hkn
  have hlay := hts _ (hin _ (u_in_lay hkn))
  have hst := (u_facts hfc hkC (u_lays hts hin hkn) hi).1
  have hl2 : k < (flds cx ci (D a) (P a)).length := by rw [flds_len, cls_nfs hc]; exact hkn
  have fin : ∀ H' : Heap, H'[cx.2.2 + a]? = some (cell.setSlot f.slot v) → H'.size = H.size → (∀ q : Nat, q ≠ cx.2.2 + a → H'[q]? = H[q]?) → ∀ locs1, locs1 = locs ++ [(⟨cx.2.2 + a, f.slot⟩ : Loc)] → W p l e R s m args below meth c H' locs1 cells slots Q (F0 m (pc + 3) ls st) := by
    intro H' e1 e2 e3 locs1 hlo
    subst hlo
    rw [hsl] at e1
    refine kk H' _ ls (hR.upd e2 e3 ?_ hD hP) (hS.put e2 e3 AA_add) hl
    rw [hkd2, hk, cellE_obj hlt10, hf]
    exact ⟨_, hc, t_OB.to (V := updV (vp_V (flds cx ci (D a) (P a))) k v) ⟨_, e1, q2, q3, t_set q4 hap hkn v⟩ (fun j _ => vp_updV_set hl2 v j)⟩
  by_cases hff : (T k).2.2.2 = false
  · unfold u_lay at hlay
    rw [if_neg (by rw [hff]; decide)] at hlay
    have h6 := u_store hfc hkC hkind hlay hi hty hn hfit
    exact W.putK hx hb (f := f) ⟨hown, hts _ hw, ⟨_, _, _, hi⟩, hst⟩ (by rw [q2]; exact h6) q1 q3 (by rw [hsl]; exact k2_hasslot (q4 k hkn)) rfl rfl hd fun H' e1 e2 e3 => fin H' e1 e2 e3 _ rfl
  · have hft : (T k).2.2.2 = true := by revert hff; cases (T k).2.2.2 <;> simp
    obtain ⟨hin2, hdecl⟩ : mn = "<init>" ∧ (T k).1 = own := hfin.resolve_left hff
    unfold u_lay at hlay
    rw [if_pos hft] at hlay
    have hcf : m.cls = cf := by
      obtain ⟨_, _, c', _, _, _, -, -, hf', -, -, -, hown2, -⟩ := Cond.laysFinal_spec hlay
      have e1 : c' = cf := by have := hi.symm.trans hf'; simp at this; exact this.1.symm
      rw [hdecl] at hown2
      rw [← e1]; exact Option.some.inj (hown.symm.trans hown2)
    have h6 := u_fits hfc hkC hkind (Or.inr hlay) hi hty hn hfit
    exact W.putFinK hx hb hown (hts _ hw) hi hst hcf (hmn.trans hin2) (by rw [q2]; exact h6) q1 q3 (by rw [hsl]; exact k2_hasslot (q4 k hkn)) rfl rfl hd fun H' e1 e2 e3 => fin H' e1 e2 e3 _ rfl
theorem x_puti (X : XC p s m args meth c cx b nL rt own mn) {idx ci k n a : Nat} {C : String} {T : u_T} {x : Int32} {D' : Dt} (hd : decode b pc = .ok (.putfield idx, 3)) (hk : kd nx a = ci) (hc : vwCl[ci]? = some (C, T, n)) (hkn : k < n) (hw : Cond.fieldLink own idx (T k).1 (T k).2.1 (T k).2.2.1 ∈ wT) (hfin : (T k).2.2.2 = false) (hty : parseFieldDescriptor (T k).2.2.1 = some .int) (hi : isI ci k = true) (hD : D' = upd2 D a k x) (kk : XW p l e R s m args below meth c Q cx nL D' P nx cells slots (pc + 3) lv st) : XW p l e R s m args below meth c Q cx nL D P nx cells slots pc lv (.int x :: .ref (cx.2.2 + a) :: st) := by
  subst hD
  exact x_put0 X hd hk hc hkn hw (Or.inl hfin) hty rfl rfl (fun q h => upd2_n h) (fun q h => rfl) (by rw [upd2_s, flds_setI hi]) kk
theorem x_putz (X : XC p s m args meth c cx b nL rt own mn) {idx ci k n a : Nat} {C : String} {T : u_T} {x : Int32} {D' : Dt} (hd : decode b pc = .ok (.putfield idx, 3)) (hk : kd nx a = ci) (hc : vwCl[ci]? = some (C, T, n)) (hkn : k < n) (hw : Cond.fieldLink own idx (T k).1 (T k).2.1 (T k).2.2.1 ∈ wT) (hfin : (T k).2.2.2 = false) (hty : parseFieldDescriptor (T k).2.2.1 = some .boolean) (hi : isI ci k = true) (hx : x = 0 ∨ x = 1) (hD : D' = upd2 D a k x) (kk : XW p l e R s m args below meth c Q cx nL D' P nx cells slots (pc + 3) lv st) : XW p l e R s m args below meth c Q cx nL D P nx cells slots pc lv (.int x :: .ref (cx.2.2 + a) :: st) := by
  subst hD
  exact x_put0 X hd hk hc hkn hw (Or.inl hfin) hty (by rcases hx with rfl | rfl <;> rfl) (by rcases hx with rfl | rfl <;> rfl) (fun q h => upd2_n h) (fun q h => rfl) (by rw [upd2_s, flds_setI hi]) kk
/-- a final reference, in a constructor -/
theorem x_putr (X : XC p s m args meth c cx b nL rt own "<init>") {idx ci k n a q : Nat} {C : String} {T : u_T} {ty : FieldType} {P' : Ft} (hd : decode b pc = .ok (.putfield idx, 3)) (hk : kd nx a = ci) (hc : vwCl[ci]? = some (C, T, n)) (hkn : k < n) (hw : Cond.fieldLink own idx (T k).1 (T k).2.1 (T k).2.2.1 ∈ wT) (hdecl : (T k).1 = own) (hty : parseFieldDescriptor (T k).2.2.1 = some ty) (hrty : (∃ C, ty = .object C) ∨ ∃ t, ty = .array t) (hi : isI ci k = false) (hP : P' = updF P a k (some q)) (kk : XW p l e R s m args below meth c Q cx nL D P' nx cells slots (pc + 3) lv st) : XW p l e R s m args below meth c Q cx nL D P nx cells slots pc lv (.ref (cx.2.2 + q) :: .ref (cx.2.2 + a) :: st) := by
  subst hP
  refine x_put0 X hd hk hc hkn hw (Or.inr ⟨rfl, hdecl⟩) hty (by rcases hrty with ⟨C, rfl⟩ | ⟨t, rfl⟩ <;> rfl) (by rcases hrty with ⟨C, rfl⟩ | ⟨t, rfl⟩ <;> rfl) (fun q h => rfl) (fun q h => updF_n h) ?_ kk
  rw [updF_s, flds_setR hi]
  rfl
theorem x_iald (X : XC p s m args meth c cx b nL rt own mn) {i : Int32} {a : Nat} (hd : decode b pc = .ok (.iaload, 1)) (hg : ab nx a 3 i = true) (kk : XW p l e R s m args below meth c Q cx nL D P nx cells slots (pc + 1) lv (.int (D a i.toNatClampNeg) :: st)) : XW p l e R s m args below meth c Q cx nL D P nx cells slots pc lv (.int i :: .ref (cx.2.2 + a) :: st) := by
  intro H locs ls hR hS hl
  obtain ⟨h1, h2, h3⟩ := ab_sp hg (by decide)
  have h4 := hR.2 a h1
  rw [cellE_3 h2] at h4
  exact va_iald (D := cx.1) (cl := vwCl) (tys := tysOf cx) X.1 X.2.1 X.2.2.2.2.2.2.1.1 (va_P1 h4) 0 2 rfl rfl h3 hd (kk H locs ls hR hS hl)
theorem x_bald (X : XC p s m args meth c cx b nL rt own mn) {i : Int32} {a : Nat} (hd : decode b pc = .ok (.baload, 1)) (hg : ab nx a 1 i = true) (kk : XW p l e R s m args below meth c Q cx nL D P nx cells slots (pc + 1) lv (.int (D a i.toNatClampNeg) :: st)) : XW p l e R s m args below meth c Q cx nL D P nx cells slots pc lv (.int i :: .ref (cx.2.2 + a) :: st) := by
  intro H locs ls hR hS hl
  obtain ⟨h1, h2, h3⟩ := ab_sp hg (by decide)
  have h4 := hR.2 a h1
  rw [cellE_1 h2] at h4
  exact va_bald (D := cx.1) (cl := vwCl) (tys := tysOf cx) X.1 X.2.1 X.2.2.2.2.2.2.1.1 (va_P1 h4) 0 0 rfl rfl h3 hd (kk H locs ls hR hS hl)
theorem x_cald (X : XC p s m args meth c cx b nL rt own mn) {i : Int32} {a : Nat} (hd : decode b pc = .ok (.caload, 1)) (hg : ab nx a 2 i = true) (kk : XW p l e R s m args below meth c Q cx nL D P nx cells slots (pc + 1) lv (.int (D a i.toNatClampNeg) :: st)) : XW p l e R s m args below meth c Q cx nL D P nx cells slots pc lv (.int i :: .ref (cx.2.2 + a) :: st) := by
  intro H locs ls hR hS hl
  obtain ⟨h1, h2, h3⟩ := ab_sp hg (by decide)
  have h4 := hR.2 a h1
  rw [cellE_2 h2] at h4
  exact va_cald (D := cx.1) (cl := vwCl) (tys := tysOf cx) X.1 X.2.1 X.2.2.2.2.2.2.1.1 (va_P1 h4) 0 1 rfl rfl h3 hd (kk H locs ls hR hS hl)
theorem x_aald (X : XC p s m args meth c cx b nL rt own mn) {i : Int32} {a q : Nat} (hd : decode b pc = .ok (.aaload, 1)) (hg : ab nx a 4 i = true) (hq : P a i.toNatClampNeg = some q) (kk : XW p l e R s m args below meth c Q cx nL D P nx cells slots (pc + 1) lv (.ref (cx.2.2 + q) :: st)) : XW p l e R s m args below meth c Q cx nL D P nx cells slots pc lv (.int i :: .ref (cx.2.2 + a) :: st) := by
  intro H locs ls hR hS hl
  obtain ⟨h1, h2, h3⟩ := ab_sp hg (by decide)
  have h4 := hR.2 a h1
  rw [cellE_4 h2] at h4
  refine va_aldq (D := cx.1) (cl := vwCl) (tys := tysOf cx) X.1 X.2.1 X.2.2.2.2.2.2.1.1 (va_P1 h4) 0 3 rfl rfl h3 hd ?_
  show W p l e R s m args below meth c H locs cells slots Q (F0 m (pc + 1) ls (va_rf ((P a i.toNatClampNeg).map fun q => cx.2.2 + q) :: st))
  rw [hq]
  exact kk H locs ls hR hS hl
theorem x_alen (X : XC p s m args meth c cx b nL rt own mn) {a k : Nat} {v : Int32} (hd : decode b pc = .ok (.arraylength, 1)) (hk : kd nx a = k) (ht : k / 10000 = 3 ∨ k / 10000 = 4) (hv : Int32.ofNat (k % 10000) = v) (kk : XW p l e R s m args below meth c Q cx nL D P nx cells slots (pc + 1) lv (.int v :: st)) : XW p l e R s m args below meth c Q cx nL D P nx cells slots pc lv (.ref (cx.2.2 + a) :: st) := by
  intro H locs ls hR hS hl
  obtain ⟨h1, h2⟩ := kd_lt (nx := nx) (a := a) (by omega)
  have h4 := hR.2 a h1
  rw [h2, hk] at h4
  rcases ht with h3 | h3
  · rw [cellE_3 h3] at h4
    exact va_alen (D := cx.1) (cl := vwCl) (tys := tysOf cx) X.1 X.2.1 X.2.2.2.2.2.2.1.1 (va_P1 h4) 0 2 rfl rfl hv hd (kk H locs ls hR hS hl)
  · rw [cellE_4 h3] at h4
    exact va_alen (D := cx.1) (cl := vwCl) (tys := tysOf cx) X.1 X.2.1 X.2.2.2.2.2.2.1.1 (va_P1 h4) 0 3 rfl rfl hv hd (kk H locs ls hR hS hl)
theorem x_iast (X : XC p s m args meth c cx b nL rt own mn) {i x : Int32} {a : Nat} {D' : Dt} (hd : decode b pc = .ok (.iastore, 1)) (hg : ab nx a 3 i = true) (hD : D' = upd2 D a i.toNatClampNeg x) (kk : XW p l e R s m args below meth c Q cx nL D' P nx cells slots (pc + 1) lv st) : XW p l e R s m args below meth c Q cx nL D P nx cells slots pc lv (.int x :: .int i :: .ref (cx.2.2 + a) :: st) := by
  subst hD
  intro H locs ls hR hS hl
  obtain ⟨h1, h2, hin⟩ := ab_sp hg (by decide)
  have h4 := hR.2 a h1
  rw [cellE_3 h2] at h4
  have hArr := (X.2.2.2.2.2.2.1.1.2 2 _ rfl).1
  refine W.iast X.1 X.2.1 h4 (hArr (SH a % 10000) (fun j => .int (D a j))) (fun q => by cases q) (by show ¬ (i < 0 ∨ (arrV _ _ _).slots.size ≤ _); rw [arrV_size]; exact hin) rfl rfl hd fun H1 e z oq => ?_
  refine kk H1 _ ls (hR.upd z oq ?_ (fun q h => upd2_n h) (fun q h => rfl)) (hS.put z oq AA_add) hl
  rw [cellE_3 h2]
  show H1[cx.2.2 + a]? = some (vp_cell _ _)
  rw [e]
  rw [vp_cell_i, vp_cell_i, arrV_store]
  congr 2
  funext q
  rw [upd2_s]
  by_cases hq : q = i.toNatClampNeg
  · subst hq
    simp [updV, upd]
  · simp [updV, upd, hq]
theorem x_bast (X : XC p s m args meth c cx b nL rt own mn) {i x : Int32} {a : Nat} {D' : Dt} (hd : decode b pc = .ok (.bastore, 1)) (hg : ab nx a 1 i = true) (hD : D' = upd2 D a i.toNatClampNeg (vp_nar .byte x)) (kk : XW p l e R s m args below meth c Q cx nL D' P nx cells slots (pc + 1) lv st) : XW p l e R s m args below meth c Q cx nL D P nx cells slots pc lv (.int x :: .int i :: .ref (cx.2.2 + a) :: st) := by
  subst hD
  intro H locs ls hR hS hl
  obtain ⟨h1, h2, hin⟩ := ab_sp hg (by decide)
  have h4 := hR.2 a h1
  rw [cellE_1 h2] at h4
  have hArr := (X.2.2.2.2.2.2.1.1.2 0 _ rfl).1
  refine W.bast X.1 X.2.1 h4 (hArr (SH a % 10000) (fun j => .int (D a j))) (fun q => by cases q) (by show ¬ (i < 0 ∨ (arrV _ _ _).slots.size ≤ _); rw [arrV_size]; exact hin) rfl rfl hd fun H1 e z oq => ?_
  refine kk H1 _ ls (hR.upd z oq ?_ (fun q h => upd2_n h) (fun q h => rfl)) (hS.put z oq AA_add) hl
  rw [cellE_1 h2]
  show H1[cx.2.2 + a]? = some (vp_cell _ _)
  rw [e]
  rw [vp_cell_i, vp_cell_i, arrV_store]
  congr 2
  funext q
  rw [upd2_s]
  by_cases hq : q = i.toNatClampNeg
  · subst hq
    simp [updV, upd, vp_nar, narrow]
  · simp [updV, upd, hq]
theorem x_cast (X : XC p s m args meth c cx b nL rt own mn) {i x : Int32} {a : Nat} {D' : Dt} (hd : decode b pc = .ok (.castore, 1)) (hg : ab nx a 2 i = true) (hD : D' = upd2 D a i.toNatClampNeg (vp_nar .char x)) (kk : XW p l e R s m args below meth c Q cx nL D' P nx cells slots (pc + 1) lv st) : XW p l e R s m args below meth c Q cx nL D P nx cells slots pc lv (.int x :: .int i :: .ref (cx.2.2 + a) :: st) := by
  subst hD
  intro H locs ls hR hS hl
  obtain ⟨h1, h2, hin⟩ := ab_sp hg (by decide)
  have h4 := hR.2 a h1
  rw [cellE_2 h2] at h4
  have hArr := (X.2.2.2.2.2.2.1.1.2 1 _ rfl).1
  refine W.cast X.1 X.2.1 h4 (hArr (SH a % 10000) (fun j => .int (D a j))) (fun q => by cases q) (by show ¬ (i < 0 ∨ (arrV _ _ _).slots.size ≤ _); rw [arrV_size]; exact hin) rfl rfl hd fun H1 e z oq => ?_
  refine kk H1 _ ls (hR.upd z oq ?_ (fun q h => upd2_n h) (fun q h => rfl)) (hS.put z oq AA_add) hl
  rw [cellE_2 h2]
  show H1[cx.2.2 + a]? = some (vp_cell _ _)
  rw [e]
  rw [vp_cell_i, vp_cell_i, arrV_store]
  congr 2
  funext q
  rw [upd2_s]
  by_cases hq : q = i.toNatClampNeg
  · subst hq
    simp [updV, upd, vp_nar, narrow]
  · simp [updV, upd, hq]
theorem x_aast (X : XC p s m args meth c cx b nL rt own mn) {i : Int32} {a v : Nat} {P' : Ft} (hd : decode b pc = .ok (.aastore, 1)) (hg : ab nx a 4 i = true) (hv : kd nx v = 7) (hP : P' = updF P a i.toNatClampNeg (some v)) (kk : XW p l e R s m args below meth c Q cx nL D P' nx cells slots (pc + 1) lv st) : XW p l e R s m args below meth c Q cx nL D P nx cells slots pc lv (.ref (cx.2.2 + v) :: .int i :: .ref (cx.2.2 + a) :: st) := by
  subst hP
  intro H locs ls hR hS hl
  obtain ⟨h1, h2, hin⟩ := ab_sp hg (by decide)
  have h4 := hR.2 a h1
  rw [cellE_4 h2] at h4
  have hc : vwCl[7]? = some (RX7, TX7, 5) := rfl
  have hlt : i.toNatClampNeg < SH a % 10000 := Nat.not_le.mp fun q => hin (Or.inr q)
  have h0 : ¬ i < 0 := fun q => hin (Or.inl q)
  obtain ⟨r', hr', cellV, g1, g2, g3, -⟩ := rep_obj hR hv hc
  have hcls := (X.2.2.2.2.2.2.1.1.1 7 _ hc).2
  obtain ⟨kA, comp, k1, k2, k3, -⟩ := (X.2.2.2.2.2.2.1.1.2 3 _ rfl).2
  have hcomp : comp = cx.1.1 7 := Option.some.inj (k3.symm.trans hcls.1)
  subst hcomp
  obtain ⟨kC, hkC, -⟩ := hcls.2
  refine W.aast X.1 X.2.1 h4 (fun q h => by cases h) (fun h => by cases h) k1 k2 rfl hkC ⟨h0, by show _ < (arrV _ _ _).slots.size; rw [arrV_size]; exact hlt⟩ g1 (fun q h => by rw [g3] at h; cases h) (by rw [g2]; exact hkC) (by rw [g2]; exact va_assign hcls) rfl rfl hd fun H1 e z oq => ?_
  refine kk H1 _ ls (hR.upd z oq ?_ (fun q h => rfl) (fun q h => updF_n h)) (hS.put z oq AA_add) hl
  rw [cellE_4 h2]
  show H1[cx.2.2 + a]? = some (vp_cell _ _)
  rw [e]
  rw [vp_cell_q, vp_cell_q, arrV_store]
  congr 2
  funext q
  rw [updF_s]
  by_cases hq : q = i.toNatClampNeg
  · subst hq
    simp [updV, va_up, va_rf]
  · simp [updV, va_up, hq]
/-- a call's way back -/
theorem x_back {mc ms : Nat} {st' st0 : List Value} {ov : Option Value} {D' : Dt} {P' : Ft} {nx' : Nat} {a : Array Value} {H : Heap} {locs : List Loc} {ls : Array Slot}
    (hr : va_Run p l e R s m args below meth c H locs cells slots mc ms (F0 m pc ls st0) st (Qx cx ov D' P' nx' a) (AA cx)) (hS : va_S (AA cx) s.heap H locs) (hl : lv_has ls nL lv) (hst : ov.toList ++ st = st')
    (kk : XW p l e R s m args below meth c Q cx nL D' P' nx' (cells + mc) (slots + ms) (pc + 3) lv st') : W p l e R s m args below meth c H locs cells slots Q (F0 m pc ls st0) := by
  subst hst
  intro T hT X
  obtain ⟨v, st₀, t, T', L, h0, X', hL, e1, e2, ⟨hv, hW, hz, hk⟩, stp⟩ := hr T hT X
  cases hv
  rw [h0] at hz hk
  obtain ⟨t2, a1, b1⟩ := kk T'.heap (locs ++ L) ls (by rw [e1]; exact hW.1) ⟨Nat.le_trans hS.1 (by rw [e1]; exact hz), fun q h1 h2 => by rw [e1, hk q (Nat.lt_of_lt_of_le h1 hS.1) h2]; exact hS.2.1 q h1 h2, fun q hq => by
      rcases List.mem_append.mp hq with h | h
      · exact hS.2.2 q h
      · exact hL q h⟩ hl T' rfl X'
  exact ⟨t2, stp t2 a1, b1⟩
theorem Wd.pre {H : Heap} {U : State} (hR : Rep cx D P nx H) (hK : KK cx s) (hU : U.heap = H) (hW : s.WarmedH U.vm) : Wd cx D P nx U := ⟨by rw [hU]; exact hR, hK.warm hW⟩
theorem x_callV (X : XC p s m args meth c cx b nL rt own mn) {idx ci n a lvl nL' nA : Nat} {C : String} {T : u_T} {y : MethodName} {b' : ByteArray} {rt' : Option FieldType} {As : List Value} {st0 st' : List Value} {ov : Option Value} {D' : Dt} {P' : Ft}
    (hM : Ct l cx y b' nL' rt' lvl (.ref (cx.2.2 + a) :: As) D P nx ov D' P') (hd : decode b pc = .ok (.invokevirtual idx, 3)) (hw : Cond.methodLink own idx y ∈ wT) (hm : MV y b' nL' rt' nA) (hn : As.length = nA) (hk : kd nx a = ci) (hc : vwCl[ci]? = some (C, T, n)) (hC : y.cls = C) (hR : lvl + 1 ≤ R.frames ∧ 8 + (nL' + 11) + 60 * lvl ≤ R.locals) (hf : cells ≤ R.cells ∧ slots ≤ R.slots) (hs0 : As.reverse ++ .ref (cx.2.2 + a) :: st = st0) (hcat : (st.map fun v => v.category).sum ≤ 8) (hst : ov.toList ++ st = st')
    (kk : XW p l e R s m args below meth c Q cx nL D' P' nx cells slots (pc + 3) lv st') : XW p l e R s m args below meth c Q cx nL D P nx cells slots pc lv st0 := by
  subst hs0
  intro H locs ls hRp hS hl
  obtain ⟨hx, hb, hml, hr, hown, hts, hK, hlk, hmn⟩ := X
  obtain ⟨m1, m2, m3, m4, m5, m6, m7⟩ := hm
  obtain ⟨r', hr', cellB, g1, g2, g3, -⟩ := rep_obj hRp hk hc
  refine x_back (mc := 0) (ms := 0) (va_runV (C := C) (As := As) (rest := st) (nL := nL) ⟨hx, hb, hml, hown, hts⟩ hM ⟨callB_of nA hts (good_wT m1) rfl rfl rfl (hts _ m4) (hts _ hw) ⟨m5, m6, m7⟩ hR, hts _ m2, ?_⟩ ⟨Wd.blind, ⟨cellB, g1, by rw [g3]; rfl, ?_⟩, fun U hU hW => ⟨rfl, Wd.pre hRp hK hU hW⟩⟩ rfl hn hl.1 rfl (lv_room hcat) hd ⟨hf.1, hf.2⟩) hS hl hst kk
  · rw [← hC]; exact hts _ m3
  · rw [g2]; exact (hK.1.1 ci _ hc).2.1
theorem x_callS (X : XC p s m args meth c cx b nL rt own mn) {idx lvl nL' nA : Nat} {y : MethodName} {b' : ByteArray} {rt' : Option FieldType} {As : List Value} {st0 st' : List Value} {ov : Option Value} {D' : Dt} {P' : Ft}
    (hM : Ct l cx y b' nL' rt' lvl As D P nx ov D' P') (hd : decode b pc = .ok (.invokestatic idx, 3)) (hw : Cond.methodLink own idx y ∈ wT) (hm : MS y b' nL' rt' nA) (hn : As.length = nA) (hR : lvl + 1 ≤ R.frames ∧ 8 + (nL' + 11) + 60 * lvl ≤ R.locals) (hf : cells ≤ R.cells ∧ slots ≤ R.slots) (hs0 : As.reverse ++ st = st0) (hcat : (st.map fun v => v.category).sum ≤ 8) (hst : ov.toList ++ st = st')
    (kk : XW p l e R s m args below meth c Q cx nL D' P' nx cells slots (pc + 3) lv st') : XW p l e R s m args below meth c Q cx nL D P nx cells slots pc lv st0 := by
  subst hs0
  intro H locs ls hRp hS hl
  obtain ⟨hx, hb, hml, hr, hown, hts, hK, hlk, hmn⟩ := X
  obtain ⟨m1, m2, m4, m5, m6, m7⟩ := hm
  exact x_back (mc := 0) (ms := 0) (va_runS (As := As) (rest := st) (nL := nL) ⟨hx, hb, hml, hown, hts⟩ hM ⟨callB_of nA hts (good_wT m1) rfl rfl rfl (hts _ m4) (hts _ hw) ⟨m5, m6, m7⟩ hR, hts _ m2⟩ ⟨Wd.blind, fun U hU hW => ⟨rfl, Wd.pre hRp hK hU hW⟩⟩ rfl hn hl.1 rfl (lv_room hcat) hd ⟨hf.1, hf.2⟩) hS hl hst kk
theorem x_callSN (X : XC p s m args meth c cx b nL rt own mn) {idx lvl nL' nA : Nat} {host : String} {y : MethodName} {b' : ByteArray} {rt' : Option FieldType} {As : List Value} {st0 st' : List Value} {ov : Option Value} {D' : Dt} {P' : Ft}
    (hM : Ct l cx y b' nL' rt' lvl As D P nx ov D' P') (hd : decode b pc = .ok (.invokestatic idx, 3)) (hw : Cond.methodLinkNest own idx y host ∈ nestW) (hm : MS y b' nL' rt' nA) (hn : As.length = nA) (hR : lvl + 1 ≤ R.frames ∧ 8 + (nL' + 11) + 60 * lvl ≤ R.locals) (hf : cells ≤ R.cells ∧ slots ≤ R.slots) (hs0 : As.reverse ++ st = st0) (hcat : (st.map fun v => v.category).sum ≤ 8) (hst : ov.toList ++ st = st')
    (kk : XW p l e R s m args below meth c Q cx nL D' P' nx cells slots (pc + 3) lv st') : XW p l e R s m args below meth c Q cx nL D P nx cells slots pc lv st0 := by
  subst hs0
  intro H locs ls hRp hS hl
  obtain ⟨hx, hb, hml, hr, hown, hts, hK, hlk, hmn⟩ := X
  obtain ⟨m1, m2, m4, m5, m6, m7⟩ := hm
  exact x_back (mc := 0) (ms := 0) (va_runSN (As := As) (rest := st) (nL := nL) ⟨hx, hb, hml, hown, hts⟩ hM ⟨va_cnB nA hts (good_wT m1) rfl rfl rfl (hK.2.1 _ hw) (hts _ m4) ⟨m5, m6, m7⟩ hR, hts _ m2, trivial⟩ ⟨Wd.blind, fun U hU hW => ⟨rfl, Wd.pre hRp hK hU hW⟩⟩ rfl hn hl.1 rfl (lv_room hcat) hd ⟨hf.1, hf.2⟩) hS hl hst kk
theorem x_callI (X : XC p s m args meth c cx b nL rt own mn) {idx a lvl nL' nA mc ms nx' : Nat} {y : MethodName} {b' : ByteArray} {As : List Value} {st0 : List Value} {D' : Dt} {P' : Ft}
    (hM : Cc l cx y b' nL' lvl mc ms (.ref (cx.2.2 + a) :: As) D P nx D' P' nx') (hd : decode b pc = .ok (.invokespecial idx, 3)) (hw : Cond.methodLink own idx y ∈ wT) (hm : MI y b' nL' nA) (hn : As.length = nA) (hR : lvl + 1 ≤ R.frames ∧ 8 + (nL' + 11) + 60 * lvl ≤ R.locals) (hf : cells + mc ≤ R.cells ∧ slots + ms ≤ R.slots) (hs0 : As.reverse ++ .ref (cx.2.2 + a) :: st = st0) (hcat : (st.map fun v => v.category).sum ≤ 8)
    (kk : XW p l e R s m args below meth c Q cx nL D' P' nx' (cells + mc) (slots + ms) (pc + 3) lv st) : XW p l e R s m args below meth c Q cx nL D P nx cells slots pc lv st0 := by
  subst hs0
  intro H locs ls hRp hS hl
  obtain ⟨hx, hb, hml, hr, hown, hts, hK, hlk, hmn⟩ := X
  obtain ⟨m1, m2, m3, m4, m5, m6, m7⟩ := hm
  exact x_back (mc := mc) (ms := ms) (va_runI (As := As) (rest := st) (nL := nL) ⟨hx, hb, hml, hown, hts⟩ hM ⟨callB_of nA hts (good_wT m1) rfl rfl rfl (hts _ m4) (hts _ hw) ⟨m5, m6, m7⟩ hR, m3, hts _ m2⟩ ⟨Wd.blind, fun U hU hW => ⟨rfl, Wd.pre hRp hK hU hW⟩⟩ rfl hn hl.1 rfl (lv_room hcat) hd hf) hS hl rfl kk
theorem x_callIN (X : XC p s m args meth c cx b nL rt own mn) {idx a lvl nL' nA mc ms nx' : Nat} {host : String} {y : MethodName} {b' : ByteArray} {As : List Value} {st0 : List Value} {D' : Dt} {P' : Ft}
    (hM : Cc l cx y b' nL' lvl mc ms (.ref (cx.2.2 + a) :: As) D P nx D' P' nx') (hd : decode b pc = .ok (.invokespecial idx, 3)) (hw : Cond.methodLinkNest own idx y host ∈ nestW) (hm : MI y b' nL' nA) (hn : As.length = nA) (hR : lvl + 1 ≤ R.frames ∧ 8 + (nL' + 11) + 60 * lvl ≤ R.locals) (hf : cells + mc ≤ R.cells ∧ slots + ms ≤ R.slots) (hs0 : As.reverse ++ .ref (cx.2.2 + a) :: st = st0) (hcat : (st.map fun v => v.category).sum ≤ 8)
    (kk : XW p l e R s m args below meth c Q cx nL D' P' nx' (cells + mc) (slots + ms) (pc + 3) lv st) : XW p l e R s m args below meth c Q cx nL D P nx cells slots pc lv st0 := by
  subst hs0
  intro H locs ls hRp hS hl
  obtain ⟨hx, hb, hml, hr, hown, hts, hK, hlk, hmn⟩ := X
  obtain ⟨m1, m2, m3, m4, m5, m6, m7⟩ := hm
  exact x_back (mc := mc) (ms := ms) (va_runIN (As := As) (rest := st) (nL := nL) ⟨hx, hb, hml, hown, hts⟩ hM ⟨va_cnB nA hts (good_wT m1) rfl rfl rfl (hK.2.1 _ hw) (hts _ m4) ⟨m5, m6, m7⟩ hR, m3, hts _ m2⟩ ⟨Wd.blind, fun U hU hW => ⟨rfl, Wd.pre hRp hK hU hW⟩⟩ rfl hn hl.1 rfl (lv_room hcat) hd hf) hS hl rfl kk
theorem x_objInit (X : XC p s m args meth c cx b nL rt own mn) {idx : Nat} {a : Addr} (hd : decode b pc = .ok (.invokespecial idx, 3)) (hw : Cond.methodLink own idx Lib.objectInit ∈ wT) (h2 : Cond.instanceMethod Lib.objectInit ∈ wT) (h3 : Cond.code Lib.objectInit ⟨#[0xb1]⟩ 1 none ∈ wT) (hR : 1 ≤ R.frames ∧ 20 ≤ R.locals) (hcat : (st.map fun v => v.category).sum ≤ 8)
    (kk : XW p l e R s m args below meth c Q cx nL D P nx cells slots (pc + 3) lv st) : XW p l e R s m args below meth c Q cx nL D P nx cells slots pc lv (.ref a :: st) := by
  intro H locs ls hRp hS hl
  obtain ⟨hx, hb, hml, hr, hown, hts, hK, hlk, hmn⟩ := X
  exact W.objInit hx hb hown (hts _ hw) (hts _ h2) (hts _ h3) rfl (by rw [hml]; exact hl.1) rfl hd hR.1 (by show 2 * 0 + _ + 12 ≤ _; omega) (kk H locs ls hRp hS hl)
theorem x_mmax (X : XC p s m args meth c cx b nL rt own mn) {idx : Nat} {x y : Int32} (hd : decode b pc = .ok (.invokestatic idx, 3)) (hw : Cond.methodLink own idx Lib.Math.max.name ∈ wT) (hR : 1 ≤ R.frames ∧ 21 ≤ R.locals) (hf : cells ≤ R.cells ∧ slots ≤ R.slots) (hcat : (st.map fun v => v.category).sum ≤ 8) (kk : XW p l e R s m args below meth c Q cx nL D P nx cells slots (pc + 3) lv (.int (if x < y then y else x) :: st)) : XW p l e R s m args below meth c Q cx nL D P nx cells slots pc lv (.int y :: .int x :: st) := by
  intro H locs ls hRp hS hl
  obtain ⟨hx, hb, hml, hr, hown, hts, hK, hlk, hmn⟩ := X
  exact va_mmax hx hb (by rw [hml]; exact hl.1.symm) hown (hts _ hw) (hts _ (mT 178 (by decide +kernel) rfl)) (hts _ (mT 59 (by decide +kernel) rfl)) (hts _ (mT 179 (by decide +kernel) rfl)) hR.1 (by omega) hf.1 hf.2 hd (kk H locs ls hRp hS hl)
theorem x_mmin (X : XC p s m args meth c cx b nL rt own mn) {idx : Nat} {x y : Int32} (hd : decode b pc = .ok (.invokestatic idx, 3)) (hw : Cond.methodLink own idx Lib.Math.min.name ∈ wT) (hR : 1 ≤ R.frames ∧ 21 ≤ R.locals) (hf : cells ≤ R.cells ∧ slots ≤ R.slots) (hcat : (st.map fun v => v.category).sum ≤ 8) (kk : XW p l e R s m args below meth c Q cx nL D P nx cells slots (pc + 3) lv (.int (if y < x then y else x) :: st)) : XW p l e R s m args below meth c Q cx nL D P nx cells slots pc lv (.int y :: .int x :: st) := by
  intro H locs ls hRp hS hl
  obtain ⟨hx, hb, hml, hr, hown, hts, hK, hlk, hmn⟩ := X
  exact va_mmin hx hb (by rw [hml]; exact hl.1.symm) hown (hts _ hw) (hts _ (mT 618 (by decide +kernel) rfl)) (hts _ (mT 59 (by decide +kernel) rfl)) (hts _ (mT 619 (by decide +kernel) rfl)) hR.1 (by omega) hf.1 hf.2 hd (kk H locs ls hRp hS hl)
theorem x_vret (X : XC p s m args meth c cx b nL none own mn) (hd : decode b pc = .ok (.return_, 1)) : XW p l e R s m args below meth c (MQ below (Qx cx none D P nx) args s cells slots (AA cx)) cx nL D P nx cells slots pc lv [] := by
  intro H locs ls hR hS hl
  obtain ⟨hx, hb, hml, hr, hown, hts, hK, hlk, hmn⟩ := X
  exact W.vret hx hb hr (fun t ht hW => ⟨rfl, Wd.pre hR hK ht hW, hS.F ht⟩) hS.2.2 hd
theorem x_iret (X : XC p s m args meth c cx b nL (some .int) own mn) {v : Int32} (hd : decode b pc = .ok (.ireturn, 1)) : XW p l e R s m args below meth c (MQ below (Qx cx (some (.int v)) D P nx) args s cells slots (AA cx)) cx nL D P nx cells slots pc lv [.int v] := by
  intro H locs ls hR hS hl
  obtain ⟨hx, hb, hml, hr, hown, hts, hK, hlk, hmn⟩ := X
  exact W.iret hx hb hr (fun t ht hW => ⟨rfl, Wd.pre hR hK ht hW, hS.F ht⟩) hS.2.2 hd
theorem x_zret (X : XC p s m args meth c cx b nL (some .boolean) own mn) {v : Int32} (hd : decode b pc = .ok (.ireturn, 1)) (hv : v = 0 ∨ v = 1) : XW p l e R s m args below meth c (MQ below (Qx cx (some (.int v)) D P nx) args s cells slots (AA cx)) cx nL D P nx cells slots pc lv [.int v] := by
  intro H locs ls hR hS hl
  obtain ⟨hx, hb, hml, hr, hown, hts, hK, hlk, hmn⟩ := X
  exact W.zret hx hb hr (by rcases hv with rfl | rfl <;> rfl) (fun t ht hW => ⟨rfl, Wd.pre hR hK ht hW, hS.F ht⟩) hS.2.2 hd
theorem x_cret (X : XC p s m args meth c cx b nL (some .char) own mn) {v : Int32} (hd : decode b pc = .ok (.ireturn, 1)) (hv : (v.toUInt32 % 65536).toInt32 = v) : XW p l e R s m args below meth c (MQ below (Qx cx (some (.int v)) D P nx) args s cells slots (AA cx)) cx nL D P nx cells slots pc lv [.int v] := by
  intro H locs ls hR hS hl
  obtain ⟨hx, hb, hml, hr, hown, hts, hK, hlk, hmn⟩ := X
  exact W.zret hx hb hr (by rw [← hv]; exact pk_nc v) (fun t ht hW => ⟨rfl, Wd.pre hR hK ht hW, hS.F ht⟩) hS.2.2 hd
theorem x_lret (X : XC p s m args meth c cx b nL (some .long) own mn) {v : Int64} (hd : decode b pc = .ok (.lreturn, 1)) : XW p l e R s m args below meth c (MQ below (Qx cx (some (.long v)) D P nx) args s cells slots (AA cx)) cx nL D P nx cells slots pc lv [.long v] := by
  intro H locs ls hR hS hl
  obtain ⟨hx, hb, hml, hr, hown, hts, hK, hlk, hmn⟩ := X
  exact W.lret hx hb hr (fun t ht hW => ⟨rfl, Wd.pre hR hK ht hW, hS.F ht⟩) hS.2.2 hd
theorem x_aret (X : XC p s m args meth c cx b nL rt own mn) {v : Option Nat} {ty : FieldType} (hrt : rt = some ty) (hty : ∃ n, ty = .object n) (hd : decode b pc = .ok (.areturn, 1)) : XW p l e R s m args below meth c (MQ below (Qx cx (some (rv cx v)) D P nx) args s cells slots (AA cx)) cx nL D P nx cells slots pc lv [rv cx v] := by
  intro H locs ls hR hS hl
  obtain ⟨hx, hb, hml, hr, hown, hts, hK, hlk, hmn⟩ := X
  exact W.aret hx hb (hr.trans hrt) (Or.inl hty) (va_rf_or _) (fun t ht hW => ⟨rfl, Wd.pre hR hK ht hW, hS.F ht⟩) hS.2.2 hd
theorem x_new (X : XC p s m args meth c cx b nL rt own mn) {idx ci n : Nat} {C : String} {T : u_T} {D' : Dt} {P' : Ft} (hd : decode b pc = .ok (.new idx, 3)) (hk : SH nx = ci) (hc : vwCl[ci]? = some (C, T, n)) (h1 : Cond.classLink own idx C ∈ wT) (h2 : Cond.instantiable C n ∈ wT) (h3 : Cond.initialized C ∈ wT) (hD : D' = fun q => if q = nx then fun _ => 0 else D q) (hP : P' = fun q => if q = nx then fun _ => none else P q) (hdf : ∀ k, k < n → ∀ ty, parseFieldDescriptor (T k).2.2.1 = some ty → defaultValue ty = if isI ci k = true then .int 0 else .null) (hf : cells + 1 ≤ R.cells ∧ slots + n ≤ R.slots)
    (kk : XW p l e R s m args below meth c Q cx nL D' P' (nx + 1) (cells + 1) (slots + n) (pc + 3) lv (.ref (cx.2.2 + nx) :: st)) : XW p l e R s m args below meth c Q cx nL D P nx cells slots pc lv st := by
  intro H locs ls hR hS hl
  obtain ⟨hx, hb, hml, hr, hown, hts, hK, hlk, hmn⟩ := X
  obtain ⟨hin, ty0, hty0, hnm⟩ := cls_all hc
  have hKn := hK.1.1 ci _ hc
  refine W.newcK hx hb hown (hts _ h1) (hts _ h2) (hts _ h3) rfl hd hf.1 hf.2 hKn.2.1 hR.1 fun H1 kC hkC e1 z1 o1 => ?_
  refine kk H1 _ ls (hR.grow (by rw [z1, hR.1]) (fun q hq => o1 q (by rw [← hR.1]; exact hq)) ?_ ?_ ?_) ⟨Nat.le_trans hS.1 (by rw [hR.1, z1]; omega), fun q g1 g2 => (o1 q (by have := hS.1; rw [hR.1] at this; omega)).trans (hS.2.1 q g1 g2), hS.2.2⟩ hl
  · rw [hk, cellE_obj (cls_lt hc)]
    refine ⟨_, hc, (u_born ty0 hts hin hKn hkC e1 hty0).to fun j hj => ?_⟩
    have hj' : j < nfs ci := by rw [cls_nfs hc]; exact hj
    rw [hdf j hj (ty0 j) (hty0 j hj), hD, hP]
    simp only [vp_V, List.getD_eq_getElem?_getD, flds, List.getElem?_map, List.getElem?_range hj', Option.map_some, Option.getD_some, fld, if_true, rv, Option.map_none, va_rf]
  · intro q hq; rw [hD]; exact if_neg (Nat.ne_of_lt hq)
  · intro q hq; rw [hP]; exact if_neg (Nat.ne_of_lt hq)
theorem arr_default {cA : ClassId} {N : Nat} : arrV cA N (fun _ => (.int 0 : Value)) = vp_cell cA (N, .inl (fun _ => 0)) := rfl
theorem x_newarr (X : XC p s m args meth c cx b nL rt own mn) {atype : ArrayType} {t N : Nat} {x : Int32} {D' : Dt} {P' : Ft} {ty : FieldType} (hd : decode b pc = .ok (.newarray atype, 2)) (hk : SH nx = t * 10000 + N) (hN : N < 10000) (hx0 : ¬ x < 0) (hxN : x.toNatClampNeg = N) (hw : Cond.arrayClass ty ∈ wT) (hD : D' = fun q => if q = nx then fun _ => 0 else D q) (hP : P' = fun q => if q = nx then fun _ => none else P q) (hat : (t = 1 ∧ atype = .byte ∧ ty = .byte) ∨ (t = 2 ∧ atype = .char ∧ ty = .char) ∨ (t = 3 ∧ atype = .int ∧ ty = .int)) (hf : cells + 1 ≤ R.cells ∧ slots + N ≤ R.slots)
    (kk : XW p l e R s m args below meth c Q cx nL D' P' (nx + 1) (cells + 1) (slots + N) (pc + 2) lv (.ref (cx.2.2 + nx) :: st)) : XW p l e R s m args below meth c Q cx nL D P nx cells slots pc lv (.int x :: st) := by
  intro H locs ls hR hS hl
  obtain ⟨hx, hb, hml, hr, hown, hts, hK, hlk, hmn⟩ := X
  have hm : (SH nx) % 10000 = N := by rw [hk]; omega
  have hz : D' nx = fun _ => 0 := by rw [hD]; exact if_pos rfl
  rcases hat with ⟨rfl, rfl, rfl⟩ | ⟨rfl, rfl, rfl⟩ | ⟨rfl, rfl, rfl⟩
  · refine va_newaK (atype := .byte) hx hb (hts _ hw) rfl hd rfl hx0 hxN (by simp [newarray.typeOf, componentBytes]; omega) hf.1 hf.2 hR.1 fun H1 cA e1 z1 o1 hAr hNm => ?_
    have hca : cA = cx.2.1.1 := Option.some.inj (hNm.symm.trans (hK.1.2 0 _ rfl).2)
    subst hca
    refine kk H1 _ ls (hR.grow (by rw [z1, hR.1]) (fun q hq => o1 q (by rw [← hR.1]; exact hq)) ?_ ?_ ?_) ⟨Nat.le_trans hS.1 (by rw [hR.1, z1]; omega), fun q g1 g2 => (o1 q (by have := hS.1; rw [hR.1] at this; omega)).trans (hS.2.1 q g1 g2), hS.2.2⟩ hl
    · rw [cellE_1 (by rw [hk]; omega), hm, hz]
      show H1[_]? = some (vp_cell _ _)
      rw [e1]
      rfl
    · intro q hq; rw [hD]; exact if_neg (Nat.ne_of_lt hq)
    · intro q hq; rw [hP]; exact if_neg (Nat.ne_of_lt hq)
  · refine va_newaK (atype := .char) hx hb (hts _ hw) rfl hd rfl hx0 hxN (by simp [newarray.typeOf, componentBytes]; omega) hf.1 hf.2 hR.1 fun H1 cA e1 z1 o1 hAr hNm => ?_
    have hca : cA = cx.2.1.2.1 := Option.some.inj (hNm.symm.trans (hK.1.2 1 _ rfl).2)
    subst hca
    refine kk H1 _ ls (hR.grow (by rw [z1, hR.1]) (fun q hq => o1 q (by rw [← hR.1]; exact hq)) ?_ ?_ ?_) ⟨Nat.le_trans hS.1 (by rw [hR.1, z1]; omega), fun q g1 g2 => (o1 q (by have := hS.1; rw [hR.1] at this; omega)).trans (hS.2.1 q g1 g2), hS.2.2⟩ hl
    · rw [cellE_2 (by rw [hk]; omega), hm, hz]
      show H1[_]? = some (vp_cell _ _)
      rw [e1]
      rfl
    · intro q hq; rw [hD]; exact if_neg (Nat.ne_of_lt hq)
    · intro q hq; rw [hP]; exact if_neg (Nat.ne_of_lt hq)
  · refine va_newaK (atype := .int) hx hb (hts _ hw) rfl hd rfl hx0 hxN (by simp [newarray.typeOf, componentBytes]; omega) hf.1 hf.2 hR.1 fun H1 cA e1 z1 o1 hAr hNm => ?_
    have hca : cA = cx.2.1.2.2.1 := Option.some.inj (hNm.symm.trans (hK.1.2 2 _ rfl).2)
    subst hca
    refine kk H1 _ ls (hR.grow (by rw [z1, hR.1]) (fun q hq => o1 q (by rw [← hR.1]; exact hq)) ?_ ?_ ?_) ⟨Nat.le_trans hS.1 (by rw [hR.1, z1]; omega), fun q g1 g2 => (o1 q (by have := hS.1; rw [hR.1] at this; omega)).trans (hS.2.1 q g1 g2), hS.2.2⟩ hl
    · rw [cellE_3 (by rw [hk]; omega), hm, hz]
      show H1[_]? = some (vp_cell _ _)
      rw [e1]
      rfl
    · intro q hq; rw [hD]; exact if_neg (Nat.ne_of_lt hq)
    · intro q hq; rw [hP]; exact if_neg (Nat.ne_of_lt hq)
theorem x_anewarr (X : XC p s m args meth c cx b nL rt own mn) {idx N : Nat} {x : Int32} {D' : Dt} {P' : Ft} (hd : decode b pc = .ok (.anewarray idx, 3)) (hk : SH nx = 40000 + N) (hN : N < 10000) (hx0 : ¬ x < 0) (hxN : x.toNatClampNeg = N) (hw : Cond.classLink own idx "HeartPins$Standing" ∈ wT) (hD : D' = fun q => if q = nx then fun _ => 0 else D q) (hP : P' = fun q => if q = nx then fun _ => none else P q) (hf : cells + 1 ≤ R.cells ∧ slots + N ≤ R.slots)
    (kk : XW p l e R s m args below meth c Q cx nL D' P' (nx + 1) (cells + 1) (slots + N) (pc + 3) lv (.ref (cx.2.2 + nx) :: st)) : XW p l e R s m args below meth c Q cx nL D P nx cells slots pc lv (.int x :: st) := by
  intro H locs ls hR hS hl
  obtain ⟨hx, hb, hml, hr, hown, hts, hK, hlk, hmn⟩ := X
  have hm : (SH nx) % 10000 = N := by rw [hk]; omega
  subst hxN
  refine W.anew hx hb hown (hts _ hw) (va_AO.use hK.2.2) rfl hd rfl hx0 (by omega) hf.1 hf.2 fun cA kA comp f1 f2 f3 f4 => ?_
  obtain ⟨kA', comp', g1, g2, g3, g4⟩ := (hK.1.2 3 _ rfl).2
  have hca : cA = cx.2.1.2.2.2 := by
    first
      | exact Option.some.inj (f1.symm.trans g4)
      | exact Option.some.inj (f4.symm.trans g4)
  subst hca
  generalize hH1 : H.push ({ cls := cx.2.1.2.2.2, slots := Array.replicate x.toNatClampNeg .null, vm := .none } : Cell) = H1
  have z1 : H1.size = H.size + 1 := by rw [← hH1, Array.size_push]
  have e1 : H1[H.size]? = some (arrV cx.2.1.2.2.2 x.toNatClampNeg (fun _ => .null)) := by rw [← hH1, Array.getElem?_push_size, ← arrV_new]
  have o1 : ∀ q : Nat, q < H.size → H1[q]? = H[q]? := fun q hq => by rw [← hH1, Array.getElem?_push, if_neg (Nat.ne_of_lt hq)]
  rw [hR.1] at e1
  have := kk H1 locs ls (hR.grow z1 o1 ?_ ?_ ?_) ⟨Nat.le_trans hS.1 (by rw [z1]; omega), fun q g1 g2 => (o1 q (by have := hS.1; omega)).trans (hS.2.1 q g1 g2), hS.2.2⟩ hl
  · rw [← hR.1] at this
    exact this
  · rw [cellE_4 (by rw [hk]; omega), hm]
    show H1[_]? = some (vp_cell _ _)
    rw [e1, vp_cell_q, hP]
    simp [va_rf]
  · intro q hq; rw [hD]; exact if_neg (Nat.ne_of_lt hq)
  · intro q hq; rw [hP]; exact if_neg (Nat.ne_of_lt hq)
end XH
