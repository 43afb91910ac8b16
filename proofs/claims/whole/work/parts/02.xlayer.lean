/-! THE HEAP AS FUNCTIONS: cells by their place in the order of making; ints and references apart; what an instruction does to them -/
abbrev Dt : Type := Nat → Nat → Int32
abbrev Ft : Type := Nat → Nat → Option Nat
abbrev Cx : Type := va_G × (ClassId × ClassId × ClassId × ClassId) × Nat
def SHl : List Nat := [8, 2, 20200, 30003, 1, 30005, 30008, 30008, 30008, 1, 30005, 30008, 30008, 30008, 7, 30008, 30008, 7, 30008, 30008, 6, 40008, 7, 30008, 30008, 7, 30008, 30008, 7, 30008, 30008, 7, 30008, 30008, 7, 30008, 30008, 7, 30008, 30008, 7, 30008, 30008, 7, 30008, 30008, 6, 40002, 7, 30008, 30008, 7, 30008, 30008, 4, 30008, 30008, 30008, 30008, 3, 30008, 30008, 5, 30008, 30008, 30008, 30008, 30005, 0, 40009, 7, 30008, 30008, 7, 30008, 30008, 7, 30008, 30008, 7, 30008, 30008, 7, 30008, 30008, 7, 30008, 30008, 7, 30008, 30008, 7, 30008, 30008, 7, 30008, 30008, 9, 10200, 30002, 30002, 30006, 30010, 30016, 30016, 30016, 30018, 30144, 30036, 30018, 30005, 31536, 30008, 30008, 30008, 30008, 30256]
def SH (a : Nat) : Nat := SHl.getD a 999999
def kd (nx a : Nat) : Nat := if a < nx then SH a else 999999
def FIl : List (List Bool) := [[false, true, true, true], [false, false, false, false, true, true, true, true, true], [false, false, true, true], [false, false, true, true], [false, false, false, false, true, true], [false, false, false, false, false, true, true, true], [false, true], [false, false, false, true, true], [false, false, false, false, false, false, false, false, false, false, false], [false, true, false, false, false, false, false, false, false, true, true, false, false, true, false, true, false, false, false, false, false, false, true, false, true, false]]
def isI (ci j : Nat) : Bool := (FIl.getD ci []).getD j false
def nfs (ci : Nat) : Nat := (FIl.getD ci []).length
def rv (cx : Cx) (r : Option Nat) : Value := va_rf (r.map fun q => cx.2.2 + q)
def fld (cx : Cx) (ci : Nat) (d : Nat → Int32) (r : Nat → Option Nat) (j : Nat) : Value := if isI ci j = true then .int (d j) else rv cx (r j)
def flds (cx : Cx) (ci : Nat) (d : Nat → Int32) (r : Nat → Option Nat) : List Value := (List.range (nfs ci)).map (fld cx ci d r)
def cellE (cx : Cx) (k : Nat) (d : Nat → Int32) (r : Nat → Option Nat) : va_E := match k / 10000 with
  | 0 => .inr (k, flds cx k d r)
  | 1 => .inl (cx.2.1.1, k % 10000, .inl d)
  | 2 => .inl (cx.2.1.2.1, k % 10000, .inl d)
  | 3 => .inl (cx.2.1.2.2.1, k % 10000, .inl d)
  | _ => .inl (cx.2.1.2.2.2, k % 10000, .inr (.inr (.inr (.inr fun j => (r j).map fun q => cx.2.2 + q))))
def upd2 (D : Dt) (a k : Nat) (v : Int32) : Dt := fun q => if q = a then upd (D a) k v else D q
def updF (P : Ft) (a k : Nat) (v : Option Nat) : Ft := fun q => if q = a then va_up (P a) k v else P q
theorem upd2_s {D : Dt} {a k : Nat} {v : Int32} : upd2 D a k v a = upd (D a) k v := if_pos rfl
theorem upd2_n {D : Dt} {a k q : Nat} {v : Int32} (h : q ≠ a) : upd2 D a k v q = D q := if_neg h
theorem updF_s {P : Ft} {a k : Nat} {v : Option Nat} : updF P a k v a = va_up (P a) k v := if_pos rfl
theorem updF_n {P : Ft} {a k q : Nat} {v : Option Nat} (h : q ≠ a) : updF P a k v q = P q := if_neg h
def tysOf (cx : Cx) : List (ClassId × FieldType) := [(cx.2.1.1, .byte), (cx.2.1.2.1, .char), (cx.2.1.2.2.1, .int), (cx.2.1.2.2.2, .object "HeartPins$Standing")]
def nestW : List Cond := [.methodLinkNest "HeartPins" 11 ⟨"HeartPins$Letters", "<init>", "()V"⟩ "HeartPins", .methodLinkNest "HeartPins" 18 ⟨"HeartPins$Family", "<init>", "()V"⟩ "HeartPins", .methodLinkNest "HeartPins" 52 ⟨"HeartPins$Notes", "<init>", "()V"⟩ "HeartPins", .methodLinkNest "HeartPins" 59 ⟨"HeartPins$Matching", "<init>", "()V"⟩ "HeartPins", .methodLinkNest "HeartPins" 66 ⟨"HeartPins$Sharing", "<init>", "()V"⟩ "HeartPins", .methodLinkNest "HeartPins$Letters" 23 ⟨"HeartPins", "isWithin", "(III)Z"⟩ "HeartPins", .methodLinkNest "HeartPins$Family" 40 ⟨"HeartPins", "isWithin", "(III)Z"⟩ "HeartPins", .methodLinkNest "HeartPins$Standing" 129 ⟨"HeartPins", "largeBehindDay", "(III)I"⟩ "HeartPins", .methodLinkNest "HeartPins$Notes" 31 ⟨"HeartPins", "isWithin", "(III)Z"⟩ "HeartPins", .methodLinkNest "HeartPins$Notes" 35 ⟨"HeartPins", "largeBehind", "(IIII)I"⟩ "HeartPins", .methodLinkNest "HeartPins$Matching" 40 ⟨"HeartPins", "largeBehind", "(IIII)I"⟩ "HeartPins"]
def Rep (cx : Cx) (D : Dt) (P : Ft) (nx : Nat) (H : Heap) : Prop := H.size = cx.2.2 + nx ∧ ∀ a, a < nx → va_at cx.1 vwCl (cx.2.2 + a, cellE cx (SH a) (D a) (P a)) H
def KK (cx : Cx) (U : State) : Prop := va_K cx.1 vwCl (tysOf cx) U ∧ (∀ w ∈ nestW, va_Nw w U) ∧ va_AO "HeartPins$Standing" U
def Wd (cx : Cx) (D : Dt) (P : Ft) (nx : Nat) (U : State) : Prop := Rep cx D P nx U.heap ∧ KK cx U
def AA (cx : Cx) : Nat → Prop := fun q => cx.2.2 ≤ q
def ab (nx a t : Nat) (i : Int32) : Bool := decide (kd nx a / 10000 = t) && !(decide (i < 0) || decide (kd nx a % 10000 ≤ i.toNatClampNeg))
theorem kd_lt {nx a : Nat} (h : kd nx a < 50000) : a < nx ∧ SH a = kd nx a := by
  unfold kd at h ⊢
  by_cases q : a < nx
  · rw [if_pos q]; exact ⟨q, rfl⟩
  · rw [if_neg q] at h; omega
theorem ab_sp {nx a t : Nat} {i : Int32} (h : ab nx a t i = true) (ht : t < 5) : a < nx ∧ SH a / 10000 = t ∧ vp_in i (SH a % 10000) := by
  unfold ab at h
  simp only [Bool.and_eq_true, Bool.not_eq_true', Bool.or_eq_false_iff, decide_eq_true_eq, decide_eq_false_iff_not] at h
  obtain ⟨h1, h2, h3⟩ := h
  obtain ⟨k1, k2⟩ := kd_lt (nx := nx) (a := a) (by omega)
  rw [k2]
  exact ⟨k1, h1, fun q => q.elim h2 h3⟩
theorem cls_all {ci n : Nat} {C : String} {T : u_T} (hc : vwCl[ci]? = some (C, T, n)) : (∀ w ∈ u_ws C T n, w ∈ wT) ∧ (∃ ty0 : Nat → FieldType, (∀ k, k < n → parseFieldDescriptor (T k).2.2.1 = some (ty0 k)) ∧ (∀ a, a < n → ∀ b, b < n → a ≠ b → (T a).2.1 ≠ (T b).2.1)) := by
  suffices h : (∀ w ∈ u_ws C T n, w ∈ wT) ∧ (∀ a, a < n → ∀ b, b < n → a ≠ b → (T a).2.1 ≠ (T b).2.1) ∧ ∃ ty0 : Nat → FieldType, (∀ k, k < n → parseFieldDescriptor (T k).2.2.1 = some (ty0 k)) from ⟨h.1, h.2.2.choose, h.2.2.choose_spec, h.2.1⟩
  have key : ∀ (ci : Nat), vwCl[ci]? = some (C, T, n) → (∀ w ∈ u_ws C T n, w ∈ wT) ∧ (∀ a, a < n → ∀ b, b < n → a ≠ b → (T a).2.1 ≠ (T b).2.1) ∧ ∃ ty0 : Nat → FieldType, (∀ k, k < n → parseFieldDescriptor (T k).2.2.1 = some (ty0 k)) := by
    intro ci hc
    match ci, hc with
    | 0, hc => cases (Option.some.inj (show some (RX0, TX0, 4) = some (C, T, n) from hc)); exact ⟨wIn0, nmX0, tyX0, tyX0_ok⟩
    | 1, hc => cases (Option.some.inj (show some (RX1, TX1, 9) = some (C, T, n) from hc)); exact ⟨wIn1, nmX1, tyX1, tyX1_ok⟩
    | 2, hc => cases (Option.some.inj (show some (RX2, TX2, 4) = some (C, T, n) from hc)); exact ⟨wIn2, nmX2, tyX2, tyX2_ok⟩
    | 3, hc => cases (Option.some.inj (show some (RX3, TX3, 4) = some (C, T, n) from hc)); exact ⟨wIn3, nmX3, tyX3, tyX3_ok⟩
    | 4, hc => cases (Option.some.inj (show some (RX4, TX4, 6) = some (C, T, n) from hc)); exact ⟨wIn4, nmX4, tyX4, tyX4_ok⟩
    | 5, hc => cases (Option.some.inj (show some (RX5, TX5, 8) = some (C, T, n) from hc)); exact ⟨wIn5, nmX5, tyX5, tyX5_ok⟩
    | 6, hc => cases (Option.some.inj (show some (RX6, TX6, 2) = some (C, T, n) from hc)); exact ⟨wIn6, nmX6, tyX6, tyX6_ok⟩
    | 7, hc => cases (Option.some.inj (show some (RX7, TX7, 5) = some (C, T, n) from hc)); exact ⟨wIn7, nmX7, tyX7, tyX7_ok⟩
    | 8, hc => cases (Option.some.inj (show some (RX8, TX8, 11) = some (C, T, n) from hc)); exact ⟨wIn8, nmX8, tyX8, tyX8_ok⟩
    | 9, hc => cases (Option.some.inj (show some (RX9, TX9, 26) = some (C, T, n) from hc)); exact ⟨wIn9, nmX9, tyX9, tyX9_ok⟩
    | k + 10, hc => exact absurd (List.getElem?_eq_some_iff.mp hc).1 (by show ¬ k + 10 < 10; omega)
  exact key ci hc
theorem cls_lt {ci n : Nat} {C : String} {T : u_T} (hc : vwCl[ci]? = some (C, T, n)) : ci < 10 := (List.getElem?_eq_some_iff.mp hc).1
theorem cls_nfs {ci n : Nat} {C : String} {T : u_T} (hc : vwCl[ci]? = some (C, T, n)) : nfs ci = n := by
  have key : ∀ (ci : Nat), vwCl[ci]? = some (C, T, n) → nfs ci = n := by
    intro ci hc
    match ci, hc with
    | 0, hc => cases (Option.some.inj (show some (RX0, TX0, 4) = some (C, T, n) from hc)); rfl
    | 1, hc => cases (Option.some.inj (show some (RX1, TX1, 9) = some (C, T, n) from hc)); rfl
    | 2, hc => cases (Option.some.inj (show some (RX2, TX2, 4) = some (C, T, n) from hc)); rfl
    | 3, hc => cases (Option.some.inj (show some (RX3, TX3, 4) = some (C, T, n) from hc)); rfl
    | 4, hc => cases (Option.some.inj (show some (RX4, TX4, 6) = some (C, T, n) from hc)); rfl
    | 5, hc => cases (Option.some.inj (show some (RX5, TX5, 8) = some (C, T, n) from hc)); rfl
    | 6, hc => cases (Option.some.inj (show some (RX6, TX6, 2) = some (C, T, n) from hc)); rfl
    | 7, hc => cases (Option.some.inj (show some (RX7, TX7, 5) = some (C, T, n) from hc)); rfl
    | 8, hc => cases (Option.some.inj (show some (RX8, TX8, 11) = some (C, T, n) from hc)); rfl
    | 9, hc => cases (Option.some.inj (show some (RX9, TX9, 26) = some (C, T, n) from hc)); rfl
    | k + 10, hc => exact absurd (List.getElem?_eq_some_iff.mp hc).1 (by show ¬ k + 10 < 10; omega)
  exact key ci hc
theorem flds_len {cx : Cx} {ci : Nat} {d : Nat → Int32} {r : Nat → Option Nat} : (flds cx ci d r).length = nfs ci := by simp [flds]
theorem flds_setI {cx : Cx} {ci k : Nat} {d : Nat → Int32} {r : Nat → Option Nat} {x : Int32} (h : isI ci k = true) : flds cx ci (upd d k x) r = (flds cx ci d r).set k (.int x) := by
  apply List.ext_getElem
  · simp [flds]
  · intro i h1 h2
    rw [List.getElem_set]
    simp only [flds, List.getElem_map, List.getElem_range, fld]
    by_cases q : k = i
    · subst q; rw [if_pos rfl, if_pos h]; simp [upd]
    · rw [if_neg q]
      by_cases z : isI ci i = true
      · rw [if_pos z, if_pos z]; simp [upd, Ne.symm q]
      · rw [if_neg z, if_neg z]
theorem flds_setR {cx : Cx} {ci k : Nat} {d : Nat → Int32} {r : Nat → Option Nat} {x : Option Nat} (h : isI ci k = false) : flds cx ci d (va_up r k x) = (flds cx ci d r).set k (rv cx x) := by
  apply List.ext_getElem
  · simp [flds]
  · intro i h1 h2
    rw [List.getElem_set]
    simp only [flds, List.getElem_map, List.getElem_range, fld]
    by_cases q : k = i
    · subst q; rw [if_pos rfl, if_neg (by rw [h]; decide)]; simp [va_up]
    · rw [if_neg q]
      by_cases z : isI ci i = true
      · rw [if_pos z, if_pos z]
      · rw [if_neg z, if_neg z]; simp [va_up, Ne.symm q]
theorem cellE_obj {cx : Cx} {k : Nat} {d : Nat → Int32} {r : Nat → Option Nat} (h : k < 10) : cellE cx k d r = .inr (k, flds cx k d r) := by
  unfold cellE; rw [show k / 10000 = 0 by omega]; rfl
theorem cellE_1 {cx : Cx} {k : Nat} {d : Nat → Int32} {r : Nat → Option Nat} (h : k / 10000 = 1) : cellE cx k d r = .inl (cx.2.1.1, k % 10000, .inl d) := by unfold cellE; rw [h]; rfl
theorem cellE_2 {cx : Cx} {k : Nat} {d : Nat → Int32} {r : Nat → Option Nat} (h : k / 10000 = 2) : cellE cx k d r = .inl (cx.2.1.2.1, k % 10000, .inl d) := by unfold cellE; rw [h]; rfl
theorem cellE_3 {cx : Cx} {k : Nat} {d : Nat → Int32} {r : Nat → Option Nat} (h : k / 10000 = 3) : cellE cx k d r = .inl (cx.2.1.2.2.1, k % 10000, .inl d) := by unfold cellE; rw [h]; rfl
theorem cellE_4 {cx : Cx} {k : Nat} {d : Nat → Int32} {r : Nat → Option Nat} (h : k / 10000 = 4) : cellE cx k d r = .inl (cx.2.1.2.2.2, k % 10000, .inr (.inr (.inr (.inr fun j => (r j).map fun q => cx.2.2 + q)))) := by unfold cellE; rw [h]; rfl
theorem va_P1 {D : va_G} {cl : List vw_C} {q : Nat × va_E} {H : Heap} (h : va_at D cl q H) : va_P D cl [q] H := by
  intro k x hk
  match k, hk with
  | 0, hk => cases hk; exact h
  | k + 1, hk => simp at hk
theorem Rep.upd {cx : Cx} {D D' : Dt} {P P' : Ft} {nx a : Nat} {H H1 : Heap} (h : Rep cx D P nx H) (z : H1.size = H.size) (oq : ∀ q : Nat, q ≠ cx.2.2 + a → H1[q]? = H[q]?) (hn : va_at cx.1 vwCl (cx.2.2 + a, cellE cx (SH a) (D' a) (P' a)) H1) (hD : ∀ q, q ≠ a → D' q = D q) (hP : ∀ q, q ≠ a → P' q = P q) : Rep cx D' P' nx H1 := by
  refine ⟨z.trans h.1, fun q hq => ?_⟩
  by_cases e : q = a
  · subst e; exact hn
  · rw [hD q e, hP q e]
    exact (h.2 q hq).kept (oq _ (by show cx.2.2 + q ≠ cx.2.2 + a; omega))
theorem Rep.grow {cx : Cx} {D D' : Dt} {P P' : Ft} {nx : Nat} {H H1 : Heap} (h : Rep cx D P nx H) (z : H1.size = H.size + 1) (oq : ∀ q : Nat, q < H.size → H1[q]? = H[q]?) (hn : va_at cx.1 vwCl (cx.2.2 + nx, cellE cx (SH nx) (D' nx) (P' nx)) H1) (hD : ∀ q, q < nx → D' q = D q) (hP : ∀ q, q < nx → P' q = P q) : Rep cx D' P' (nx + 1) H1 := by
  refine ⟨by rw [z, h.1]; rfl, fun q hq => ?_⟩
  by_cases e : q = nx
  · subst e; exact hn
  · have hl : q < nx := by omega
    rw [hD q hl, hP q hl]
    exact (h.2 q hl).kept (oq _ (by show cx.2.2 + q < H.size; rw [h.1]; omega))
theorem nest_warm {s U : State} (hW : s.WarmedH U.vm) (h : ∀ w ∈ nestW, va_Nw w s) : ∀ w ∈ nestW, va_Nw w U := by
  intro w hw
  have h1 := h w hw
  have h2 : ∃ a i x b, w = .methodLinkNest a i x b := by
    simp only [nestW, List.mem_cons, List.not_mem_nil, or_false] at hw
    rcases hw with q | q | q | q | q | q | q | q | q | q | q <;> exact ⟨_, _, _, _, q⟩
  obtain ⟨a, i, x, b, rfl⟩ := h2
  exact va_Nw.warmM hW h1
theorem nest_alike {u U : State} (h : u.vm = U.vm) (hz : ∀ w ∈ nestW, va_Nw w u) : ∀ w ∈ nestW, va_Nw w U := by
  intro w hw
  have h2 : ∃ a i x b, w = .methodLinkNest a i x b := by
    simp only [nestW, List.mem_cons, List.not_mem_nil, or_false] at hw
    rcases hw with q | q | q | q | q | q | q | q | q | q | q <;> exact ⟨_, _, _, _, q⟩
  have h1 := hz w hw
  obtain ⟨a, i, x, b, rfl⟩ := h2
  exact va_Nw.same rfl h h1
theorem KK.warm {cx : Cx} {s U : State} (hW : s.WarmedH U.vm) (h : KK cx s) : KK cx U := ⟨va_K.moved hW.alike h.1, nest_warm hW h.2.1, va_AO.moved hW.alike h.2.2⟩
theorem Wd.blind {cx : Cx} {D : Dt} {P : Ft} {nx : Nat} {av : List Value} : FrameBlind (va_Pc av (Wd cx D P nx)) := by
  intro a U g mk q
  obtain ⟨h0, h1, h2, h3⟩ := q
  exact ⟨h0, h1, va_K.moved (u := U) (U := U.calling g mk a) (Vm.Alike.refl U.vm) h2, nest_alike (u := U) (U := U.calling g mk a) rfl h3.1, va_AO.moved (u := U) (U := U.calling g mk a) (Vm.Alike.refl U.vm) h3.2⟩
theorem AA_add {cx : Cx} {a : Nat} : AA cx (cx.2.2 + a) := Nat.le_add_right _ _
/-- what a method's start gives; what a walk stands on -/
def XC (p : Program) (s : State) (m : MethodId) (args : Array Value) (meth : Method) (c : Code) (cx : Cx) (b : ByteArray) (nL : Nat) (rt : Option FieldType) (own : String) (mn : String) : Prop :=
  p.tables.exec = Jvm.exec ∧ c.code = b ∧ c.maxLocals = nL ∧ meth.sig.returnType = rt ∧ s.vm.findClass own = some m.cls ∧ (∀ w ∈ wT, w.before args s = true) ∧ KK cx s ∧ meth.locks = false ∧ meth.name = mn
def XW (p : Program) (l : Launch) (e : Env) (R : Room) (s : State) (m : MethodId) (args : Array Value) (below : List Frame) (meth : Method) (c : Code) (Q : State → Prop) (cx : Cx) (nL : Nat) (D : Dt) (P : Ft) (nx cells slots pc : Nat) (lv : List (Nat × Value)) (st : List Value) : Prop :=
  ∀ (H : Heap) (locs : List Loc) (ls : Array Slot), Rep cx D P nx H → va_S (AA cx) s.heap H locs → lv_has ls nL lv → W p l e R s m args below meth c H locs cells slots Q (F0 m pc ls st)
def rmk (k : Nat) : Room := { frames := k, cells := 0, slots := 0, locals := 60 * k }
def rmc (k mc ms : Nat) : Room := { frames := k, cells := mc, slots := ms, locals := 60 * k }
/-- the end of a method: its answer, the heap then, and that nothing older has changed -/
def Qx (cx : Cx) (ov : Option Value) (D : Dt) (P : Ft) (nx : Nat) : Array Value → State → Outcome → State → Prop := fun _ st oc t => oc = .returned ov ∧ Wd cx D P nx t ∧ va_F (AA cx) st t
abbrev Ct (l : Launch) (cx : Cx) (y : MethodName) (b : ByteArray) (nL : Nat) (rt : Option FieldType) (lvl : Nat) (As : List Value) (D : Dt) (P : Ft) (nx : Nat) (ov : Option Value) (D' : Dt) (P' : Ft) : Prop :=
  Met l y (.code y b nL rt :: wT) (rmk lvl) (va_Pc As (Wd cx D P nx)) (Qx cx ov D' P' nx) 0 0 (AA cx)
abbrev Cc (l : Launch) (cx : Cx) (y : MethodName) (b : ByteArray) (nL : Nat) (lvl mc ms : Nat) (As : List Value) (D : Dt) (P : Ft) (nx : Nat) (D' : Dt) (P' : Ft) (nx' : Nat) : Prop :=
  Met l y (.code y b nL none :: wT) (rmc lvl mc ms) (va_Pc As (Wd cx D P nx)) (Qx cx none D' P' nx') mc ms (AA cx)
theorem x_met0 {l : Launch} {cx : Cx} {y : MethodName} {b : ByteArray} {nL : Nat} {rt : Option FieldType} {rm : Room} {As : List Value} {D : Dt} {P : Ft} {nx mc ms : Nat} {ov : Option Value} {D' : Dt} {P' : Ft} {nx' : Nat}
    (hy : plainName y.cls = true) (hlen : (lg_sl As).length ≤ nL)
    (body : ∀ (p : Program) (e : Env) (s : State) (m : MethodId) (args : Array Value) (below : List Frame) (meth : Method) (c : Code), XC p s m args meth c cx b nL rt y.cls y.name →
      XW p l e rm s m args below meth c (MQ below (Qx cx ov D' P' nx') args s mc ms (AA cx)) cx nL D P nx 0 0 0 (lv_args 0 As) []) :
    Met l y (.code y b nL rt :: wT) rm (va_Pc As (Wd cx D P nx)) (Qx cx ov D' P' nx') mc ms (AA cx) := by
  refine Met.ofW (cc := b) (maxL := nL) (ret := rt) hy rfl ?_
  intro p e s m args below meth c s₁ B hml hv
  obtain ⟨rfl, hR, hK⟩ := hv
  have hts := atoms_spec (ws := .code y b nL rt :: wT) B.pre
  have X : XC p s m As.toArray meth c cx b nL rt y.cls y.name := ⟨B.exec, B.bytes, hml, B.returns, findClass_of_methodNamed B.named, fun w hw => hts w (List.mem_cons_of_mem _ hw), hK, B.notSynchronized, (name_of_methodNamed B.named B.method).1⟩
  have hl := lv_entry As (n := nL) hlen
  rw [lg_entry_eq]
  exact body p e s m _ below meth c X _ _ _ hR va_S.rf hl
section XR
variable {p : Program} {l : Launch} {e : Env} {R : Room} {s : State} {m : MethodId} {args : Array Value} {below : List Frame} {meth : Method} {c : Code} {Q : State → Prop} {cx : Cx} {b : ByteArray} {nL : Nat} {rt : Option FieldType} {own mn : String} {D : Dt} {P : Ft} {nx cells slots pc : Nat} {lv : List (Nat × Value)} {st : List Value}
theorem XW.sub {lv' : List (Nat × Value)} (ks : List Nat) (h : lv_pick lv ks = lv') (kk : XW p l e R s m args below meth c Q cx nL D P nx cells slots pc lv' st) : XW p l e R s m args below meth c Q cx nL D P nx cells slots pc lv st :=
  fun H locs ls hR hS hl => kk H locs ls hR hS (lv_sub hl ks h)
theorem XW.wid {k n : Nat} (h1 : cells ≤ k) (h2 : slots ≤ n) (kk : XW p l e R s m args below meth c Q cx nL D P nx k n pc lv st) : XW p l e R s m args below meth c Q cx nL D P nx cells slots pc lv st :=
  fun H locs ls hR hS hl => W.widen h1 h2 (kk H locs ls hR hS hl)
theorem x_iconst (X : XC p s m args meth c cx b nL rt own mn) {n : Int} {v : Int32} (hd : decode b pc = .ok (.iconst n, 1)) (hv : Int32.ofInt n = v) (kk : XW p l e R s m args below meth c Q cx nL D P nx cells slots (pc + 1) lv (.int v :: st)) : XW p l e R s m args below meth c Q cx nL D P nx cells slots pc lv st :=
  fun H locs ls hR hS hl => lv_iconst X.1 X.2.1 hd hv (kk H locs ls hR hS hl)
theorem x_bipush (X : XC p s m args meth c cx b nL rt own mn) {n : Int} {v : Int32} (hd : decode b pc = .ok (.bipush n, 2)) (hv : (Int8.ofInt n).toInt32 = v) (kk : XW p l e R s m args below meth c Q cx nL D P nx cells slots (pc + 2) lv (.int v :: st)) : XW p l e R s m args below meth c Q cx nL D P nx cells slots pc lv st :=
  fun H locs ls hR hS hl => lv_bipush X.1 X.2.1 hd hv (kk H locs ls hR hS hl)
theorem x_sipush (X : XC p s m args meth c cx b nL rt own mn) {n : Int} {v : Int32} (hd : decode b pc = .ok (.sipush n, 3)) (hv : (Int16.ofInt n).toInt32 = v) (kk : XW p l e R s m args below meth c Q cx nL D P nx cells slots (pc + 3) lv (.int v :: st)) : XW p l e R s m args below meth c Q cx nL D P nx cells slots pc lv st :=
  fun H locs ls hR hS hl => lv_sipush X.1 X.2.1 hd hv (kk H locs ls hR hS hl)
theorem x_lconst (X : XC p s m args meth c cx b nL rt own mn) {n : Fin 2} {v : Int64} (hd : decode b pc = .ok (.lconst n, 1)) (hv : Int64.ofNat (n : Nat) = v) (kk : XW p l e R s m args below meth c Q cx nL D P nx cells slots (pc + 1) lv (.long v :: st)) : XW p l e R s m args below meth c Q cx nL D P nx cells slots pc lv st :=
  fun H locs ls hR hS hl => lv_lconst X.1 X.2.1 hd hv (kk H locs ls hR hS hl)
theorem x_ldc (X : XC p s m args meth c cx b nL rt own mn) {i : Nat} {v : Int32} (hd : decode b pc = .ok (.ldc i, 2)) (hw : Cond.constant own i v ∈ wT) (kk : XW p l e R s m args below meth c Q cx nL D P nx cells slots (pc + 2) lv (.int v :: st)) : XW p l e R s m args below meth c Q cx nL D P nx cells slots pc lv st :=
  fun H locs ls hR hS hl => lv_ldc X.1 X.2.1 X.2.2.2.2.1 (X.2.2.2.2.2.1 _ hw) hd (kk H locs ls hR hS hl)
theorem x_ldcw (X : XC p s m args meth c cx b nL rt own mn) {i : Nat} {v : Int32} (hd : decode b pc = .ok (.ldc_w i, 3)) (hw : Cond.constant own i v ∈ wT) (kk : XW p l e R s m args below meth c Q cx nL D P nx cells slots (pc + 3) lv (.int v :: st)) : XW p l e R s m args below meth c Q cx nL D P nx cells slots pc lv st :=
  fun H locs ls hR hS hl => lv_ldcw X.1 X.2.1 X.2.2.2.2.1 (X.2.2.2.2.2.1 _ hw) hd (kk H locs ls hR hS hl)
theorem x_ldc2 (X : XC p s m args meth c cx b nL rt own mn) {i : Nat} {v : Int64} (hd : decode b pc = .ok (.ldc2_w i, 3)) (hw : Cond.constantLong own i v ∈ wT) (kk : XW p l e R s m args below meth c Q cx nL D P nx cells slots (pc + 3) lv (.long v :: st)) : XW p l e R s m args below meth c Q cx nL D P nx cells slots pc lv st :=
  fun H locs ls hR hS hl => lv_ldc2 X.1 X.2.1 X.2.2.2.2.1 (X.2.2.2.2.2.1 _ hw) hd (kk H locs ls hR hS hl)
theorem x_null (X : XC p s m args meth c cx b nL rt own mn) (hd : decode b pc = .ok (.aconst_null, 1)) (kk : XW p l e R s m args below meth c Q cx nL D P nx cells slots (pc + 1) lv (.null :: st)) : XW p l e R s m args below meth c Q cx nL D P nx cells slots pc lv st :=
  fun H locs ls hR hS hl => lv_null X.1 X.2.1 hd (kk H locs ls hR hS hl)
theorem x_iload_n (X : XC p s m args meth c cx b nL rt own mn) {k : Fin 4} {i : Nat} {x : Int32} (hd : decode b pc = .ok (.iload_n k, 1)) (hi : (k : Nat) = i) (j : Nat) (hj : lv[j]? = some (i, .int x)) (kk : XW p l e R s m args below meth c Q cx nL D P nx cells slots (pc + 1) lv (.int x :: st)) : XW p l e R s m args below meth c Q cx nL D P nx cells slots pc lv st :=
  fun H locs ls hR hS hl => lv_iload_n X.1 X.2.1 hd hi (lv_at hl j hj) (kk H locs ls hR hS hl)
theorem x_iload (X : XC p s m args meth c cx b nL rt own mn) {i : Nat} {x : Int32} (hd : decode b pc = .ok (.iload i, 2)) (j : Nat) (hj : lv[j]? = some (i, .int x)) (kk : XW p l e R s m args below meth c Q cx nL D P nx cells slots (pc + 2) lv (.int x :: st)) : XW p l e R s m args below meth c Q cx nL D P nx cells slots pc lv st :=
  fun H locs ls hR hS hl => lv_iload X.1 X.2.1 hd (lv_at hl j hj) (kk H locs ls hR hS hl)
theorem x_lload_n (X : XC p s m args meth c cx b nL rt own mn) {k : Fin 4} {i : Nat} {x : Int64} (hd : decode b pc = .ok (.lload_n k, 1)) (hi : (k : Nat) = i) (j : Nat) (hj : lv[j]? = some (i, .long x)) (kk : XW p l e R s m args below meth c Q cx nL D P nx cells slots (pc + 1) lv (.long x :: st)) : XW p l e R s m args below meth c Q cx nL D P nx cells slots pc lv st :=
  fun H locs ls hR hS hl => lv_lload_n X.1 X.2.1 hd hi (lv_at hl j hj) (kk H locs ls hR hS hl)
theorem x_lload (X : XC p s m args meth c cx b nL rt own mn) {i : Nat} {x : Int64} (hd : decode b pc = .ok (.lload i, 2)) (j : Nat) (hj : lv[j]? = some (i, .long x)) (kk : XW p l e R s m args below meth c Q cx nL D P nx cells slots (pc + 2) lv (.long x :: st)) : XW p l e R s m args below meth c Q cx nL D P nx cells slots pc lv st :=
  fun H locs ls hR hS hl => lv_lload X.1 X.2.1 hd (lv_at hl j hj) (kk H locs ls hR hS hl)
theorem x_aload_n (X : XC p s m args meth c cx b nL rt own mn) {k : Fin 4} {i : Nat} {x : Nat} (hd : decode b pc = .ok (.aload_n k, 1)) (hi : (k : Nat) = i) (j : Nat) (hj : lv[j]? = some (i, .ref x)) (kk : XW p l e R s m args below meth c Q cx nL D P nx cells slots (pc + 1) lv (.ref x :: st)) : XW p l e R s m args below meth c Q cx nL D P nx cells slots pc lv st :=
  fun H locs ls hR hS hl => lv_aload_n X.1 X.2.1 hd hi (lv_at hl j hj) (kk H locs ls hR hS hl)
theorem x_aload (X : XC p s m args meth c cx b nL rt own mn) {i : Nat} {x : Nat} (hd : decode b pc = .ok (.aload i, 2)) (j : Nat) (hj : lv[j]? = some (i, .ref x)) (kk : XW p l e R s m args below meth c Q cx nL D P nx cells slots (pc + 2) lv (.ref x :: st)) : XW p l e R s m args below meth c Q cx nL D P nx cells slots pc lv st :=
  fun H locs ls hR hS hl => lv_aload X.1 X.2.1 hd (lv_at hl j hj) (kk H locs ls hR hS hl)
theorem x_aload_nN (X : XC p s m args meth c cx b nL rt own mn) {k : Fin 4} {i : Nat} (hd : decode b pc = .ok (.aload_n k, 1)) (hi : (k : Nat) = i) (j : Nat) (hj : lv[j]? = some (i, .null)) (kk : XW p l e R s m args below meth c Q cx nL D P nx cells slots (pc + 1) lv (.null :: st)) : XW p l e R s m args below meth c Q cx nL D P nx cells slots pc lv st :=
  fun H locs ls hR hS hl => lv_aload_nN X.1 X.2.1 hd hi (lv_at hl j hj) (kk H locs ls hR hS hl)
theorem x_aloadN (X : XC p s m args meth c cx b nL rt own mn) {i : Nat} (hd : decode b pc = .ok (.aload i, 2)) (j : Nat) (hj : lv[j]? = some (i, .null)) (kk : XW p l e R s m args below meth c Q cx nL D P nx cells slots (pc + 2) lv (.null :: st)) : XW p l e R s m args below meth c Q cx nL D P nx cells slots pc lv st :=
  fun H locs ls hR hS hl => lv_aloadN X.1 X.2.1 hd (lv_at hl j hj) (kk H locs ls hR hS hl)
theorem x_istore_n (X : XC p s m args meth c cx b nL rt own mn) {k : Fin 4} {i : Nat} {x : Int32} {lv' : List (Nat × Value)} (hd : decode b pc = .ok (.istore_n k, 1)) (hi : (k : Nat) = i) (hn : i < nL) (hl' : (i, Value.int x) :: lv.filter (fun q => !(q.1 == i) && !(q.1 + 1 == i && q.2.category == 2)) = lv') (kk : XW p l e R s m args below meth c Q cx nL D P nx cells slots (pc + 1) lv' st) : XW p l e R s m args below meth c Q cx nL D P nx cells slots pc lv (.int x :: st) :=
  fun H locs ls hR hS hl => lv_istore_n X.1 X.2.1 hd hi hl hn hl' fun ls' h => kk H locs ls' hR hS h
theorem x_istore (X : XC p s m args meth c cx b nL rt own mn) {i : Nat} {x : Int32} {lv' : List (Nat × Value)} (hd : decode b pc = .ok (.istore i, 2)) (hn : i < nL) (hl' : (i, Value.int x) :: lv.filter (fun q => !(q.1 == i) && !(q.1 + 1 == i && q.2.category == 2)) = lv') (kk : XW p l e R s m args below meth c Q cx nL D P nx cells slots (pc + 2) lv' st) : XW p l e R s m args below meth c Q cx nL D P nx cells slots pc lv (.int x :: st) :=
  fun H locs ls hR hS hl => lv_istore X.1 X.2.1 hd hl hn hl' fun ls' h => kk H locs ls' hR hS h
theorem x_lstore_n (X : XC p s m args meth c cx b nL rt own mn) {k : Fin 4} {i : Nat} {x : Int64} {lv' : List (Nat × Value)} (hd : decode b pc = .ok (.lstore_n k, 1)) (hi : (k : Nat) = i) (hn : i + 1 < nL) (hl' : (i, Value.long x) :: lv.filter (fun q => !(q.1 == i) && (!(q.1 == i + 1) && !(q.1 + 1 == i && q.2.category == 2))) = lv') (kk : XW p l e R s m args below meth c Q cx nL D P nx cells slots (pc + 1) lv' st) : XW p l e R s m args below meth c Q cx nL D P nx cells slots pc lv (.long x :: st) :=
  fun H locs ls hR hS hl => lv_lstore_n X.1 X.2.1 hd hi hl hn hl' fun ls' h => kk H locs ls' hR hS h
theorem x_lstore (X : XC p s m args meth c cx b nL rt own mn) {i : Nat} {x : Int64} {lv' : List (Nat × Value)} (hd : decode b pc = .ok (.lstore i, 2)) (hn : i + 1 < nL) (hl' : (i, Value.long x) :: lv.filter (fun q => !(q.1 == i) && (!(q.1 == i + 1) && !(q.1 + 1 == i && q.2.category == 2))) = lv') (kk : XW p l e R s m args below meth c Q cx nL D P nx cells slots (pc + 2) lv' st) : XW p l e R s m args below meth c Q cx nL D P nx cells slots pc lv (.long x :: st) :=
  fun H locs ls hR hS hl => lv_lstore X.1 X.2.1 hd hl hn hl' fun ls' h => kk H locs ls' hR hS h
theorem x_astore_n (X : XC p s m args meth c cx b nL rt own mn) {k : Fin 4} {i : Nat} {x : Nat} {lv' : List (Nat × Value)} (hd : decode b pc = .ok (.astore_n k, 1)) (hi : (k : Nat) = i) (hn : i < nL) (hl' : (i, Value.ref x) :: lv.filter (fun q => !(q.1 == i) && !(q.1 + 1 == i && q.2.category == 2)) = lv') (kk : XW p l e R s m args below meth c Q cx nL D P nx cells slots (pc + 1) lv' st) : XW p l e R s m args below meth c Q cx nL D P nx cells slots pc lv (.ref x :: st) :=
  fun H locs ls hR hS hl => lv_astore_n X.1 X.2.1 hd hi hl hn hl' fun ls' h => kk H locs ls' hR hS h
theorem x_astore (X : XC p s m args meth c cx b nL rt own mn) {i : Nat} {x : Nat} {lv' : List (Nat × Value)} (hd : decode b pc = .ok (.astore i, 2)) (hn : i < nL) (hl' : (i, Value.ref x) :: lv.filter (fun q => !(q.1 == i) && !(q.1 + 1 == i && q.2.category == 2)) = lv') (kk : XW p l e R s m args below meth c Q cx nL D P nx cells slots (pc + 2) lv' st) : XW p l e R s m args below meth c Q cx nL D P nx cells slots pc lv (.ref x :: st) :=
  fun H locs ls hR hS hl => lv_astore X.1 X.2.1 hd hl hn hl' fun ls' h => kk H locs ls' hR hS h
theorem x_astore_nN (X : XC p s m args meth c cx b nL rt own mn) {k : Fin 4} {i : Nat} {lv' : List (Nat × Value)} (hd : decode b pc = .ok (.astore_n k, 1)) (hi : (k : Nat) = i) (hn : i < nL) (hl' : (i, Value.null) :: lv.filter (fun q => !(q.1 == i) && !(q.1 + 1 == i && q.2.category == 2)) = lv') (kk : XW p l e R s m args below meth c Q cx nL D P nx cells slots (pc + 1) lv' st) : XW p l e R s m args below meth c Q cx nL D P nx cells slots pc lv (.null :: st) :=
  fun H locs ls hR hS hl => lv_astore_nN X.1 X.2.1 hd hi hl hn hl' fun ls' h => kk H locs ls' hR hS h
theorem x_astoreN (X : XC p s m args meth c cx b nL rt own mn) {i : Nat} {lv' : List (Nat × Value)} (hd : decode b pc = .ok (.astore i, 2)) (hn : i < nL) (hl' : (i, Value.null) :: lv.filter (fun q => !(q.1 == i) && !(q.1 + 1 == i && q.2.category == 2)) = lv') (kk : XW p l e R s m args below meth c Q cx nL D P nx cells slots (pc + 2) lv' st) : XW p l e R s m args below meth c Q cx nL D P nx cells slots pc lv (.null :: st) :=
  fun H locs ls hR hS hl => lv_astoreN X.1 X.2.1 hd hl hn hl' fun ls' h => kk H locs ls' hR hS h
theorem x_iinc (X : XC p s m args meth c cx b nL rt own mn) {i : Nat} {n : Int} {x v : Int32} {lv' : List (Nat × Value)} (hd : decode b pc = .ok (.iinc i n, 3)) (j : Nat) (hj : lv[j]? = some (i, .int x)) (hv : x + Int32.ofInt n = v) (hn : i < nL) (hl' : (i, Value.int v) :: lv.filter (fun q => !(q.1 == i) && !(q.1 + 1 == i && q.2.category == 2)) = lv') (kk : XW p l e R s m args below meth c Q cx nL D P nx cells slots (pc + 3) lv' st) : XW p l e R s m args below meth c Q cx nL D P nx cells slots pc lv st :=
  fun H locs ls hR hS hl => lv_iinc X.1 X.2.1 hd hl hj hv hn hl' fun ls' h => kk H locs ls' hR hS h
theorem x_dup (X : XC p s m args meth c cx b nL rt own mn) {v : Value} (hd : decode b pc = .ok (.dup, 1)) (hv : v.category = 1) (kk : XW p l e R s m args below meth c Q cx nL D P nx cells slots (pc + 1) lv (v :: v :: st)) : XW p l e R s m args below meth c Q cx nL D P nx cells slots pc lv (v :: st) :=
  fun H locs ls hR hS hl => lv_dup X.1 X.2.1 hd hv (kk H locs ls hR hS hl)
theorem x_pop (X : XC p s m args meth c cx b nL rt own mn) {v : Value} (hd : decode b pc = .ok (.pop, 1)) (hv : v.category = 1) (kk : XW p l e R s m args below meth c Q cx nL D P nx cells slots (pc + 1) lv st) : XW p l e R s m args below meth c Q cx nL D P nx cells slots pc lv (v :: st) :=
  fun H locs ls hR hS hl => lv_pop X.1 X.2.1 hd hv (kk H locs ls hR hS hl)
theorem x_goto (X : XC p s m args meth c cx b nL rt own mn) {off : Int} {tgt : Nat} (hd : decode b pc = .ok (.goto off, 3)) (ht : (pc : Int) + off = (tgt : Int)) (kk : XW p l e R s m args below meth c Q cx nL D P nx cells slots tgt lv st) : XW p l e R s m args below meth c Q cx nL D P nx cells slots pc lv st :=
  fun H locs ls hR hS hl => lv_goto X.1 X.2.1 hd ht (kk H locs ls hR hS hl)
theorem x_iadd (X : XC p s m args meth c cx b nL rt own mn) {x y : Int32} (hd : decode b pc = .ok (.iadd, 1)) (kk : XW p l e R s m args below meth c Q cx nL D P nx cells slots (pc + 1) lv (.int (x + y) :: st)) : XW p l e R s m args below meth c Q cx nL D P nx cells slots pc lv (.int y :: .int x :: st) :=
  fun H locs ls hR hS hl => lv_iadd X.1 X.2.1 hd (kk H locs ls hR hS hl)
theorem x_isub (X : XC p s m args meth c cx b nL rt own mn) {x y : Int32} (hd : decode b pc = .ok (.isub, 1)) (kk : XW p l e R s m args below meth c Q cx nL D P nx cells slots (pc + 1) lv (.int (x - y) :: st)) : XW p l e R s m args below meth c Q cx nL D P nx cells slots pc lv (.int y :: .int x :: st) :=
  fun H locs ls hR hS hl => lv_isub X.1 X.2.1 hd (kk H locs ls hR hS hl)
theorem x_imul (X : XC p s m args meth c cx b nL rt own mn) {x y : Int32} (hd : decode b pc = .ok (.imul, 1)) (kk : XW p l e R s m args below meth c Q cx nL D P nx cells slots (pc + 1) lv (.int (x * y) :: st)) : XW p l e R s m args below meth c Q cx nL D P nx cells slots pc lv (.int y :: .int x :: st) :=
  fun H locs ls hR hS hl => lv_imul X.1 X.2.1 hd (kk H locs ls hR hS hl)
theorem x_iand (X : XC p s m args meth c cx b nL rt own mn) {x y : Int32} (hd : decode b pc = .ok (.iand, 1)) (kk : XW p l e R s m args below meth c Q cx nL D P nx cells slots (pc + 1) lv (.int (x &&& y) :: st)) : XW p l e R s m args below meth c Q cx nL D P nx cells slots pc lv (.int y :: .int x :: st) :=
  fun H locs ls hR hS hl => lv_iand X.1 X.2.1 hd (kk H locs ls hR hS hl)
theorem x_ior (X : XC p s m args meth c cx b nL rt own mn) {x y : Int32} (hd : decode b pc = .ok (.ior, 1)) (kk : XW p l e R s m args below meth c Q cx nL D P nx cells slots (pc + 1) lv (.int (x ||| y) :: st)) : XW p l e R s m args below meth c Q cx nL D P nx cells slots pc lv (.int y :: .int x :: st) :=
  fun H locs ls hR hS hl => lv_ior X.1 X.2.1 hd (kk H locs ls hR hS hl)
theorem x_ixor (X : XC p s m args meth c cx b nL rt own mn) {x y : Int32} (hd : decode b pc = .ok (.ixor, 1)) (kk : XW p l e R s m args below meth c Q cx nL D P nx cells slots (pc + 1) lv (.int (x ^^^ y) :: st)) : XW p l e R s m args below meth c Q cx nL D P nx cells slots pc lv (.int y :: .int x :: st) :=
  fun H locs ls hR hS hl => lv_ixor X.1 X.2.1 hd (kk H locs ls hR hS hl)
theorem x_ishl (X : XC p s m args meth c cx b nL rt own mn) {x y : Int32} (hd : decode b pc = .ok (.ishl, 1)) (kk : XW p l e R s m args below meth c Q cx nL D P nx cells slots (pc + 1) lv (.int (x <<< (y &&& 31)) :: st)) : XW p l e R s m args below meth c Q cx nL D P nx cells slots pc lv (.int y :: .int x :: st) :=
  fun H locs ls hR hS hl => lv_ishl X.1 X.2.1 hd (kk H locs ls hR hS hl)
theorem x_ishr (X : XC p s m args meth c cx b nL rt own mn) {x y : Int32} (hd : decode b pc = .ok (.ishr, 1)) (kk : XW p l e R s m args below meth c Q cx nL D P nx cells slots (pc + 1) lv (.int (x >>> (y &&& 31)) :: st)) : XW p l e R s m args below meth c Q cx nL D P nx cells slots pc lv (.int y :: .int x :: st) :=
  fun H locs ls hR hS hl => lv_ishr X.1 X.2.1 hd (kk H locs ls hR hS hl)
theorem x_iushr (X : XC p s m args meth c cx b nL rt own mn) {x y : Int32} (hd : decode b pc = .ok (.iushr, 1)) (kk : XW p l e R s m args below meth c Q cx nL D P nx cells slots (pc + 1) lv (.int (x.toUInt32 >>> (y.toUInt32 &&& Int32.toUInt32 31)).toInt32 :: st)) : XW p l e R s m args below meth c Q cx nL D P nx cells slots pc lv (.int y :: .int x :: st) :=
  fun H locs ls hR hS hl => lv_iushr X.1 X.2.1 hd rfl (kk H locs ls hR hS hl)
theorem x_ladd (X : XC p s m args meth c cx b nL rt own mn) {x y : Int64} (hd : decode b pc = .ok (.ladd, 1)) (kk : XW p l e R s m args below meth c Q cx nL D P nx cells slots (pc + 1) lv (.long (x + y) :: st)) : XW p l e R s m args below meth c Q cx nL D P nx cells slots pc lv (.long y :: .long x :: st) :=
  fun H locs ls hR hS hl => lv_ladd X.1 X.2.1 hd (kk H locs ls hR hS hl)
theorem x_lsub (X : XC p s m args meth c cx b nL rt own mn) {x y : Int64} (hd : decode b pc = .ok (.lsub, 1)) (kk : XW p l e R s m args below meth c Q cx nL D P nx cells slots (pc + 1) lv (.long (x - y) :: st)) : XW p l e R s m args below meth c Q cx nL D P nx cells slots pc lv (.long y :: .long x :: st) :=
  fun H locs ls hR hS hl => lv_lsub X.1 X.2.1 hd (kk H locs ls hR hS hl)
theorem x_lmul (X : XC p s m args meth c cx b nL rt own mn) {x y : Int64} (hd : decode b pc = .ok (.lmul, 1)) (kk : XW p l e R s m args below meth c Q cx nL D P nx cells slots (pc + 1) lv (.long (x * y) :: st)) : XW p l e R s m args below meth c Q cx nL D P nx cells slots pc lv (.long y :: .long x :: st) :=
  fun H locs ls hR hS hl => lv_lmul X.1 X.2.1 hd (kk H locs ls hR hS hl)
theorem x_idiv (X : XC p s m args meth c cx b nL rt own mn) {x y : Int32} (hd : decode b pc = .ok (.idiv, 1)) (hne : ¬ y = 0) (kk : XW p l e R s m args below meth c Q cx nL D P nx cells slots (pc + 1) lv (.int (x / y) :: st)) : XW p l e R s m args below meth c Q cx nL D P nx cells slots pc lv (.int y :: .int x :: st) :=
  fun H locs ls hR hS hl => lv_idiv X.1 X.2.1 hd hne (kk H locs ls hR hS hl)
theorem x_irem (X : XC p s m args meth c cx b nL rt own mn) {x y : Int32} (hd : decode b pc = .ok (.irem, 1)) (hne : ¬ y = 0) (kk : XW p l e R s m args below meth c Q cx nL D P nx cells slots (pc + 1) lv (.int (x - x / y * y) :: st)) : XW p l e R s m args below meth c Q cx nL D P nx cells slots pc lv (.int y :: .int x :: st) :=
  fun H locs ls hR hS hl => lv_irem X.1 X.2.1 hd hne (kk H locs ls hR hS hl)
theorem x_ldiv (X : XC p s m args meth c cx b nL rt own mn) {x y : Int64} (hd : decode b pc = .ok (.ldiv, 1)) (hne : ¬ y = 0) (kk : XW p l e R s m args below meth c Q cx nL D P nx cells slots (pc + 1) lv (.long (x / y) :: st)) : XW p l e R s m args below meth c Q cx nL D P nx cells slots pc lv (.long y :: .long x :: st) :=
  fun H locs ls hR hS hl => lv_ldiv X.1 X.2.1 hd hne (kk H locs ls hR hS hl)
theorem x_lrem (X : XC p s m args meth c cx b nL rt own mn) {x y : Int64} (hd : decode b pc = .ok (.lrem, 1)) (hne : ¬ y = 0) (kk : XW p l e R s m args below meth c Q cx nL D P nx cells slots (pc + 1) lv (.long (x - x / y * y) :: st)) : XW p l e R s m args below meth c Q cx nL D P nx cells slots pc lv (.long y :: .long x :: st) :=
  fun H locs ls hR hS hl => lv_lrem X.1 X.2.1 hd hne (kk H locs ls hR hS hl)
theorem x_i2l (X : XC p s m args meth c cx b nL rt own mn) {x : Int32} (hd : decode b pc = .ok (.i2l, 1)) (kk : XW p l e R s m args below meth c Q cx nL D P nx cells slots (pc + 1) lv (.long x.toInt64 :: st)) : XW p l e R s m args below meth c Q cx nL D P nx cells slots pc lv (.int x :: st) :=
  fun H locs ls hR hS hl => lv_i2l X.1 X.2.1 hd rfl (kk H locs ls hR hS hl)
theorem x_l2i (X : XC p s m args meth c cx b nL rt own mn) {x : Int64} (hd : decode b pc = .ok (.l2i, 1)) (kk : XW p l e R s m args below meth c Q cx nL D P nx cells slots (pc + 1) lv (.int x.toInt32 :: st)) : XW p l e R s m args below meth c Q cx nL D P nx cells slots pc lv (.long x :: st) :=
  fun H locs ls hR hS hl => lv_l2i X.1 X.2.1 hd rfl (kk H locs ls hR hS hl)
theorem x_i2b (X : XC p s m args meth c cx b nL rt own mn) {x : Int32} (hd : decode b pc = .ok (.i2b, 1)) (kk : XW p l e R s m args below meth c Q cx nL D P nx cells slots (pc + 1) lv (.int x.toInt8.toInt32 :: st)) : XW p l e R s m args below meth c Q cx nL D P nx cells slots pc lv (.int x :: st) :=
  fun H locs ls hR hS hl => lv_i2b X.1 X.2.1 hd rfl (kk H locs ls hR hS hl)
theorem x_i2c (X : XC p s m args meth c cx b nL rt own mn) {x : Int32} (hd : decode b pc = .ok (.i2c, 1)) (kk : XW p l e R s m args below meth c Q cx nL D P nx cells slots (pc + 1) lv (.int (x.toUInt32 % 65536).toInt32 :: st)) : XW p l e R s m args below meth c Q cx nL D P nx cells slots pc lv (.int x :: st) :=
  fun H locs ls hR hS hl => lv_i2c X.1 X.2.1 hd rfl (kk H locs ls hR hS hl)
theorem x_lcmp (X : XC p s m args meth c cx b nL rt own mn) {x y : Int64} (hd : decode b pc = .ok (.lcmp, 1)) (kk : XW p l e R s m args below meth c Q cx nL D P nx cells slots (pc + 1) lv (.int (lg_cmp x y) :: st)) : XW p l e R s m args below meth c Q cx nL D P nx cells slots pc lv (.long y :: .long x :: st) :=
  fun H locs ls hR hS hl => W.lcmp X.1 X.2.1 hd (kk H locs ls hR hS hl)
theorem x_dup2 (X : XC p s m args meth c cx b nL rt own mn) {v w : Value} (hd : decode b pc = .ok (.dup2, 1)) (hv : v.category = 1) (hw : w.category = 1) (kk : XW p l e R s m args below meth c Q cx nL D P nx cells slots (pc + 1) lv (v :: w :: v :: w :: st)) : XW p l e R s m args below meth c Q cx nL D P nx cells slots pc lv (v :: w :: st) :=
  fun H locs ls hR hS hl => lv_dup2_11 X.1 X.2.1 hd hv hw (kk H locs ls hR hS hl)
theorem x_if_eq (X : XC p s m args meth c cx b nL rt own mn) {x : Int32} {off : Int} {tgt : Nat} (hd : decode b pc = .ok (.ifCond .eq off, 3)) (ht : (pc : Int) + off = (tgt : Int)) (kt : x = 0 → XW p l e R s m args below meth c Q cx nL D P nx cells slots tgt lv st) (kf : ¬ x = 0 → XW p l e R s m args below meth c Q cx nL D P nx cells slots (pc + 3) lv st) : XW p l e R s m args below meth c Q cx nL D P nx cells slots pc lv (.int x :: st) :=
  fun H locs ls hR hS hl => lv_if_eq X.1 X.2.1 hd ht (fun q => kt q H locs ls hR hS hl) (fun q => kf q H locs ls hR hS hl)
theorem x_icmp_eq (X : XC p s m args meth c cx b nL rt own mn) {x y : Int32} {off : Int} {tgt : Nat} (hd : decode b pc = .ok (.if_icmp .eq off, 3)) (ht : (pc : Int) + off = (tgt : Int)) (kt : x = y → XW p l e R s m args below meth c Q cx nL D P nx cells slots tgt lv st) (kf : ¬ x = y → XW p l e R s m args below meth c Q cx nL D P nx cells slots (pc + 3) lv st) : XW p l e R s m args below meth c Q cx nL D P nx cells slots pc lv (.int y :: .int x :: st) :=
  fun H locs ls hR hS hl => lv_icmp_eq X.1 X.2.1 hd ht (fun q => kt q H locs ls hR hS hl) (fun q => kf q H locs ls hR hS hl)
theorem x_if_ne (X : XC p s m args meth c cx b nL rt own mn) {x : Int32} {off : Int} {tgt : Nat} (hd : decode b pc = .ok (.ifCond .ne off, 3)) (ht : (pc : Int) + off = (tgt : Int)) (kt : ¬ x = 0 → XW p l e R s m args below meth c Q cx nL D P nx cells slots tgt lv st) (kf : x = 0 → XW p l e R s m args below meth c Q cx nL D P nx cells slots (pc + 3) lv st) : XW p l e R s m args below meth c Q cx nL D P nx cells slots pc lv (.int x :: st) :=
  fun H locs ls hR hS hl => lv_if_ne X.1 X.2.1 hd ht (fun q => kt q H locs ls hR hS hl) (fun q => kf q H locs ls hR hS hl)
theorem x_icmp_ne (X : XC p s m args meth c cx b nL rt own mn) {x y : Int32} {off : Int} {tgt : Nat} (hd : decode b pc = .ok (.if_icmp .ne off, 3)) (ht : (pc : Int) + off = (tgt : Int)) (kt : ¬ x = y → XW p l e R s m args below meth c Q cx nL D P nx cells slots tgt lv st) (kf : x = y → XW p l e R s m args below meth c Q cx nL D P nx cells slots (pc + 3) lv st) : XW p l e R s m args below meth c Q cx nL D P nx cells slots pc lv (.int y :: .int x :: st) :=
  fun H locs ls hR hS hl => lv_icmp_ne X.1 X.2.1 hd ht (fun q => kt q H locs ls hR hS hl) (fun q => kf q H locs ls hR hS hl)
theorem x_if_lt (X : XC p s m args meth c cx b nL rt own mn) {x : Int32} {off : Int} {tgt : Nat} (hd : decode b pc = .ok (.ifCond .lt off, 3)) (ht : (pc : Int) + off = (tgt : Int)) (kt : x < 0 → XW p l e R s m args below meth c Q cx nL D P nx cells slots tgt lv st) (kf : ¬ x < 0 → XW p l e R s m args below meth c Q cx nL D P nx cells slots (pc + 3) lv st) : XW p l e R s m args below meth c Q cx nL D P nx cells slots pc lv (.int x :: st) :=
  fun H locs ls hR hS hl => lv_if_lt X.1 X.2.1 hd ht (fun q => kt q H locs ls hR hS hl) (fun q => kf q H locs ls hR hS hl)
theorem x_icmp_lt (X : XC p s m args meth c cx b nL rt own mn) {x y : Int32} {off : Int} {tgt : Nat} (hd : decode b pc = .ok (.if_icmp .lt off, 3)) (ht : (pc : Int) + off = (tgt : Int)) (kt : x < y → XW p l e R s m args below meth c Q cx nL D P nx cells slots tgt lv st) (kf : ¬ x < y → XW p l e R s m args below meth c Q cx nL D P nx cells slots (pc + 3) lv st) : XW p l e R s m args below meth c Q cx nL D P nx cells slots pc lv (.int y :: .int x :: st) :=
  fun H locs ls hR hS hl => lv_icmp_lt X.1 X.2.1 hd ht (fun q => kt q H locs ls hR hS hl) (fun q => kf q H locs ls hR hS hl)
theorem x_if_ge (X : XC p s m args meth c cx b nL rt own mn) {x : Int32} {off : Int} {tgt : Nat} (hd : decode b pc = .ok (.ifCond .ge off, 3)) (ht : (pc : Int) + off = (tgt : Int)) (kt : 0 ≤ x → XW p l e R s m args below meth c Q cx nL D P nx cells slots tgt lv st) (kf : ¬ 0 ≤ x → XW p l e R s m args below meth c Q cx nL D P nx cells slots (pc + 3) lv st) : XW p l e R s m args below meth c Q cx nL D P nx cells slots pc lv (.int x :: st) :=
  fun H locs ls hR hS hl => lv_if_ge X.1 X.2.1 hd ht (fun q => kt q H locs ls hR hS hl) (fun q => kf q H locs ls hR hS hl)
theorem x_icmp_ge (X : XC p s m args meth c cx b nL rt own mn) {x y : Int32} {off : Int} {tgt : Nat} (hd : decode b pc = .ok (.if_icmp .ge off, 3)) (ht : (pc : Int) + off = (tgt : Int)) (kt : y ≤ x → XW p l e R s m args below meth c Q cx nL D P nx cells slots tgt lv st) (kf : ¬ y ≤ x → XW p l e R s m args below meth c Q cx nL D P nx cells slots (pc + 3) lv st) : XW p l e R s m args below meth c Q cx nL D P nx cells slots pc lv (.int y :: .int x :: st) :=
  fun H locs ls hR hS hl => lv_icmp_ge X.1 X.2.1 hd ht (fun q => kt q H locs ls hR hS hl) (fun q => kf q H locs ls hR hS hl)
theorem x_if_gt (X : XC p s m args meth c cx b nL rt own mn) {x : Int32} {off : Int} {tgt : Nat} (hd : decode b pc = .ok (.ifCond .gt off, 3)) (ht : (pc : Int) + off = (tgt : Int)) (kt : 0 < x → XW p l e R s m args below meth c Q cx nL D P nx cells slots tgt lv st) (kf : ¬ 0 < x → XW p l e R s m args below meth c Q cx nL D P nx cells slots (pc + 3) lv st) : XW p l e R s m args below meth c Q cx nL D P nx cells slots pc lv (.int x :: st) :=
  fun H locs ls hR hS hl => lv_if_gt X.1 X.2.1 hd ht (fun q => kt q H locs ls hR hS hl) (fun q => kf q H locs ls hR hS hl)
theorem x_icmp_gt (X : XC p s m args meth c cx b nL rt own mn) {x y : Int32} {off : Int} {tgt : Nat} (hd : decode b pc = .ok (.if_icmp .gt off, 3)) (ht : (pc : Int) + off = (tgt : Int)) (kt : y < x → XW p l e R s m args below meth c Q cx nL D P nx cells slots tgt lv st) (kf : ¬ y < x → XW p l e R s m args below meth c Q cx nL D P nx cells slots (pc + 3) lv st) : XW p l e R s m args below meth c Q cx nL D P nx cells slots pc lv (.int y :: .int x :: st) :=
  fun H locs ls hR hS hl => lv_icmp_gt X.1 X.2.1 hd ht (fun q => kt q H locs ls hR hS hl) (fun q => kf q H locs ls hR hS hl)
theorem x_if_le (X : XC p s m args meth c cx b nL rt own mn) {x : Int32} {off : Int} {tgt : Nat} (hd : decode b pc = .ok (.ifCond .le off, 3)) (ht : (pc : Int) + off = (tgt : Int)) (kt : x ≤ 0 → XW p l e R s m args below meth c Q cx nL D P nx cells slots tgt lv st) (kf : ¬ x ≤ 0 → XW p l e R s m args below meth c Q cx nL D P nx cells slots (pc + 3) lv st) : XW p l e R s m args below meth c Q cx nL D P nx cells slots pc lv (.int x :: st) :=
  fun H locs ls hR hS hl => lv_if_le X.1 X.2.1 hd ht (fun q => kt q H locs ls hR hS hl) (fun q => kf q H locs ls hR hS hl)
theorem x_icmp_le (X : XC p s m args meth c cx b nL rt own mn) {x y : Int32} {off : Int} {tgt : Nat} (hd : decode b pc = .ok (.if_icmp .le off, 3)) (ht : (pc : Int) + off = (tgt : Int)) (kt : x ≤ y → XW p l e R s m args below meth c Q cx nL D P nx cells slots tgt lv st) (kf : ¬ x ≤ y → XW p l e R s m args below meth c Q cx nL D P nx cells slots (pc + 3) lv st) : XW p l e R s m args below meth c Q cx nL D P nx cells slots pc lv (.int y :: .int x :: st) :=
  fun H locs ls hR hS hl => lv_icmp_le X.1 X.2.1 hd ht (fun q => kt q H locs ls hR hS hl) (fun q => kf q H locs ls hR hS hl)
theorem x_ifnull (X : XC p s m args meth c cx b nL rt own mn) {x : Nat} {off : Int} (hd : decode b pc = .ok (.ifnull off, 3)) (kk : XW p l e R s m args below meth c Q cx nL D P nx cells slots (pc + 3) lv st) : XW p l e R s m args below meth c Q cx nL D P nx cells slots pc lv (.ref x :: st) :=
  fun H locs ls hR hS hl => lv_ifnull X.1 X.2.1 hd (kk H locs ls hR hS hl)
theorem x_ifnullN (X : XC p s m args meth c cx b nL rt own mn) {off : Int} {tgt : Nat} (hd : decode b pc = .ok (.ifnull off, 3)) (ht : (pc : Int) + off = (tgt : Int)) (kk : XW p l e R s m args below meth c Q cx nL D P nx cells slots tgt lv st) : XW p l e R s m args below meth c Q cx nL D P nx cells slots pc lv (.null :: st) :=
  fun H locs ls hR hS hl => lv_ifnullN X.1 X.2.1 hd ht (kk H locs ls hR hS hl)
theorem x_ifnonnull (X : XC p s m args meth c cx b nL rt own mn) {x : Nat} {off : Int} {tgt : Nat} (hd : decode b pc = .ok (.ifnonnull off, 3)) (ht : (pc : Int) + off = (tgt : Int)) (kk : XW p l e R s m args below meth c Q cx nL D P nx cells slots tgt lv st) : XW p l e R s m args below meth c Q cx nL D P nx cells slots pc lv (.ref x :: st) :=
  fun H locs ls hR hS hl => lv_ifnonnull X.1 X.2.1 hd ht (kk H locs ls hR hS hl)
theorem x_ifnonnullN (X : XC p s m args meth c cx b nL rt own mn) {off : Int} (hd : decode b pc = .ok (.ifnonnull off, 3)) (kk : XW p l e R s m args below meth c Q cx nL D P nx cells slots (pc + 3) lv st) : XW p l e R s m args below meth c Q cx nL D P nx cells slots pc lv (.null :: st) :=
  fun H locs ls hR hS hl => lv_ifnonnullN X.1 X.2.1 hd (kk H locs ls hR hS hl)
theorem x_tsw (X : XC p s m args meth c cx b nL rt own mn) {dflt lo hi : Int} {offs : Array Int} {len : Nat} {x : Int32} {off : Int} {tgt : Nat} (v : Int32) (hd : decode b pc = .ok (.tableswitch dflt lo hi offs, len)) (hx : x = v) (h1 : ¬ v.toInt < lo) (h2 : ¬ hi < v.toInt) (ho : offs[(v.toInt - lo).toNat]? = some off) (ht : (pc : Int) + off = (tgt : Int)) (kk : XW p l e R s m args below meth c Q cx nL D P nx cells slots tgt lv st) : XW p l e R s m args below meth c Q cx nL D P nx cells slots pc lv (.int x :: st) := by
  subst hx
  exact fun H locs ls hR hS hl => lv_tableIn X.1 X.2.1 hd h1 h2 ho ht (kk H locs ls hR hS hl)
theorem x_tswd (X : XC p s m args meth c cx b nL rt own mn) {dflt lo hi : Int} {offs : Array Int} {len : Nat} {x : Int32} {tgt : Nat} (hd : decode b pc = .ok (.tableswitch dflt lo hi offs, len)) (h : x.toInt < lo ∨ hi < x.toInt) (ht : (pc : Int) + dflt = (tgt : Int)) (kk : XW p l e R s m args below meth c Q cx nL D P nx cells slots tgt lv st) : XW p l e R s m args below meth c Q cx nL D P nx cells slots pc lv (.int x :: st) :=
  fun H locs ls hR hS hl => lv_tableOut X.1 X.2.1 hd h ht (kk H locs ls hR hS hl)
theorem x_lsw (X : XC p s m args meth c cx b nL rt own mn) {dflt : Int} {ps : Array (Int × Int)} {len : Nat} {x : Int32} {off : Int} {tgt : Nat} (v : Int32) (hd : decode b pc = .ok (.lookupswitch dflt ps, len)) (hp : (ps.toList.zip (ps.toList.drop 1)).all (fun (a, next) => a.1 < next.1) = true) (hx : x = v) (ho : Op.lookupswitch.offset ps.toList dflt v.toInt = off) (ht : (pc : Int) + off = (tgt : Int)) (kk : XW p l e R s m args below meth c Q cx nL D P nx cells slots tgt lv st) : XW p l e R s m args below meth c Q cx nL D P nx cells slots pc lv (.int x :: st) := by
  subst hx
  exact fun H locs ls hR hS hl => lv_lookup X.1 X.2.1 hd hp ho ht (kk H locs ls hR hS hl)
theorem x_lswd (X : XC p s m args meth c cx b nL rt own mn) {dflt : Int} {ps : Array (Int × Int)} {len : Nat} {x : Int32} {off : Int} {tgt : Nat} (hd : decode b pc = .ok (.lookupswitch dflt ps, len)) (hp : (ps.toList.zip (ps.toList.drop 1)).all (fun (a, next) => a.1 < next.1) = true) (ho : Op.lookupswitch.offset ps.toList dflt x.toInt = off) (ht : (pc : Int) + off = (tgt : Int)) (kk : XW p l e R s m args below meth c Q cx nL D P nx cells slots tgt lv st) : XW p l e R s m args below meth c Q cx nL D P nx cells slots pc lv (.int x :: st) :=
  fun H locs ls hR hS hl => lv_lookup X.1 X.2.1 hd hp ho ht (kk H locs ls hR hS hl)
theorem sw_out {x : Int32} {n : Nat} (hn : n < 1000) (h : ∀ k, k < n → ¬ x = nI k) : x.toInt < 0 ∨ (n : Int) - 1 < x.toInt := by
  by_cases q : x.toInt < 0
  · exact Or.inl q
  · right
    apply Classical.byContradiction
    intro z
    refine h x.toInt.toNat (by omega) ?_
    apply Int32.toInt_inj.mp
    rw [nI_toInt (by omega)]
    omega
end XR
