/-! the world: relative addresses, numbers apart from references; the judgement rn ("runs to an end in Q"), a row an instruction -/
abbrev vV : Type := Int32 ⊕ (Int64 ⊕ Nat)
abbrev hP : Type := Nat × (Nat → Nat × Nat) × (Nat → Nat → Nat) × (Nat → Nat → Int32)
abbrev eE : Type := Nat × Heap × (Nat → Nat) × va_G × (Nat → ClassId) × (Nat × (Nat → Int32))
def allw : List Cond := lw_tbl.filter goodWord
theorem aw {w : Cond} (h : w ∈ lw_tbl) (g : goodWord w = true) : w ∈ allw := List.mem_filter.mpr ⟨h, g⟩
theorem allw_good {cc : Cond} (hc : cc ∈ allw) : GoodIn allw (cc :: allw) := by
  intro w hw
  have : w ∈ allw := by
    rcases List.mem_cons.mp hw with h | h
    · rw [h]; exact hc
    · exact h
  exact ⟨this, good_of_word (List.mem_filter.mp this).2⟩
/-- the own classes -/
def clC (ci : Nat) : String := match ci with | 0 => RX0 | 1 => RX1 | 2 => RX2 | 3 => RX3 | 4 => RX4 | _ => RX5
def clT (ci : Nat) : u_T := match ci with | 0 => TX0 | 1 => TX1 | 2 => TX2 | 3 => TX3 | 4 => TX4 | _ => TX5
def clN (ci : Nat) : Nat := match ci with | 0 => 10 | 1 => 3 | 2 => 12 | 3 => 8 | 4 => 5 | _ => 6
def clY (ci : Nat) : Nat → FieldType := match ci with | 0 => tyX0 | 1 => tyX1 | 2 => tyX2 | 3 => tyX3 | 4 => tyX4 | _ => tyX5
/-- which fields hold references -/
def fT (ci k : Nat) : Bool := match ci with
  | 0 => decide (k < 5)
  | 1 => decide (k < 1)
  | 2 => false
  | 3 => decide (k < 2)
  | 4 => false
  | _ => true
/-- the arrays' kinds: 10 int[], 11 boolean[], 12 Person[], 13 Job[], 14 Firm[] -/
def aTy (k : Nat) : FieldType := match k with
  | 10 => .int
  | 11 => .boolean
  | 12 => .object RX4
  | 13 => .object RX2
  | _ => .object RX0
/-- the constants' places: 1 to 3 the tables, 4 to 9 the texts, 10 to 15 their bytes -/
def sLen (k : Nat) : Nat := match k with | 1 => 4 | 2 => 4 | _ => 3
def sDat (k j : Nat) : Int32 := match k with
  | 1 => [0, 1, 0, 1].getD j 0
  | 2 => [50, 20, 20, 6].getD j 0
  | _ => [5, 10, 20].getD j 0
def sNam (k : Nat) : String := match k with | 1 => "LOWEST_SETTING" | 2 => "HIGHEST_SETTING" | _ => "LIGHTER_BY"
def tLen : List Nat := [7, 0, 3, 2, 9, 1]
def tByt : List (List Int32) := [[119, 106, 103, 100, 120, 97, 110], [], [78, 43, 78], [78, 58], [78, 44, 68, 44, 68, 44, 68, 44, 78], [78]]
def nestW : List Cond := [.methodLinkNest RX0 33 yX4_init RX5, .methodLinkNest RX0 34 yX2_init RX5, .methodLinkNest RX5 36 yX3_init RX5, .methodLinkNest RX0 64 yX5_isWithin RX5, .fieldLinkNest RX0 68 "PianoCrews" "LOWEST_SETTING" "[I" RX5, .fieldLinkNest RX0 71 "PianoCrews" "HIGHEST_SETTING" "[I" RX5, .methodLinkNest RX0 78 yX5_isKind RX5, .methodLinkNest RX0 117 yX5_isKindOrNone RX5, .methodLinkNest RX0 101 yX5_isIn RX5, .fieldLinkNest RX0 91 "PianoCrews" "LIGHTER_BY" "[I" RX5]
def ad (E : eE) (o : Nat) : Nat := E.1 + (o - 18)
def eA (E : eE) (k : Nat) : Option Nat := if k = 0 then none else if k < 18 then some (E.2.2.1 k) else some (ad E k)
def eR (E : eE) (k : Nat) : Value := va_rf (eA E k)
def eV (E : eE) (v : vV) : Value := match v with
  | .inl i => .int i
  | .inr (.inl x) => .long x
  | .inr (.inr k) => eR E k
def eL (E : eE) (ls : List (Nat × vV)) : List (Nat × Value) := ls.map (fun q => (q.1, eV E q.2))
def rS (E : eE) (r : Option vV) : List Value := match r with
  | none => []
  | some v => [eV E v]
/-- one cell of the world -/
def cAt (E : eE) (o : Nat) (kl : Nat × Nat) (r : Nat → Nat) (dd : Nat → Int32) (H : Heap) : Prop :=
  if kl.1 < 6 then t_OB (ad E o) (E.2.2.2.1.1 kl.1) (clN kl.1) (E.2.2.2.1.2 kl.1) H (fun k => if fT kl.1 k = true then eR E (r k) else .int (dd k))
  else H[ad E o]? = some (arrV (E.2.2.2.2.1 kl.1) kl.2 (fun j => if kl.1 < 12 then .int (dd j) else eR E (r j)))
def wd (E : eE) (h : hP) (H : Heap) : Prop :=
  H.size = E.1 + h.1 ∧ (∀ q : Nat, q < E.1 → H[q]? = E.2.1[q]?) ∧ ∀ o : Nat, 18 ≤ o → o < 18 + h.1 → cAt E o (h.2.1 o) (h.2.2.1 o) (h.2.2.2 o) H
/-- what of the machine's tables is used: the same all along -/
def bA (E : eE) : Nat → Prop := fun q => E.1 ≤ q
def St (E : eE) (s : State) : Prop :=
  E.2.1.size = E.1 ∧ (∀ ci, ci < 6 → u_Kn s (clC ci) (clT ci) (clN ci) (E.2.2.2.1.1 ci) (E.2.2.2.1.2 ci)) ∧
  (∀ k, 10 ≤ k → k < 15 → ArrOfT s (E.2.2.2.2.1 k) (aTy k) ∧ va_RA s (E.2.2.2.2.1 k) (aTy k)) ∧
  (∀ w ∈ nestW, va_Nw w s) ∧ (va_AO RX4 s ∧ va_AO RX2 s ∧ va_AO RX0 s) ∧
  (∀ k, 1 ≤ k → k < 4 → va_Z "PianoCrews" (sNam k) "[I" (.ref (E.2.2.1 k)) (bA E) s E.2.1 ∧ va_T .int (E.2.2.1 k) (sLen k) (fun j => .int (sDat k j)) (bA E) s E.2.1) ∧
  True ∧ True ∧ True ∧ True ∧
  (va_X (E.2.2.1 17) E.2.2.2.2.2.1 E.2.2.2.2.2.2 s E.2.1 ∧ E.2.2.1 17 < E.1 ∧ E.2.2.2.2.2.1 ≤ 3072)
theorem nest_cases {P : Cond → Prop} (h1 : ∀ a i x b, P (.methodLinkNest a i x b)) (h2 : ∀ a i b n d h, P (.fieldLinkNest a i b n d h)) : ∀ w ∈ nestW, P w := by
  intro w hw
  simp only [nestW, List.mem_cons, List.not_mem_nil, or_false] at hw
  rcases hw with rfl | rfl | rfl | rfl | rfl | rfl | rfl | rfl | rfl | rfl <;> first | exact h1 _ _ _ _ | exact h2 _ _ _ _ _ _
theorem St.warm {E : eE} {s U : State} (hW : s.WarmedH U.vm) (h : St E s) : St E U := by
  obtain ⟨h0, h1, h2, h3, h4, h5, h6, h7, gg, g7, g8, g9⟩ := h
  have hv := hW.alike
  refine ⟨h0, fun ci hc => u_Kn_moved hv (h1 ci hc), fun k a b => ⟨arrOfT_moved hv (h2 k a b).1, (h2 k a b).2.moved hv⟩, ?_, ⟨h4.1.moved hv, h4.2.1.moved hv, h4.2.2.moved hv⟩, fun k a b => ⟨(h5 k a b).1.moved hv, (h5 k a b).2.moved hv⟩, h6, h7, gg, g7, g8.moved hv, g9⟩
  exact fun w hw => nest_cases (P := fun w => va_Nw w s → va_Nw w U) (fun a i x b h => h.warmM hW) (fun a i b n d h9 h => h.warmF hW) w hw (h3 w hw)
theorem St.same {E : eE} {u U : State} (hv : u.vm = U.vm) (h : St E u) : St E U := by
  obtain ⟨h0, h1, h2, h3, h4, h5, h6, h7, gg, g7, g8, g9⟩ := h
  have ha : u.vm.Alike U.vm := by rw [hv]; exact Vm.Alike.refl _
  refine ⟨h0, fun ci hc => u_Kn_moved ha (h1 ci hc), fun k a b => ⟨arrOfT_moved ha (h2 k a b).1, (h2 k a b).2.moved ha⟩, ?_, ⟨h4.1.moved ha, h4.2.1.moved ha, h4.2.2.moved ha⟩, fun k a b => ⟨(h5 k a b).1.moved ha, (h5 k a b).2.moved ha⟩, h6, h7, gg, g7, g8.moved ha, g9⟩
  exact fun w hw => nest_cases (P := fun w => va_Nw w u → va_Nw w U) (fun a i x b h => h.same rfl hv) (fun a i b n d h9 h => h.same rfl hv) w hw (h3 w hw)
/-- a return instruction with its value -/
def rAt (cc : ByteArray) (ret : Option FieldType) (pc : Nat) (r : Option vV) : Prop :=
  (r = none ∧ ret = none ∧ decode cc pc = .ok (.return_, 1)) ∨ (∃ v ty, r = some (.inl v) ∧ ret = some ty ∧ narrow ty (.int v) = .int v ∧ decode cc pc = .ok (.ireturn, 1)) ∨
  (∃ k n, r = some (.inr (.inr k)) ∧ ret = some (.object n) ∧ decode cc pc = .ok (.areturn, 1)) ∨ (∃ x, r = some (.inr (.inl x)) ∧ ret = some .long ∧ decode cc pc = .ok (.lreturn, 1))
def cx (l : Launch) (E : eE) (d : Nat) (y : MethodName) (cc : ByteArray) (nL : Nat) (ret : Option FieldType) (Q : Option vV → hP → Prop) (p : Program) (e : Env) (R : Room) (s : State) (m : MethodId) (args : Array Value) (below : List Frame) (meth : Method) (c : Code) (mc ms : Nat) (Z : State → Prop) : Prop :=
  p.tables.exec = Jvm.exec ∧ c.code = cc ∧ c.maxLocals = nL ∧ s.vm.findClass y.cls = some m.cls ∧ (∀ w ∈ allw, w.before args s = true) ∧ meth.locks = false ∧ meth.name = y.name ∧ St E s ∧ d ≤ R.frames ∧ 37 * d ≤ R.locals ∧ R.cells = mc ∧ R.slots = ms ∧
  (∀ (r : Option vV) (h' : hP) (pc' : Nat) (arr' : Array Slot) (H' : Heap) (locs' : List Loc) (cells' slots' : Nat), Q r h' → rAt cc ret pc' r → wd E h' H' → (∀ q ∈ locs', E.1 ≤ q.base) → cells' ≤ mc → slots' ≤ ms → W p l e R s m args below meth c H' locs' cells' slots' Z (F0 m pc' arr' (rS E r)))
def rn (l : Launch) (E : eE) (d a b : Nat) (y : MethodName) (cc : ByteArray) (nL : Nat) (ret : Option FieldType) (pc : Nat) (ls : List (Nat × vV)) (st : List vV) (h : hP) (Q : Option vV → hP → Prop) : Prop :=
  ∀ (p : Program) (e : Env) (R : Room) (s : State) (m : MethodId) (args : Array Value) (below : List Frame) (meth : Method) (c : Code) (mc ms : Nat) (Z : State → Prop), cx l E d y cc nL ret Q p e R s m args below meth c mc ms Z →
  ∀ (H : Heap) (locs : List Loc) (cells slots : Nat) (arr : Array Slot), wd E h H → (∀ q ∈ locs, E.1 ≤ q.base) → cells + a ≤ mc → slots + b ≤ ms → lv_has arr nL (eL E ls) → W p l e R s m args below meth c H locs cells slots Z (F0 m pc arr (st.map (eV E)))
/-- the contract of a method at given arguments and world -/
def ct (l : Launch) (E : eE) (d a b : Nat) (y : MethodName) (cc : ByteArray) (nL : Nat) (ret : Option FieldType) (as : List vV) (h : hP) (Q : Option vV → hP → Prop) : Prop :=
  Met l y (.code y cc nL ret :: allw) { frames := d, cells := a, slots := b, locals := 37 * d } (fun v U => v = (as.map (eV E)).toArray ∧ wd E h U.heap ∧ St E U)
    (fun _ _ o t => ∃ r h', Q r h' ∧ o = .returned (r.map (eV E)) ∧ wd E h' t.heap) a b (bA E)
def aL : Nat → List vV → List (Nat × vV)
  | _, [] => []
  | i, v :: vs => (i, v) :: aL (match v with | .inr (.inl _) => i + 2 | _ => i + 1) vs
theorem eR_cat (E : eE) (k : Nat) : (eR E k).category = 1 := by
  unfold eR
  cases eA E k <;> rfl
theorem aL_args (E : eE) (vs : List vV) : ∀ i, eL E (aL i vs) = lv_args i (vs.map (eV E)) := by
  induction vs with
  | nil => intro i; rfl
  | cons v vs ih =>
    intro i
    show (i, eV E v) :: eL E (aL _ vs) = (i, eV E v) :: lv_args _ (vs.map (eV E))
    rw [ih]
    congr 2
    rcases v with x | x | k
    · rfl
    · rfl
    · show i + 1 = if (eR E k).category = 2 then i + 2 else i + 1
      rw [eR_cat]; rfl
