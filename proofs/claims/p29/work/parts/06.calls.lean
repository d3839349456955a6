/-! calls, makings, constants -/
def vcat (v : vV) : Nat := match v with | .inr (.inl _) => 2 | _ => 1
theorem cat_sum (E : eE) (rest : List vV) : ((rest.map (eV E)).map fun v => v.category).sum = (rest.map vcat).sum := by
  induction rest with
  | nil => rfl
  | cons v vs ih =>
    simp only [List.map_cons, List.sum_cons, ih]
    congr 1
    rcases v with x | x | k
    · rfl
    · rfl
    · exact eR_cat E k
def lkM (y' : MethodName) (cc' : ByteArray) (nL' : Nat) (ret' : Option FieldType) (k : Nat) : Prop :=
  Cond.initialized y'.cls ∈ allw ∧ Cond.code y' cc' nL' ret' ∈ allw ∧ (y'.cls ≠ "java/lang/invoke/MethodHandle" ∧ y'.cls ≠ "java/lang/invoke/VarHandle" ∧ (parseMethodDescriptor y'.desc).map (fun d => d.parameters.length) = some k) ∧ nL' ≤ 18
def lkV (own : String) (idx : Nat) (y' : MethodName) (cc' : ByteArray) (nL' : Nat) (ret' : Option FieldType) (k : Nat) : Prop :=
  lkM y' cc' nL' ret' k ∧ Cond.methodLink own idx y' ∈ allw ∧ Cond.instanceMethod y' ∈ allw ∧ Cond.selects y'.cls y' y' ∈ allw
def lkS (own : String) (idx : Nat) (y' : MethodName) (cc' : ByteArray) (nL' : Nat) (ret' : Option FieldType) (k : Nat) : Prop :=
  lkM y' cc' nL' ret' k ∧ Cond.methodLink own idx y' ∈ allw ∧ Cond.static y' ∈ allw
def lkSN (own : String) (idx : Nat) (y' : MethodName) (cc' : ByteArray) (nL' : Nat) (ret' : Option FieldType) (k : Nat) : Prop :=
  lkM y' cc' nL' ret' k ∧ Cond.methodLinkNest own idx y' RX5 ∈ nestW ∧ Cond.static y' ∈ allw
def lkI (own : String) (idx : Nat) (y' : MethodName) (cc' : ByteArray) (nL' : Nat) (k : Nat) : Prop :=
  lkM y' cc' nL' none k ∧ Cond.methodLink own idx y' ∈ allw ∧ Cond.instanceMethod y' ∈ allw ∧ y'.name = "<init>"
def lkIN (own : String) (idx : Nat) (y' : MethodName) (cc' : ByteArray) (nL' : Nat) (k : Nat) : Prop :=
  lkM y' cc' nL' none k ∧ Cond.methodLinkNest own idx y' RX5 ∈ nestW ∧ Cond.instanceMethod y' ∈ allw ∧ y'.name = "<init>"
def rcv (E : eE) (h : hP) (o : Nat) (Cn : String) : Prop := ∀ (s : State) (H : Heap), St E s → wd E h H → ∃ (q : Nat) (cellB : Cell), eR E o = .ref q ∧ H[q]? = some cellB ∧ cellB.vm.isStatics = false ∧ s.vm.findClass Cn = some cellB.cls
section RC

variable {l : Launch} {E : eE} {d a b : Nat} {y : MethodName} {cc : ByteArray} {nL : Nat} {ret : Option FieldType} {pc : Nat} {ls : List (Nat × vV)} {st : List vV} {h : hP} {Q : Option vV → hP → Prop}
variable {n : Nat} {S : Nat → Nat × Nat} {Rr : Nat → Nat → Nat} {D : Nat → Nat → Int32}
theorem rcv_own {ci o : Nat} (h16 : 18 ≤ o) (hn : o < 18 + n) (hc : ci < 6) (hS : (S o).1 = ci) : rcv E (n, S, Rr, D) o (clC ci) := by
  intro s H hSt hw
  obtain ⟨cell, q1, q2, q3, -⟩ := obj_at hw h16 hn hc hS
  exact ⟨ad E o, cell, eR_o E h16, q1, by rw [q3]; rfl, by rw [q2]; exact (hSt.2.1 ci hc).2.1⟩
def Pc9 (E : eE) (as : List vV) (h : hP) : Array Value → State → Prop := fun v U => v = (as.map (eV E)).toArray ∧ wd E h U.heap ∧ St E U
theorem Pc9_blind (as : List vV) (h : hP) : FrameBlind (Pc9 E as h) := fun v U g mk q => ⟨q.1, q.2.1, St.same (u := U) (U := U.calling g mk v) rfl q.2.2⟩
theorem call_fin {p : Program} {e : Env} {R : Room} {s : State} {m : MethodId} {args : Array Value} {below : List Frame} {meth : Method} {c : Code} {mc ms : Nat} {Z : State → Prop} {H : Heap} {locs : List Loc} {cells slots a1 b1 : Nat} {arr : Array Slot} {st0 : List Value} {rest : List vV} {Q1 : Option vV → hP → Prop}
    (C : cx l E d y cc nL ret Q p e R s m args below meth c mc ms Z)
    (hr : va_Run p l e R s m args below meth c H locs cells slots a1 b1 (F0 m pc arr st0) (rest.map (eV E)) (fun _ o t => ∃ r h', Q1 r h' ∧ o = .returned (r.map (eV E)) ∧ wd E h' t.heap) (bA E))
    (k : ∀ r h1, Q1 r h1 → rn l E d a b y cc nL ret (pc + 3) ls (r.toList ++ rest) h1 Q) (hlo : ∀ q ∈ locs, E.1 ≤ q.base) (hc : cells + (a1 + a) ≤ mc) (hs : slots + (b1 + b) ≤ ms) (hl : lv_has arr nL (eL E ls)) : W p l e R s m args below meth c H locs cells slots Z (F0 m pc arr st0) := by
  intro T hT X
  obtain ⟨v, st₀, t, T', L, h0, X', hL, e1, e2, ⟨r, h1, hq, ho, hw1⟩, st⟩ := hr T hT X
  injection ho with hv
  subst hv
  have k1 := k r h1 hq p e R s m args below meth c mc ms Z C T'.heap (locs ++ L) (cells + a1) (slots + b1) arr (by rw [e1]; exact hw1) (fun q hq => (List.mem_append.mp hq).elim (hlo q) (fun h => hL q h)) (by omega) (by omega) hl
  rw [← rS_map] at k1
  obtain ⟨t2, q1, q2⟩ := k1 T' rfl X'
  exact ⟨t2, st t2 q1, q2⟩
theorem callB9 {s : State} {args : Array Value} {R : Room} {own : String} {idx d' a1 b1 k : Nat} {y' : MethodName} {cc' : ByteArray} {nL' : Nat} {ret' : Option FieldType} (hts : ∀ w ∈ allw, w.before args s = true) (hM : lkM y' cc' nL' ret' k) (hl : Cond.methodLink own idx y' ∈ allw) (hdf : d' + 1 ≤ R.frames) (hdl : 37 * (d' + 1) ≤ R.locals) :
    CallB R s args own idx y' cc' nL' ret' (.code y' cc' nL' ret' :: allw) { frames := d', cells := a1, slots := b1, locals := 37 * d' } a1 b1 k := by
  obtain ⟨h1, h2, h3, h4⟩ := hM
  exact callB_of k hts (allw_good h2) rfl rfl rfl (hts _ h1) (hts _ hl) h3 ⟨hdf, by show 8 + (nL' + 11) + 37 * d' ≤ R.locals; omega⟩
theorem rn_callV {idx a1 b1 o k : Nat} {y' : MethodName} {cc' : ByteArray} {nL' : Nat} {ret' : Option FieldType} {as rest st0 : List vV} {Q1 : Option vV → hP → Prop} (hk : lkV y.cls idx y' cc' nL' ret' k) (hd : decode cc pc = .ok (.invokevirtual idx, 3)) (hrc' : rcv E h o y'.cls) (hst : st0 = as.reverse ++ .inr (.inr o) :: rest) (hn : as.length = k) (hW : (rest.map vcat).sum ≤ 8)
    (hM : ct l E d a1 b1 y' cc' nL' ret' (.inr (.inr o) :: as) h Q1) (k : ∀ r h1, Q1 r h1 → rn l E (d + 1) a b y cc nL ret (pc + 3) ls (r.toList ++ rest) h1 Q) : rn l E (d + 1) (a1 + a) (b1 + b) y cc nL ret pc ls st0 h Q := by
  intro p e R s m args below meth c mc ms Z C H locs cells slots arr hw hlo hc hs hl
  obtain ⟨hx, hb, hml, hown, hts, hlk, hnm, hSt, hdf, hdl, hrc, hrs, hZ⟩ := id C
  obtain ⟨hk1, hk2, hk3, hk4⟩ := hk
  obtain ⟨q, cellB, g1, g2, g3, g4⟩ := hrc' s H hSt hw
  subst hst
  refine call_fin C (va_runV (C := y'.cls) (b := q) (As := as.map (eV E)) (rest := rest.map (eV E)) (g := F0 m pc arr _) ⟨hx, hb, hml, hown, hts⟩ hM ⟨callB9 hts hk1 hk2 hdf hdl, hts _ hk3, hts _ hk4⟩ ⟨Pc9_blind (.inr (.inr o) :: as) h, ⟨cellB, g2, g3, g4⟩, fun U hU hW' => ⟨?_, by rw [hU]; exact hw, hSt.warm hW'⟩⟩ rfl (by rw [List.length_map]; exact hn) hl.1 ?_ (lv_room (by rw [cat_sum]; exact hW)) hd ⟨by omega, by omega⟩) k hlo hc hs hl
  · show (Value.ref q :: as.map (eV E)).toArray = ((eR E o) :: as.map (eV E)).toArray
    rw [g1]
  · show List.map (eV E) _ = _
    rw [List.map_append, List.map_reverse, List.map_cons, show eV E (.inr (.inr o)) = .ref q from g1]
theorem rn_callS {idx a1 b1 k : Nat} {y' : MethodName} {cc' : ByteArray} {nL' : Nat} {ret' : Option FieldType} {as rest st0 : List vV} {Q1 : Option vV → hP → Prop} (hk : lkS y.cls idx y' cc' nL' ret' k) (hd : decode cc pc = .ok (.invokestatic idx, 3)) (hst : st0 = as.reverse ++ rest) (hn : as.length = k) (hW : (rest.map vcat).sum ≤ 8)
    (hM : ct l E d a1 b1 y' cc' nL' ret' as h Q1) (k : ∀ r h1, Q1 r h1 → rn l E (d + 1) a b y cc nL ret (pc + 3) ls (r.toList ++ rest) h1 Q) : rn l E (d + 1) (a1 + a) (b1 + b) y cc nL ret pc ls st0 h Q := by
  intro p e R s m args below meth c mc ms Z C H locs cells slots arr hw hlo hc hs hl
  obtain ⟨hx, hb, hml, hown, hts, hlk, hnm, hSt, hdf, hdl, hrc, hrs, hZ⟩ := id C
  obtain ⟨hk1, hk2, hk3⟩ := hk
  subst hst
  refine call_fin C (va_runS (As := as.map (eV E)) (rest := rest.map (eV E)) (g := F0 m pc arr _) ⟨hx, hb, hml, hown, hts⟩ hM ⟨callB9 hts hk1 hk2 hdf hdl, hts _ hk3⟩ ⟨Pc9_blind as h, fun U hU hW' => ⟨rfl, by rw [hU]; exact hw, hSt.warm hW'⟩⟩ rfl (by rw [List.length_map]; exact hn) hl.1 ?_ (lv_room (by rw [cat_sum]; exact hW)) hd ⟨by omega, by omega⟩) k hlo hc hs hl
  show List.map (eV E) _ = _
  rw [List.map_append, List.map_reverse]
theorem rn_callI {idx a1 b1 o k : Nat} {y' : MethodName} {cc' : ByteArray} {nL' : Nat} {as rest st0 : List vV} {Q1 : Option vV → hP → Prop} (hk : lkI y.cls idx y' cc' nL' k) (hd : decode cc pc = .ok (.invokespecial idx, 3)) (ho : o ≠ 0) (hst : st0 = as.reverse ++ .inr (.inr o) :: rest) (hn : as.length = k) (hW : (rest.map vcat).sum ≤ 8)
    (hM : ct l E d a1 b1 y' cc' nL' none (.inr (.inr o) :: as) h Q1) (k : ∀ r h1, Q1 r h1 → rn l E (d + 1) a b y cc nL ret (pc + 3) ls (r.toList ++ rest) h1 Q) : rn l E (d + 1) (a1 + a) (b1 + b) y cc nL ret pc ls st0 h Q := by
  intro p e R s m args below meth c mc ms Z C H locs cells slots arr hw hlo hc hs hl
  obtain ⟨hx, hb, hml, hown, hts, hlk, hnm, hSt, hdf, hdl, hrc, hrs, hZ⟩ := id C
  obtain ⟨hk1, hk2, hk3, hk4⟩ := hk
  obtain ⟨q, g1⟩ := eR_at E ho
  subst hst
  refine call_fin C (va_runI (b := q) (As := as.map (eV E)) (rest := rest.map (eV E)) (g := F0 m pc arr _) ⟨hx, hb, hml, hown, hts⟩ hM ⟨callB9 hts hk1 hk2 hdf hdl, hk4, hts _ hk3⟩ ⟨Pc9_blind (.inr (.inr o) :: as) h, fun U hU hW' => ⟨?_, by rw [hU]; exact hw, hSt.warm hW'⟩⟩ rfl (by rw [List.length_map]; exact hn) hl.1 ?_ (lv_room (by rw [cat_sum]; exact hW)) hd ⟨by omega, by omega⟩) k hlo hc hs hl
  · show (Value.ref q :: as.map (eV E)).toArray = ((eR E o) :: as.map (eV E)).toArray
    rw [g1]
  · show List.map (eV E) _ = _
    rw [List.map_append, List.map_reverse, List.map_cons, show eV E (.inr (.inr o)) = .ref q from g1]
theorem callN9 {s : State} {args : Array Value} {R : Room} {own : String} {idx d' a1 b1 k : Nat} {y' : MethodName} {cc' : ByteArray} {nL' : Nat} {ret' : Option FieldType} (hSt : St E s) (hts : ∀ w ∈ allw, w.before args s = true) (hM : lkM y' cc' nL' ret' k) (hl : Cond.methodLinkNest own idx y' RX5 ∈ nestW) (hdf : d' + 1 ≤ R.frames) (hdl : 37 * (d' + 1) ≤ R.locals) :
    va_CN R s args own idx y' RX5 cc' nL' ret' (.code y' cc' nL' ret' :: allw) { frames := d', cells := a1, slots := b1, locals := 37 * d' } a1 b1 k := by
  obtain ⟨h1, h2, h3, h4⟩ := hM
  exact va_cnB k hts (allw_good h2) rfl rfl rfl (hSt.2.2.2.1 _ hl) (hts _ h1) h3 ⟨hdf, by show 8 + (nL' + 11) + 37 * d' ≤ R.locals; omega⟩
theorem rn_callSN {idx a1 b1 k : Nat} {y' : MethodName} {cc' : ByteArray} {nL' : Nat} {ret' : Option FieldType} {as rest st0 : List vV} {Q1 : Option vV → hP → Prop} (hk : lkSN y.cls idx y' cc' nL' ret' k) (hd : decode cc pc = .ok (.invokestatic idx, 3)) (hst : st0 = as.reverse ++ rest) (hn : as.length = k) (hW : (rest.map vcat).sum ≤ 8)
    (hM : ct l E d a1 b1 y' cc' nL' ret' as h Q1) (k : ∀ r h1, Q1 r h1 → rn l E (d + 1) a b y cc nL ret (pc + 3) ls (r.toList ++ rest) h1 Q) : rn l E (d + 1) (a1 + a) (b1 + b) y cc nL ret pc ls st0 h Q := by
  intro p e R s m args below meth c mc ms Z C H locs cells slots arr hw hlo hc hs hl
  obtain ⟨hx, hb, hml, hown, hts, hlk, hnm, hSt, hdf, hdl, hrc, hrs, hZ⟩ := id C
  obtain ⟨hk1, hk2, hk3⟩ := hk
  subst hst
  refine call_fin C (va_runSN (As := as.map (eV E)) (rest := rest.map (eV E)) (g := F0 m pc arr _) ⟨hx, hb, hml, hown, hts⟩ hM ⟨callN9 hSt hts hk1 hk2 hdf hdl, hts _ hk3, trivial⟩ ⟨Pc9_blind as h, fun U hU hW' => ⟨rfl, by rw [hU]; exact hw, hSt.warm hW'⟩⟩ rfl (by rw [List.length_map]; exact hn) hl.1 ?_ (lv_room (by rw [cat_sum]; exact hW)) hd ⟨by omega, by omega⟩) k hlo hc hs hl
  show List.map (eV E) _ = _
  rw [List.map_append, List.map_reverse]
theorem rn_callIN {idx a1 b1 o k : Nat} {y' : MethodName} {cc' : ByteArray} {nL' : Nat} {as rest st0 : List vV} {Q1 : Option vV → hP → Prop} (hk : lkIN y.cls idx y' cc' nL' k) (hd : decode cc pc = .ok (.invokespecial idx, 3)) (ho : o ≠ 0) (hst : st0 = as.reverse ++ .inr (.inr o) :: rest) (hn : as.length = k) (hW : (rest.map vcat).sum ≤ 8)
    (hM : ct l E d a1 b1 y' cc' nL' none (.inr (.inr o) :: as) h Q1) (k : ∀ r h1, Q1 r h1 → rn l E (d + 1) a b y cc nL ret (pc + 3) ls (r.toList ++ rest) h1 Q) : rn l E (d + 1) (a1 + a) (b1 + b) y cc nL ret pc ls st0 h Q := by
  intro p e R s m args below meth c mc ms Z C H locs cells slots arr hw hlo hc hs hl
  obtain ⟨hx, hb, hml, hown, hts, hlk, hnm, hSt, hdf, hdl, hrc, hrs, hZ⟩ := id C
  obtain ⟨hk1, hk2, hk3, hk4⟩ := hk
  obtain ⟨q, g1⟩ := eR_at E ho
  subst hst
  refine call_fin C (va_runIN (b := q) (As := as.map (eV E)) (rest := rest.map (eV E)) (g := F0 m pc arr _) ⟨hx, hb, hml, hown, hts⟩ hM ⟨callN9 hSt hts hk1 hk2 hdf hdl, hk4, hts _ hk3⟩ ⟨Pc9_blind (.inr (.inr o) :: as) h, fun U hU hW' => ⟨?_, by rw [hU]; exact hw, hSt.warm hW'⟩⟩ rfl (by rw [List.length_map]; exact hn) hl.1 ?_ (lv_room (by rw [cat_sum]; exact hW)) hd ⟨by omega, by omega⟩) k hlo hc hs hl
  · show (Value.ref q :: as.map (eV E)).toArray = ((eR E o) :: as.map (eV E)).toArray
    rw [g1]
  · show List.map (eV E) _ = _
    rw [List.map_append, List.map_reverse, List.map_cons, show eV E (.inr (.inr o)) = .ref q from g1]
theorem rn_objInit {idx o : Nat} (ho : o ≠ 0) (h1 : Cond.methodLink y.cls idx objectInit ∈ allw) (h2 : Cond.instanceMethod objectInit ∈ allw) (h3 : Cond.code objectInit ⟨#[0xb1]⟩ 1 none ∈ allw) (hd : decode cc pc = .ok (.invokespecial idx, 3)) (hW : (st.map vcat).sum ≤ 8)
    (k : rn l E (d + 1) a b y cc nL ret (pc + 3) ls st h Q) : rn l E (d + 1) a b y cc nL ret pc ls (.inr (.inr o) :: st) h Q := by
  intro p e R s m args below meth c mc ms Z C H locs cells slots arr hw hlo hc hs hl
  obtain ⟨hx, hb, hml, hown, hts, hlk, hnm, hSt, hdf, hdl, hrc, hrs, hZ⟩ := id C
  obtain ⟨q, g1⟩ := eR_at E ho
  have e0 : (Sum.inr (Sum.inr o) :: st : List vV).map (eV E) = .ref q :: st.map (eV E) := by rw [← g1]; rfl
  rw [e0]
  refine W.objInit hx hb hown (hts _ h1) (hts _ h2) (hts _ h3) rfl (by rw [hml]; exact hl.1) rfl hd (by omega) ?_ (k p e R s m args below meth c mc ms Z C H locs cells slots arr hw hlo hc hs hl)
  rw [cat_sum]
  show 2 * 0 + _ + 12 ≤ _
  omega
theorem cl_def {ci : Nat} (hc : ci < 6) : ∀ k, k < clN ci → defaultValue (clY ci k) = if fT ci k = true then Value.null else .int 0 := by
  match ci, hc with
  | 0, _ => intro k hk; match k, hk with
    | 0, _ => rfl
    | 1, _ => rfl
    | 2, _ => rfl
    | 3, _ => rfl
    | 4, _ => rfl
    | 5, _ => rfl
    | 6, _ => rfl
    | 7, _ => rfl
    | 8, _ => rfl
    | 9, _ => rfl
  | 1, _ => intro k hk; match k, hk with
    | 0, _ => rfl
    | 1, _ => rfl
    | 2, _ => rfl
  | 2, _ => intro k hk; match k, hk with
    | 0, _ => rfl
    | 1, _ => rfl
    | 2, _ => rfl
    | 3, _ => rfl
    | 4, _ => rfl
    | 5, _ => rfl
    | 6, _ => rfl
    | 7, _ => rfl
    | 8, _ => rfl
    | 9, _ => rfl
    | 10, _ => rfl
    | 11, _ => rfl
  | 3, _ => intro k hk; match k, hk with
    | 0, _ => rfl
    | 1, _ => rfl
    | 2, _ => rfl
    | 3, _ => rfl
    | 4, _ => rfl
    | 5, _ => rfl
    | 6, _ => rfl
    | 7, _ => rfl
  | 4, _ => intro k hk; match k, hk with
    | 0, _ => rfl
    | 1, _ => rfl
    | 2, _ => rfl
    | 3, _ => rfl
    | 4, _ => rfl
  | 5, _ => intro k hk; match k, hk with
    | 0, _ => rfl
    | 1, _ => rfl
    | 2, _ => rfl
    | 3, _ => rfl
    | 4, _ => rfl
    | 5, _ => rfl
theorem up_self {α : Type} (f : Nat → α) (k : Nat) (v : α) : va_up f k v k = v := if_pos rfl
theorem up_ne {α : Type} (f : Nat → α) {k j : Nat} (v : α) (h : j ≠ k) : va_up f k v j = f j := if_neg h
theorem wd_push {kl : Nat × Nat} {H H' : Heap} (hw : wd E (n, S, Rr, D) H) (z : H'.size = H.size + 1) (oq : ∀ q : Nat, q < H.size → H'[q]? = H[q]?) (hc : cAt E (18 + n) kl (fun _ => 0) (fun _ => 0) H') : wd E (n + 1, va_up S (18 + n) kl, va_up Rr (18 + n) (fun _ => 0), va_up D (18 + n) (fun _ => 0)) H' := by
  obtain ⟨h1, h2, h3⟩ := hw
  have h1 : H.size = E.1 + n := h1
  refine ⟨by rw [z, h1]; show _ = E.1 + (n + 1); omega, fun q hq => ?_, fun o ho hn => ?_⟩
  · rw [oq q (by omega)]; exact h2 q hq
  · show cAt E o (va_up S (18 + n) kl o) (va_up Rr (18 + n) (fun _ => 0) o) (va_up D (18 + n) (fun _ => 0) o) H'
    have hn : o < 18 + (n + 1) := hn
    by_cases e : o = 18 + n
    · subst e
      rw [up_self, up_self, up_self]; exact hc
    · rw [up_ne _ _ e, up_ne _ _ e, up_ne _ _ e]
      exact (h3 o ho (by show o < 18 + n; omega)).kept (oq _ (h3 o ho (by show o < 18 + n; omega)).lt)
theorem ad_new {H : Heap} (hw : wd E (n, S, Rr, D) H) : ad E (18 + n) = H.size := by
  rw [hw.1]; unfold ad
  show _ = E.1 + n
  omega
theorem rn_new {idx ci : Nat} (hc7 : ci < 6) (h1 : Cond.classLink y.cls idx (clC ci) ∈ allw) (h2 : Cond.instantiable (clC ci) (clN ci) ∈ allw) (h3 : Cond.initialized (clC ci) ∈ allw) (hd : decode cc pc = .ok (.new idx, 3))
    (k : rn l E d a b y cc nL ret (pc + 3) ls (.inr (.inr (18 + n)) :: st) (n + 1, va_up S (18 + n) (ci, 0), va_up Rr (18 + n) (fun _ => 0), va_up D (18 + n) (fun _ => 0)) Q) : rn l E d (1 + a) (clN ci + b) y cc nL ret pc ls st (n, S, Rr, D) Q := by
  intro p e R s m args below meth c mc ms Z C H locs cells slots arr hw hlo hc hs hl
  obtain ⟨hx, hb, hml, hown, hts, hlk, hnm, hSt, hdf, hdl, hrc, hrs, hZ⟩ := id C
  have hKn := hSt.2.1 ci hc7
  refine W.newcK (h := H.size) hx hb hown (hts _ h1) (hts _ h2) (hts _ h3) rfl hd (by omega) (by omega) hKn.2.1 rfl fun H1 kC hkC e1 z1 o1 => ?_
  have hcell : cAt E (18 + n) (ci, 0) (fun _ => 0) (fun _ => 0) H1 := by
    unfold cAt
    rw [if_pos hc7, ad_new hw]
    refine (u_born (clY ci) hts (cl_in hc7) hKn hkC e1 (cl_ty hc7)).to (fun j hj => ?_)
    rw [cl_def hc7 j hj]; rfl
  have k1 := k p e R s m args below meth c mc ms Z C H1 locs (cells + 1) (slots + clN ci) arr (wd_push hw z1 o1 hcell) hlo (by omega) (by omega) hl
  have e0 : (Sum.inr (Sum.inr (18 + n)) :: st : List vV).map (eV E) = .ref H.size :: st.map (eV E) := by rw [← ad_new hw, ← eR_o E (by omega)]; rfl
  rw [e0] at k1
  exact k1
theorem rn_newi {x : Int32} {N : Nat} (h1 : Cond.arrayClass .int ∈ allw) (hn : ¬ x < 0) (hN : x.toNatClampNeg = N) (hb4 : N * 4 ≤ 536870912) (hd : decode cc pc = .ok (.newarray .int, 2))
    (k : rn l E d a b y cc nL ret (pc + 2) ls (.inr (.inr (18 + n)) :: st) (n + 1, va_up S (18 + n) (10, N), va_up Rr (18 + n) (fun _ => 0), va_up D (18 + n) (fun _ => 0)) Q) : rn l E d (1 + a) (N + b) y cc nL ret pc ls (.inl x :: st) (n, S, Rr, D) Q := by
  intro p e R s m args below meth c mc ms Z C H locs cells slots arr hw hlo hc hs hl
  obtain ⟨hx, hb, hml, hown, hts, hlk, hnm, hSt, hdf, hdl, hrc, hrs, hZ⟩ := id C
  refine va_newaK (atype := .int) (h := H.size) hx hb (hts _ h1) rfl hd rfl hn hN hb4 (by omega) (by omega) rfl fun H1 cA e1 z1 o1 hAr hNm => ?_
  have hcA : cA = E.2.2.2.2.1 10 := Option.some.inj (hNm.symm.trans (hSt.2.2.1 10 (by omega) (by omega)).2)
  have hcell : cAt E (18 + n) (10, N) (fun _ => 0) (fun _ => 0) H1 := by
    unfold cAt
    rw [if_neg (by show ¬ 10 < 6; omega), ad_new hw, e1, hcA]; rfl
  have k1 := k p e R s m args below meth c mc ms Z C H1 locs (cells + 1) (slots + N) arr (wd_push hw z1 o1 hcell) hlo (by omega) (by omega) hl
  have e0 : (Sum.inr (Sum.inr (18 + n)) :: st : List vV).map (eV E) = .ref H.size :: st.map (eV E) := by rw [← ad_new hw, ← eR_o E (by omega)]; rfl
  rw [e0] at k1
  exact k1
theorem rn_newz {x : Int32} {N : Nat} (h1 : Cond.arrayClass .boolean ∈ allw) (hn : ¬ x < 0) (hN : x.toNatClampNeg = N) (hb4 : N * 1 ≤ 536870912) (hd : decode cc pc = .ok (.newarray .boolean, 2))
    (k : rn l E d a b y cc nL ret (pc + 2) ls (.inr (.inr (18 + n)) :: st) (n + 1, va_up S (18 + n) (11, N), va_up Rr (18 + n) (fun _ => 0), va_up D (18 + n) (fun _ => 0)) Q) : rn l E d (1 + a) (N + b) y cc nL ret pc ls (.inl x :: st) (n, S, Rr, D) Q := by
  intro p e R s m args below meth c mc ms Z C H locs cells slots arr hw hlo hc hs hl
  obtain ⟨hx, hb, hml, hown, hts, hlk, hnm, hSt, hdf, hdl, hrc, hrs, hZ⟩ := id C
  refine va_newaK (atype := .boolean) (h := H.size) hx hb (hts _ h1) rfl hd rfl hn hN hb4 (by omega) (by omega) rfl fun H1 cA e1 z1 o1 hAr hNm => ?_
  have hcA : cA = E.2.2.2.2.1 11 := Option.some.inj (hNm.symm.trans (hSt.2.2.1 11 (by omega) (by omega)).2)
  have hcell : cAt E (18 + n) (11, N) (fun _ => 0) (fun _ => 0) H1 := by
    unfold cAt
    rw [if_neg (by show ¬ 11 < 6; omega), ad_new hw, e1, hcA]; rfl
  have k1 := k p e R s m args below meth c mc ms Z C H1 locs (cells + 1) (slots + N) arr (wd_push hw z1 o1 hcell) hlo (by omega) (by omega) hl
  have e0 : (Sum.inr (Sum.inr (18 + n)) :: st : List vV).map (eV E) = .ref H.size :: st.map (eV E) := by rw [← ad_new hw, ← eR_o E (by omega)]; rfl
  rw [e0] at k1
  exact k1
theorem rn_newr {idx kd N : Nat} {x : Int32} (hk1 : 12 ≤ kd) (hk2 : kd < 15) (h1 : Cond.classLink y.cls idx (clC (aCl kd)) ∈ allw) (hn : ¬ x < 0) (hN : x.toNatClampNeg = N) (hb4 : N * 4 ≤ 536870912) (hd : decode cc pc = .ok (.anewarray idx, 3))
    (k : rn l E d a b y cc nL ret (pc + 3) ls (.inr (.inr (18 + n)) :: st) (n + 1, va_up S (18 + n) (kd, N), va_up Rr (18 + n) (fun _ => 0), va_up D (18 + n) (fun _ => 0)) Q) : rn l E d (1 + a) (N + b) y cc nL ret pc ls (.inl x :: st) (n, S, Rr, D) Q := by
  intro p e R s m args below meth c mc ms Z C H locs cells slots arr hw hlo hc hs hl
  obtain ⟨hx, hb, hml, hown, hts, hlk, hnm, hSt, hdf, hdl, hrc, hrs, hZ⟩ := id C
  have haty : aTy kd = .object (clC (aCl kd)) := by
    rcases (show kd = 12 ∨ kd = 13 ∨ kd = 14 by omega) with rfl | rfl | rfl <;> rfl
  have hover : va_AO (clC (aCl kd)) s := by
    obtain ⟨z1, z2, z3⟩ := hSt.2.2.2.2.1
    rcases (show kd = 12 ∨ kd = 13 ∨ kd = 14 by omega) with rfl | rfl | rfl
    · exact z1
    · exact z2
    · exact z3
  have hRA := (hSt.2.2.1 kd (by omega) (by omega)).2
  rw [haty] at hRA
  obtain ⟨kA0, comp0, -, -, -, k4⟩ := hRA
  subst hN
  refine W.anew hx hb hown (hts _ h1) (va_AO.use hover) rfl hd rfl hn hb4 (by omega) (by omega) fun cA kA comp f1 f2 f3 f4 => ?_
  have hcA : cA = E.2.2.2.2.1 kd := Option.some.inj (f1.symm.trans k4)
  generalize hH1 : H.push ({ cls := cA, slots := Array.replicate x.toNatClampNeg .null, vm := .none } : Cell) = H1
  have z1 : H1.size = H.size + 1 := by rw [← hH1, Array.size_push]
  have e1 : H1[H.size]? = some (arrV cA x.toNatClampNeg (fun _ => .null)) := by rw [← hH1, Array.getElem?_push_size, ← arrV_new]
  have o1 : ∀ q : Nat, q < H.size → H1[q]? = H[q]? := fun q hq => by rw [← hH1, Array.getElem?_push, if_neg (Nat.ne_of_lt hq)]
  have hcell : cAt E (18 + n) (kd, x.toNatClampNeg) (fun _ => 0) (fun _ => 0) H1 := by
    unfold cAt
    rw [if_neg (by show ¬ kd < 6; omega), ad_new hw, e1, hcA]
    congr 2
    funext j
    show Value.null = if kd < 12 then _ else _
    rw [if_neg (by omega)]; rfl
  have k1 := k p e R s m args below meth c mc ms Z C H1 locs (cells + 1) (slots + x.toNatClampNeg) arr (wd_push hw z1 o1 hcell) hlo (by omega) (by omega) hl
  have e0 : (Sum.inr (Sum.inr (18 + n)) :: st : List vV).map (eV E) = .ref H.size :: st.map (eV E) := by rw [← ad_new hw, ← eR_o E (by omega)]; rfl
  rw [e0] at k1
  exact k1
theorem eR_s {k : Nat} (h1 : 1 ≤ k) (h2 : k < 18) : eR E k = .ref (E.2.2.1 k) := by
  unfold eR eA
  rw [if_neg (by omega), if_pos h2]; rfl
/-- a table's reference -/
theorem rn_gets {idx k : Nat} (h1 : 1 ≤ k) (h2 : k < 4) (hk : Cond.fieldLinkNest y.cls idx "PianoCrews" (sNam k) "[I" RX5 ∈ nestW) (hd : decode cc pc = .ok (.getstatic idx, 3))
    (kk : rn l E d a b y cc nL ret (pc + 3) ls (.inr (.inr k) :: st) h Q) : rn l E d a b y cc nL ret pc ls st h Q := by
  intro p e R s m args below meth c mc ms Z C H locs cells slots arr hw hlo hc hs hl
  obtain ⟨hx, hb, hml, hown, hts, hlk, hnm, hSt, hdf, hdl, hrc, hrs, hZ⟩ := id C
  obtain ⟨cf, kf, fi, f, q, cell, g1, g2, g3, g4, g5, g6, g7, g8⟩ := (hSt.2.2.2.2.2.1 k h1 h2).1
  have k1 := kk p e R s m args below meth c mc ms Z C H locs cells slots arr hw hlo hc hs hl
  have e0 : (Sum.inr (Sum.inr k) :: st : List vV).map (eV E) = .ref (E.2.2.1 k) :: st.map (eV E) := by rw [← eR_s h1 (by omega)]; rfl
  rw [e0] at k1
  exact va_WgetsN hx hb hown (va_Nw.use rfl (hSt.2.2.2.1 _ hk)) g1 g2 g3 g4 (by rw [hw.2.1 q (Nat.not_le.mp g8)]; exact g5) (fun z => by rw [z] at g6; cases g6) g7 rfl hd k1
theorem rn_siald {k : Nat} {i : Int32} (h1 : 1 ≤ k) (h2 : k < 4) (hi : vp_in i (sLen k)) (hd : decode cc pc = .ok (.iaload, 1))
    (kk : rn l E d a b y cc nL ret (pc + 1) ls (.inl (sDat k i.toNatClampNeg) :: st) h Q) : rn l E d a b y cc nL ret pc ls (.inl i :: .inr (.inr k) :: st) h Q := by
  intro p e R s m args below meth c mc ms Z C H locs cells slots arr hw hlo hc hs hl
  obtain ⟨hx, hb, hml, hown, hts, hlk, hnm, hSt, hdf, hdl, hrc, hrs, hZ⟩ := id C
  obtain ⟨cell, g1, g2, g3, g4, g5, g6, g7⟩ := (hSt.2.2.2.2.2.1 k h1 h2).2
  have hlt : i.toNatClampNeg < sLen k := Nat.not_le.mp fun q => hi (Or.inr q)
  have e0 : (Sum.inl i :: Sum.inr (Sum.inr k) :: st : List vV).map (eV E) = .int i :: .ref (E.2.2.1 k) :: st.map (eV E) := by rw [← eR_s h1 (by omega)]; rfl
  rw [e0]
  exact W.iald (v := .int (sDat k i.toNatClampNeg)) hx hb (by rw [hw.2.1 _ (Nat.not_le.mp g7)]; exact g1) g2 g3 (fun z => z.elim (fun z => hi (Or.inl z)) (fun z => by omega)) (g6 _ hlt) rfl rfl hd (kk p e R s m args below meth c mc ms Z C H locs cells slots arr hw hlo hc hs hl)

end RC