/-! the constructors: the world grows; what is not yet made is zero -/
theorem va_id {α : Type} (f : Nat → α) {k : Nat} {v : α} (h : f k = v) : va_up f k v = f := by
  funext j
  by_cases e : j = k
  · subst e; rw [up_self, h]
  · rw [up_ne f v e]
section IN
variable {l : Launch} {E : eE} {d a b a' b' : Nat} {y : MethodName} {cc : ByteArray} {nL : Nat} {ret : Option FieldType} {pc : Nat} {ls : List (Nat × vV)} {st : List vV} {Q : Option vV → hP → Prop}
variable {n : Nat} {R : Nat → Nat → Nat} {D : Nat → Nat → Int32}
theorem i_new {idx ci o : Nat} (ha : a' = 1 + a) (hb : b' = clN ci + b) (ho : 18 + n = o) (h0 : S0 o = (ci, 0)) (hR : R o = fun _ => 0) (hD : D o = fun _ => 0) (hc7 : ci < 6) (h1 : Cond.classLink y.cls idx (clC ci) ∈ allw) (h2 : Cond.instantiable (clC ci) (clN ci) ∈ allw) (h3 : Cond.initialized (clC ci) ∈ allw) (hd : decode cc pc = .ok (.new idx, 3))
    (k : rn l E d a b y cc nL ret (pc + 3) ls (.inr (.inr o) :: st) (n + 1, S0, R, D) Q) : rn l E d a' b' y cc nL ret pc ls st (n, S0, R, D) Q := by
  subst ha; subst hb; subst ho
  refine rn_new hc7 h1 h2 h3 hd ?_
  rw [va_id S0 h0, va_id R hR, va_id D hD]
  exact k
theorem i_int {N o : Nat} {x : Int32} (ha : a' = 1 + a) (hb : b' = N + b) (ho : 18 + n = o) (h0 : S0 o = (10, N)) (hR : R o = fun _ => 0) (hD : D o = fun _ => 0) (hN : x = nI N) (hb4 : N < 10000) (hd : decode cc pc = .ok (.newarray .int, 2))
    (k : rn l E d a b y cc nL ret (pc + 2) ls (.inr (.inr o) :: st) (n + 1, S0, R, D) Q) : rn l E d a' b' y cc nL ret pc ls (.inl x :: st) (n, S0, R, D) Q := by
  subst ha; subst hb; subst ho; subst hN
  refine rn_newi na_i (nI_pos (by omega)) (nI_clamp (by omega)) (by omega) hd ?_
  rw [va_id S0 h0, va_id R hR, va_id D hD]
  exact k
theorem i_boo {N o : Nat} {x : Int32} (ha : a' = 1 + a) (hb : b' = N + b) (ho : 18 + n = o) (h0 : S0 o = (11, N)) (hR : R o = fun _ => 0) (hD : D o = fun _ => 0) (hN : x = nI N) (hb4 : N < 10000) (hd : decode cc pc = .ok (.newarray .boolean, 2))
    (k : rn l E d a b y cc nL ret (pc + 2) ls (.inr (.inr o) :: st) (n + 1, S0, R, D) Q) : rn l E d a' b' y cc nL ret pc ls (.inl x :: st) (n, S0, R, D) Q := by
  subst ha; subst hb; subst ho; subst hN
  refine rn_newz na_z (nI_pos (by omega)) (nI_clamp (by omega)) (by omega) hd ?_
  rw [va_id S0 h0, va_id R hR, va_id D hD]
  exact k
theorem i_ref {idx kd N o : Nat} {x : Int32} (ha : a' = 1 + a) (hb : b' = N + b) (ho : 18 + n = o) (h0 : S0 o = (kd, N)) (hR : R o = fun _ => 0) (hD : D o = fun _ => 0) (hk1 : 12 ≤ kd) (hk2 : kd < 15) (h1 : Cond.classLink y.cls idx (clC (aCl kd)) ∈ allw) (hN : x = nI N) (hb4 : N < 10000) (hd : decode cc pc = .ok (.anewarray idx, 3))
    (k : rn l E d a b y cc nL ret (pc + 3) ls (.inr (.inr o) :: st) (n + 1, S0, R, D) Q) : rn l E d a' b' y cc nL ret pc ls (.inl x :: st) (n, S0, R, D) Q := by
  subst ha; subst hb; subst ho; subst hN
  refine rn_newr hk1 hk2 h1 (nI_pos (by omega)) (nI_clamp (by omega)) (by omega) hd ?_
  rw [va_id S0 h0, va_id R hR, va_id D hD]
  exact k
theorem i_ist {N o j : Nat} {i v : Int32} (hi : i = nI j) (hj : j < N) (hN : N < 10000) (h16 : 18 ≤ o) (hn : o < 18 + n) (hS : S0 o = (10, N)) (hd : decode cc pc = .ok (.iastore, 1))
    (kk : rn l E d a b y cc nL ret (pc + 1) ls st (n, S0, R, up2 D o j v) Q) : rn l E d a b y cc nL ret pc ls (.inl v :: .inl i :: .inr (.inr o) :: st) (n, S0, R, D) Q := by
  subst hi
  refine rn_iast h16 hn hS (nI_in hj (by omega)) hd ?_
  rw [nI_clamp (by omega)]
  exact kk
theorem i_ast {kd N o q j : Nat} {i : Int32} (hi : i = nI j) (hj : j < N) (hN : N < 10000) (h16 : 18 ≤ o) (hn : o < 18 + n) (hk1 : 12 ≤ kd) (hk2 : kd < 15) (hS : S0 o = (kd, N)) (hq1 : 18 ≤ q) (hq2 : q < 18 + n) (hq3 : (S0 q).1 = aCl kd) (hd : decode cc pc = .ok (.aastore, 1))
    (kk : rn l E d a b y cc nL ret (pc + 1) ls st (n, S0, up2 R o j q, D) Q) : rn l E d a b y cc nL ret pc ls (.inr (.inr q) :: .inl i :: .inr (.inr o) :: st) (n, S0, R, D) Q := by
  subst hi
  refine rn_aast h16 hn hk1 hk2 hS (nI_in hj (by omega)) hq1 hq2 hq3 hd ?_
  rw [nI_clamp (by omega)]
  exact kk
theorem i_cI {idx a1 b1 o : Nat} {y' : MethodName} {cc' : ByteArray} {nL' : Nat} {h : hP} {Q1 : Option vV → hP → Prop} (ha : a' = a1 + a) (hb : b' = b1 + b) (hk : lkI y.cls idx y' cc' nL' 0) (hd : decode cc pc = .ok (.invokespecial idx, 3)) (ho : o ≠ 0) (hW : (st.map vcat).sum ≤ 8)
    (hM : ct l E d a1 b1 y' cc' nL' none [.inr (.inr o)] h Q1) (k : ∀ r h1, Q1 r h1 → rn l E (d + 1) a b y cc nL ret (pc + 3) ls (r.toList ++ st) h1 Q) : rn l E (d + 1) a' b' y cc nL ret pc ls (.inr (.inr o) :: st) h Q := by
  subst ha; subst hb
  exact rn_callI hk hd ho (as := []) (rest := st) rfl rfl hW hM k
theorem i_cN {idx a1 b1 o : Nat} {y' : MethodName} {cc' : ByteArray} {nL' : Nat} {h : hP} {Q1 : Option vV → hP → Prop} (ha : a' = a1 + a) (hb : b' = b1 + b) (hk : lkIN y.cls idx y' cc' nL' 0) (hd : decode cc pc = .ok (.invokespecial idx, 3)) (ho : o ≠ 0) (hW : (st.map vcat).sum ≤ 8)
    (hM : ct l E d a1 b1 y' cc' nL' none [.inr (.inr o)] h Q1) (k : ∀ r h1, Q1 r h1 → rn l E (d + 1) a b y cc nL ret (pc + 3) ls (r.toList ++ st) h1 Q) : rn l E (d + 1) a' b' y cc nL ret pc ls (.inr (.inr o) :: st) h Q := by
  subst ha; subst hb
  exact rn_callIN hk hd ho (as := []) (rest := st) rfl rfl hW hM k
end IN
/-! persons and jobs: nothing is made in them -/
section PJ
variable {l : Launch} {E : eE} {d : Nat} {h : hP} {o : Nat}
theorem i_X4 (ho : o ≠ 0) : ct l E (d + 1) 0 0 yX4_init cX4_init 1 none [.inr (.inr o)] h (fun r h' => r = none ∧ h' = h) := by
  refine ct_of_rn pl_X4_init (show (1 : Nat) ≤ 1 from Nat.le_refl _) ?_
  show rn l E (d + 1) 0 0 yX4_init cX4_init 1 none 0 [(0, .inr (.inr o))] [] h _
  refine rn_aload_n (i := 0) 0 rfl rfl ho dX4_init_0 ?_
  refine rn_objInit ho oi_X4_3 oi_1 oi_2 dX4_init_1 (by decide) ?_
  exact rn_retv ⟨rfl, rfl⟩ rfl dX4_init_4
theorem i_X2 (ho : o ≠ 0) : ct l E (d + 1) 0 0 yX2_init cX2_init 1 none [.inr (.inr o)] h (fun r h' => r = none ∧ h' = h) := by
  refine ct_of_rn pl_X2_init (show (1 : Nat) ≤ 1 from Nat.le_refl _) ?_
  show rn l E (d + 1) 0 0 yX2_init cX2_init 1 none 0 [(0, .inr (.inr o))] [] h _
  refine rn_aload_n (i := 0) 0 rfl rfl ho dX2_init_0 ?_
  refine rn_objInit ho oi_X2_3 oi_1 oi_2 dX2_init_1 (by decide) ?_
  exact rn_retv ⟨rfl, rfl⟩ rfl dX2_init_4
end PJ
