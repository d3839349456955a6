/-! the shape of the world once all is made (the same for ever), and the judgement ev: a method's end as a pure value -/
abbrev dT : Type := Nat → Nat → Int32
def fS (j : Nat) : Nat × Nat := if j = 0 then (0, 0) else if j = 1 then (10, 4) else if j = 2 then (10, 3) else if j = 3 then (10, 3) else if j = 4 then (12, 10) else if j = 5 then (13, 16) else if j < 16 then (4, 0) else (2, 0)
def n0 : Nat := 368
def S0 (o : Nat) : Nat × Nat :=
  if o = 18 then (5, 0) else if o < 83 then fS ((o - 19) % 32) else if o = 83 then (14, 2) else if o = 84 then (11, 2) else if o = 85 then (1, 0) else if o = 86 then (14, 7) else if o < 311 then fS ((o - 87) % 32) else if o = 311 then (3, 0) else if o = 312 then (10, 80) else if o = 313 then (10, 5) else if o < 378 then fS ((o - 314) % 32) else if o = 378 then (6, 0) else if o = 379 then (10, 244) else if o = 380 then (10, 244) else if o = 381 then (10, 1464) else if o = 382 then (10, 488) else if o = 383 then (11, 2) else if o = 384 then (10, 80) else (10, 252)
/-- the references within a firm that stands at B: of its cell j -/
def fR (B j k : Nat) : Nat := if j = 0 then (if k < 5 then B + 1 + k else 0) else if j = 4 then (if k < 10 then B + 6 + k else 0) else if j = 5 then (if k < 16 then B + 16 + k else 0) else 0
def R0 (o k : Nat) : Nat :=
  if o = 18 then (if k = 0 then 19 else if k = 1 then 51 else if k = 2 then 83 else if k = 3 then 84 else if k = 4 then 85 else if k = 5 then 311 else 0)
  else if o < 83 then fR (o - (o - 19) % 32) ((o - 19) % 32) k
  else if o = 83 then (if k = 0 then 314 else if k = 1 then 346 else 0)
  else if o = 85 then (if k = 0 then 86 else 0)
  else if o = 86 then (if k < 7 then 87 + 32 * k else 0)
  else if o < 87 then 0
  else if o < 311 then fR (o - (o - 87) % 32) ((o - 87) % 32) k
  else if o = 311 then (if k = 0 then 312 else if k = 1 then 313 else 0)
  else if o < 314 then 0
  else if o < 378 then fR (o - (o - 314) % 32) ((o - 314) % 32) k
  else if o = 378 then (if k = 1 then 379 else if k = 2 then 380 else if k = 3 then 381 else if k = 5 then 382 else if k = 6 then 383 else if k = 7 then 384 else if k = 11 then 385 else 0)
  else 0
abbrev hD (D : dT) : hP := (n0, S0, R0, D)
def lim : Nat := 100000
/-- one step, then the next, both pure -/
def bd {β α : Type} (o : Option (β × dT)) (f : β → dT → Option (α × dT)) : Option (α × dT) := match o with
  | none => none
  | some q => f q.1 q.2
theorem bd_some {β α : Type} {r : β} {D : dT} (f : β → dT → Option (α × dT)) : bd (some (r, D)) f = f r D := rfl
def firms : List Nat := [19, 51, 87, 119, 151, 183, 215, 247, 279, 314, 346]
abbrev isF (B : Nat) : Prop := B ∈ firms
def okO (o kd N : Nat) : Prop := 18 ≤ o ∧ o < 18 + n0 ∧ S0 o = (kd, N)
theorem okO_0 {o kd N : Nat} (h : okO o kd N) : o ≠ 0 := by have := h.1; omega
theorem okO_1 {o kd N : Nat} (h : okO o kd N) : (S0 o).1 = kd := by rw [h.2.2]
theorem firm_all {P : Nat → Prop} [DecidablePred P] (h : firms.all (fun B => decide (P B)) = true) {B : Nat} (hB : isF B) : P B := of_decide_eq_true (List.all_eq_true.mp h B hB)
theorem oF {B : Nat} (h : isF B) : okO B 0 0 := firm_all (P := fun B => 18 ≤ B ∧ B < 18 + n0 ∧ S0 B = (0, 0)) (by decide +kernel) h
theorem oF1 {B : Nat} (h : isF B) : okO (B + 1) 10 4 := firm_all (P := fun B => 18 ≤ B + 1 ∧ B + 1 < 18 + n0 ∧ S0 (B + 1) = (10, 4)) (by decide +kernel) h
theorem oF2 {B : Nat} (h : isF B) : okO (B + 2) 10 3 := firm_all (P := fun B => 18 ≤ B + 2 ∧ B + 2 < 18 + n0 ∧ S0 (B + 2) = (10, 3)) (by decide +kernel) h
theorem oF3 {B : Nat} (h : isF B) : okO (B + 3) 10 3 := firm_all (P := fun B => 18 ≤ B + 3 ∧ B + 3 < 18 + n0 ∧ S0 (B + 3) = (10, 3)) (by decide +kernel) h
theorem oF4 {B : Nat} (h : isF B) : okO (B + 4) 12 10 := firm_all (P := fun B => 18 ≤ B + 4 ∧ B + 4 < 18 + n0 ∧ S0 (B + 4) = (12, 10)) (by decide +kernel) h
theorem oF5 {B : Nat} (h : isF B) : okO (B + 5) 13 16 := firm_all (P := fun B => 18 ≤ B + 5 ∧ B + 5 < 18 + n0 ∧ S0 (B + 5) = (13, 16)) (by decide +kernel) h
theorem oP {B i : Nat} (h : isF B) (hi : i < 10) : okO (B + 6 + i) 4 0 := firm_all (P := fun B => ∀ i, i < 10 → 18 ≤ B + 6 + i ∧ B + 6 + i < 18 + n0 ∧ S0 (B + 6 + i) = (4, 0)) (by decide +kernel) h i hi
theorem oJ {B i : Nat} (h : isF B) (hi : i < 16) : okO (B + 16 + i) 2 0 := firm_all (P := fun B => ∀ i, i < 16 → 18 ≤ B + 16 + i ∧ B + 16 + i < 18 + n0 ∧ S0 (B + 16 + i) = (2, 0)) (by decide +kernel) h i hi
theorem rF0 {B : Nat} (h : isF B) : R0 B 0 = B + 1 := firm_all (P := fun B => R0 B 0 = B + 1) (by decide +kernel) h
theorem rF1 {B : Nat} (h : isF B) : R0 B 1 = B + 2 := firm_all (P := fun B => R0 B 1 = B + 2) (by decide +kernel) h
theorem rF2 {B : Nat} (h : isF B) : R0 B 2 = B + 3 := firm_all (P := fun B => R0 B 2 = B + 3) (by decide +kernel) h
theorem rF3 {B : Nat} (h : isF B) : R0 B 3 = B + 4 := firm_all (P := fun B => R0 B 3 = B + 4) (by decide +kernel) h
theorem rF4 {B : Nat} (h : isF B) : R0 B 4 = B + 5 := firm_all (P := fun B => R0 B 4 = B + 5) (by decide +kernel) h
theorem rP {B i : Nat} (h : isF B) (hi : i < 10) : R0 (B + 4) i = B + 6 + i := firm_all (P := fun B => ∀ i, i < 10 → R0 (B + 4) i = B + 6 + i) (by decide +kernel) h i hi
theorem rJ {B i : Nat} (h : isF B) (hi : i < 16) : R0 (B + 5) i = B + 16 + i := firm_all (P := fun B => ∀ i, i < 16 → R0 (B + 5) i = B + 16 + i) (by decide +kernel) h i hi
theorem rSl {i : Nat} (hi : i < 2) : R0 83 i = 314 + 32 * i := by
  rcases (show i = 0 ∨ i = 1 by omega) with rfl | rfl <;> rfl
theorem fSl {i : Nat} (hi : i < 2) : isF (314 + 32 * i) := by
  rcases (show i = 0 ∨ i = 1 by omega) with rfl | rfl <;> decide
theorem rHi {i : Nat} (hi : i < 7) : R0 86 i = 87 + 32 * i := by
  rcases (show i = 0 ∨ i = 1 ∨ i = 2 ∨ i = 3 ∨ i = 4 ∨ i = 5 ∨ i = 6 by omega) with rfl | rfl | rfl | rfl | rfl | rfl | rfl <;> rfl
theorem fHi {i : Nat} (hi : i < 7) : isF (87 + 32 * i) := by
  rcases (show i = 0 ∨ i = 1 ∨ i = 2 ∨ i = 3 ∨ i = 4 ∨ i = 5 ∨ i = 6 by omega) with rfl | rfl | rfl | rfl | rfl | rfl | rfl <;> decide
/-- an index that is tested -/
abbrev inR (i : Int32) (N : Nat) : Prop := ¬ i < 0 ∧ i.toNatClampNeg < N
theorem inR_vp {i : Int32} {N : Nat} (h : inR i N) : vp_in i N := fun z => z.elim h.1 (fun z => by have := h.2; omega)
def eI (r : Int32) : Option vV := some (.inl r)
def eU (_ : Int32) : Option vV := none
def eN (r : Nat) : Option vV := some (.inr (.inr r))
def ev {α : Type} (l : Launch) (E : eE) (d : Nat) (y : MethodName) (cc : ByteArray) (nL : Nat) (ret : Option FieldType) (pc : Nat) (ls : List (Nat × vV)) (st : List vV) (D : dT) (ε : α → Option vV) (o : Option (α × dT)) : Prop :=
  ∀ (r : α) (D' : dT), o = some (r, D') → rn l E d 0 0 y cc nL ret pc ls st (hD D) (fun r' h' => r' = ε r ∧ h' = hD D')
section EV
variable {α : Type} {l : Launch} {E : eE} {d : Nat} {y : MethodName} {cc : ByteArray} {nL : Nat} {ret : Option FieldType} {pc : Nat} {ls : List (Nat × vV)} {st : List vV} {D : dT} {ε : α → Option vV}
theorem ev_s {pc' : Nat} {ls' : List (Nat × vV)} {st' : List vV} {D' : dT} {o : Option (α × dT)} (hr : ∀ Q, rn l E d 0 0 y cc nL ret pc' ls' st' (hD D') Q → rn l E d 0 0 y cc nL ret pc ls st (hD D) Q) (k : ev l E d y cc nL ret pc' ls' st' D' ε o) : ev l E d y cc nL ret pc ls st D ε o :=
  fun r D1 e => hr _ (k r D1 e)
theorem ev_none : ev l E d y cc nL ret pc ls st D ε none := fun _ _ e => by cases e
theorem ev_if {c : Prop} [Decidable c] {pc1 pc2 : Nat} {st' : List vV} {o1 o2 : Option (α × dT)} (hr : ∀ Q, (c → rn l E d 0 0 y cc nL ret pc1 ls st' (hD D) Q) → (¬ c → rn l E d 0 0 y cc nL ret pc2 ls st' (hD D) Q) → rn l E d 0 0 y cc nL ret pc ls st (hD D) Q)
    (k1 : c → ev l E d y cc nL ret pc1 ls st' D ε o1) (k2 : ¬ c → ev l E d y cc nL ret pc2 ls st' D ε o2) : ev l E d y cc nL ret pc ls st D ε (if c then o1 else o2) := by
  intro r D1 e
  refine hr _ (fun h => k1 h r D1 ?_) (fun h => k2 h r D1 ?_)
  · rw [if_pos h] at e; exact e
  · rw [if_neg h] at e; exact e
theorem ev_ite {c : Prop} [Decidable c] {o1 o2 : Option (α × dT)} (k1 : c → ev l E d y cc nL ret pc ls st D ε o1) (k2 : ¬ c → ev l E d y cc nL ret pc ls st D ε o2) : ev l E d y cc nL ret pc ls st D ε (if c then o1 else o2) := by
  by_cases h : c
  · rw [if_pos h]; exact k1 h
  · rw [if_neg h]; exact k2 h
theorem ev_gd {c : Prop} [Decidable c] {o1 : Option (α × dT)} (k1 : c → ev l E d y cc nL ret pc ls st D ε o1) : ev l E d y cc nL ret pc ls st D ε (if c then o1 else none) := ev_ite k1 (fun _ => ev_none)
theorem ev_ret {r : α} (hr : ∀ Q : Option vV → hP → Prop, Q (ε r) (hD D) → rn l E d 0 0 y cc nL ret pc ls st (hD D) Q) : ev l E d y cc nL ret pc ls st D ε (some (r, D)) := by
  intro r' D1 e
  injection e with e
  injection e with e1 e2
  subst e1; subst e2
  exact hr _ ⟨rfl, rfl⟩
theorem ev_bindI {y' : MethodName} {cc' : ByteArray} {nL' : Nat} {ret' : Option FieldType} {as rest : List vV} {ls1 : List (Nat × vV)} {o1 : Option (Int32 × dT)} {f : Int32 → dT → Option (α × dT)}
    (hr : ∀ Q Q1, ct l E d 0 0 y' cc' nL' ret' as (hD D) Q1 → (∀ r h1, Q1 r h1 → rn l E (d + 1) 0 0 y cc nL ret (pc + 3) ls (r.toList ++ rest) h1 Q) → rn l E (d + 1) 0 0 y cc nL ret pc ls st (hD D) Q)
    (hy : plainFor y' = true) (hn : (as.map (fun v => match v with | .inr (.inl _) => 2 | _ => 1)).sum ≤ nL') (hl1 : aL 0 as = ls1) (hc : ev l E d y' cc' nL' ret' 0 ls1 [] D eI o1) (k : ∀ r D1, ev l E (d + 1) y cc nL ret (pc + 3) ls (.inl r :: rest) D1 ε (f r D1)) : ev l E (d + 1) y cc nL ret pc ls st D ε (bd o1 f) := by
  intro r D1 e
  subst hl1
  cases ho : o1 with
  | none => rw [ho] at e; cases e
  | some q =>
    obtain ⟨r1, D2⟩ := q
    rw [ho] at e
    refine hr _ _ (ct_of_rn hy hn (hc r1 D2 ho)) (fun r' h1 h => ?_)
    obtain ⟨rfl, rfl⟩ := h
    exact k r1 D2 r D1 e
theorem ev_bindU {y' : MethodName} {cc' : ByteArray} {nL' : Nat} {ret' : Option FieldType} {as rest : List vV} {ls1 : List (Nat × vV)} {o1 : Option (Int32 × dT)} {f : Int32 → dT → Option (α × dT)}
    (hr : ∀ Q Q1, ct l E d 0 0 y' cc' nL' ret' as (hD D) Q1 → (∀ r h1, Q1 r h1 → rn l E (d + 1) 0 0 y cc nL ret (pc + 3) ls (r.toList ++ rest) h1 Q) → rn l E (d + 1) 0 0 y cc nL ret pc ls st (hD D) Q)
    (hy : plainFor y' = true) (hn : (as.map (fun v => match v with | .inr (.inl _) => 2 | _ => 1)).sum ≤ nL') (hl1 : aL 0 as = ls1) (hc : ev l E d y' cc' nL' ret' 0 ls1 [] D eU o1) (k : ∀ r D1, ev l E (d + 1) y cc nL ret (pc + 3) ls rest D1 ε (f r D1)) : ev l E (d + 1) y cc nL ret pc ls st D ε (bd o1 f) := by
  intro r D1 e
  subst hl1
  cases ho : o1 with
  | none => rw [ho] at e; cases e
  | some q =>
    obtain ⟨r1, D2⟩ := q
    rw [ho] at e
    refine hr _ _ (ct_of_rn hy hn (hc r1 D2 ho)) (fun r' h1 h => ?_)
    obtain ⟨rfl, rfl⟩ := h
    exact k r1 D2 r D1 e
theorem ev_bindN {y' : MethodName} {cc' : ByteArray} {nL' : Nat} {ret' : Option FieldType} {as rest : List vV} {ls1 : List (Nat × vV)} {o1 : Option (Nat × dT)} {f : Nat → dT → Option (α × dT)}
    (hr : ∀ Q Q1, ct l E d 0 0 y' cc' nL' ret' as (hD D) Q1 → (∀ r h1, Q1 r h1 → rn l E (d + 1) 0 0 y cc nL ret (pc + 3) ls (r.toList ++ rest) h1 Q) → rn l E (d + 1) 0 0 y cc nL ret pc ls st (hD D) Q)
    (hy : plainFor y' = true) (hn : (as.map (fun v => match v with | .inr (.inl _) => 2 | _ => 1)).sum ≤ nL') (hl1 : aL 0 as = ls1) (hc : ev l E d y' cc' nL' ret' 0 ls1 [] D eN o1) (k : ∀ r D1, ev l E (d + 1) y cc nL ret (pc + 3) ls (.inr (.inr r) :: rest) D1 ε (f r D1)) : ev l E (d + 1) y cc nL ret pc ls st D ε (bd o1 f) := by
  intro r D1 e
  subst hl1
  cases ho : o1 with
  | none => rw [ho] at e; cases e
  | some q =>
    obtain ⟨r1, D2⟩ := q
    rw [ho] at e
    refine hr _ _ (ct_of_rn hy hn (hc r1 D2 ho)) (fun r' h1 h => ?_)
    obtain ⟨rfl, rfl⟩ := h
    exact k r1 D2 r D1 e
end EV
theorem nz_b {v : Int32} (h : v = 0 ∨ v = 1) : narrow .boolean (.int v) = .int v := by rcases h with rfl | rfl <;> rfl
theorem ft_b {v : Int32} (h : v = 0 ∨ v = 1) : fits .boolean (.int v) = true := by rcases h with rfl | rfl <;> rfl

section CP
variable {l : Launch} {E : eE} {d a b : Nat} {y : MethodName} {cc : ByteArray} {nL : Nat} {ret : Option FieldType} {pc : Nat} {ls : List (Nat × vV)} {st : List vV} {h : hP} {Q : Option vV → hP → Prop}
variable {n : Nat} {S : Nat → Nat × Nat} {Rr : Nat → Nat → Nat} {D : Nat → Nat → Int32}
def cp2 (D : Nat → Nat → Int32) (o q N : Nat) : Nat → Nat → Int32 := fun i j => if i = q ∧ j < N then D o j else D i j
theorem rn_copy0 {idx o q N0 N1 N : Nat} {x : Int32} (h1 : Cond.methodLink y.cls idx arraycopyName ∈ allw) (h2 : Cond.native arraycopyName ∈ allw) (h3 : Cond.static arraycopyName ∈ allw) (h4 : Cond.initialized "java/lang/System" ∈ allw)
    (ho : 18 ≤ o) (hno : o < 18 + n) (hSo : S o = (10, N0)) (hq : 18 ≤ q) (hnq : q < 18 + n) (hSq : S q = (10, N1)) (hx0 : ¬ x < 0) (hN : x.toNatClampNeg = N) (hN0 : N ≤ N0) (hN1 : N ≤ N1) (hW : (st.map vcat).sum ≤ 8) (hd : decode cc pc = .ok (.invokestatic idx, 3))
    (k : rn l E (d + 1) a b y cc nL ret (pc + 3) ls st (n, S, Rr, cp2 D o q N) Q) : rn l E (d + 1) a b y cc nL ret pc ls (.inl x :: .inl 0 :: .inr (.inr q) :: .inl 0 :: .inr (.inr o) :: st) (n, S, Rr, D) Q := by
  intro p e R s m args below meth c mc ms Z C H locs cells slots arr hw hlo hc hs hl
  obtain ⟨hx, hb, hml, hown, hts, hlk, hnm, hSt, hdf, hdl, hrc, hrs, hZ⟩ := id C
  subst hN
  have hA := arr_at hw ho hno (by omega) hSo
  have hB := arr_at hw hq hnq (by omega) hSq
  have e0 : (Sum.inl x :: Sum.inl 0 :: Sum.inr (Sum.inr q) :: Sum.inl 0 :: Sum.inr (Sum.inr o) :: st : List vV).map (eV E) = .int x :: .int 0 :: .ref (ad E q) :: .int 0 :: .ref (ad E o) :: st.map (eV E) := by rw [← eR_o E ho, ← eR_o E hq]; rfl
  rw [e0]
  have h10 : (10 : Nat) < 12 := by omega
  rw [show (fun j => if 10 < 12 then Value.int (D o j) else eR E (Rr o j)) = fun j => Value.int (D o j) from funext fun j => if_pos h10] at hA
  rw [show (fun j => if 10 < 12 then Value.int (D q j) else eR E (Rr q j)) = fun j => Value.int (D q j) from funext fun j => if_pos h10] at hB
  have nn : ∀ z : Int32, ¬ z < 0 → z.toInt = (z.toNatClampNeg : Int) := by
    intro z hz
    have hz0 : (0 : Int) ≤ z.toInt := by
      have := Int32.not_lt.mp hz
      simpa using Int32.le_iff_toInt_le.mp this
    show z.toInt = ((z.toInt.toNat : Nat) : Int)
    omega
  have z0 : ¬ (0 : Int32) < 0 := by decide
  have z1 : (0 : Int32).toNatClampNeg = 0 := by decide
  intro T hT X
  obtain ⟨-, k0, hk0, cm0, hkk0⟩ := (hSt.2.2.1 10 (by omega) (by omega)).1 N0 (fun j => .int (D o j))
  obtain ⟨-, k1, hk1, cm1, hkk1⟩ := (hSt.2.2.1 10 (by omega) (by omega)).1 N1 (fun j => .int (D q j))
  obtain ⟨vm', X', step⟩ := X.arraycopy hx hown (hts _ h1) (hts _ h2) (hts _ h3) (hts _ h4) (src := ad E o) (dst := ad E q) (cs := arrV (E.2.2.2.2.1 10) N0 (fun j => .int (D o j))) (cd := arrV (E.2.2.2.2.1 10) N1 (fun j => .int (D q j))) (srcPos := 0) (destPos := 0) (n := x) (by rw [hT]; exact hA) (by rw [hT]; exact hB)
    (fun _ h => by cases h) (fun _ h => by cases h) (fun h => by cases h) (fun h => by cases h) hk0 hk1 hkk0 hkk1 (by simp [aTy, refKind]) z0 z0 hx0
    (by rw [nn 0 z0, nn x hx0, arrV_size, z1]; omega)
    (by rw [nn 0 z0, nn x hx0, arrV_size, z1]; omega)
    (fun vm₁ _ i hi => by
      have e : (arrV (E.2.2.2.2.1 10) N0 (fun j => .int (D o j))).slots.getD ((0 : Int32).toNatClampNeg + i) .null = .int (D o ((0 : Int32).toNatClampNeg + i)) := by
        rw [Array.getD_eq_getD_getElem?, arrV_read _ _ (by rw [z1]; omega)]
        rfl
      refine ⟨?_, ?_⟩
      · rw [e]; rfl
      · rw [e]; exact trivial)
    (g := F0 m pc arr (.int x :: .int 0 :: .ref (ad E q) :: .int 0 :: .ref (ad E o) :: st.map (eV E))) rfl (by rw [hml]; exact hl.1) (rest := st.map (eV E)) rfl (by rw [hb]; exact hd) (by omega) (by
      show 2 * 0 + ((st.map (eV E)).map fun v => v.category).sum + (nativeFrameWords "java/lang/System" "arraycopy" 5 + 11) ≤ _
      rw [cat_sum]
      have : nativeFrameWords "java/lang/System" "arraycopy" 5 ≤ 18 := by decide +kernel
      omega)
  have e1 : copied (arrV (E.2.2.2.2.1 10) N0 (fun j => .int (D o j))) (arrV (E.2.2.2.2.1 10) N1 (fun j => .int (D q j))) 0 0 x = arrV (E.2.2.2.2.1 10) N1 (fun j => .int (va_cpy (D o) (D q) (0 : Int32).toNatClampNeg (0 : Int32).toNatClampNeg x.toNatClampNeg j)) := va_copied (fun z => .int z) _ _ (D o) (D q) (by rw [z1]; omega)
  rw [e1] at X' step
  rw [z1] at X' step
  have hl9 : ad E q < H.size := (Array.getElem?_eq_some_iff.mp hB).1
  generalize hnew : arrV (E.2.2.2.2.1 10) N1 (fun j => Value.int (va_cpy (D o) (D q) 0 0 x.toNatClampNeg j)) = nc at X' step
  have hheap : ((T.setVm vm').setCell (ad E q) nc).heap = H.setIfInBounds (ad E q) nc := by rw [← hT]; rfl
  have oq : ∀ q' : Nat, q' ≠ ad E q → (H.setIfInBounds (ad E q) nc)[q']? = H[q']? := fun q' hq => by simp [Array.getElem?_setIfInBounds, Ne.symm hq]
  have hw' : wd E (n, S, Rr, cp2 D o q x.toNatClampNeg) (H.setIfInBounds (ad E q) nc) := by
    refine wd_set hw hq (by simp) oq ?_ (fun _ _ => rfl) (fun o' h9 => ?_)
    · unfold cAt
      rw [if_neg (by rw [hSq]; show ¬ 10 < 7; omega), hSq]
      show (H.setIfInBounds (ad E q) nc)[ad E q]? = _
      rw [Array.getElem?_setIfInBounds]
      simp only [if_true, hl9]
      rw [← hnew]
      congr 2
      funext j
      show _ = if 10 < 12 then Value.int (cp2 D o q x.toNatClampNeg q j) else _
      rw [if_pos h10]
      unfold va_cpy cp2
      by_cases hj : j < x.toNatClampNeg
      · rw [if_pos (by omega), if_pos ⟨rfl, hj⟩]; simp
      · rw [if_neg (by omega), if_neg (fun z => hj z.2)]
    · funext j
      exact if_neg (fun z => h9 z.1)
  obtain ⟨t, a1, b1⟩ := k p e R s m args below meth c mc ms Z C _ (locs ++ ((arrV (E.2.2.2.2.1 10) N0 (fun j => .int (D o j))).stretch 0 x.toNatClampNeg).zipIdx.map (fun q_1 => (⟨ad E q, 0 + q_1.2⟩ : Loc))) cells slots arr hw' (fun w hw9 => by
      rcases List.mem_append.mp hw9 with h | h
      · exact hlo w h
      · obtain ⟨z, -, hz⟩ := List.mem_map.mp h
        rw [← hz]
        show E.1 ≤ ad E q
        unfold ad; omega) hc hs hl _ hheap X'
  exact ⟨t, step t a1, b1⟩
end CP