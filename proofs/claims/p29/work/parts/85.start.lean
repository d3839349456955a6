/-! the law's start: a new object stands for s0V -/
def s0V (k : Nat) : Int32 := if k = 0 then 10 else if k = 1 then 5 else if k = 2 then 4 else if k = 3 then 4 else if k = 9 then 2 else if k = 10 then 2 else if k = 11 then 2 else 0
theorem R0_hi {o : Nat} (h : 378 ≤ o) (k : Nat) : R0 o k = 0 := by
  unfold R0
  rw [if_neg (by omega), if_neg (by omega), if_neg (by omega), if_neg (by omega), if_neg (by omega), if_neg (by omega), if_neg (by omega), if_neg (by omega), if_neg (by omega), if_neg (by omega)]
theorem s0_z {k : Nat} (h : 12 ≤ k) : s0V k = 0 := by
  unfold s0V
  rw [if_neg (by omega), if_neg (by omega), if_neg (by omega), if_neg (by omega), if_neg (by omega), if_neg (by omega), if_neg (by omega)]
/-- what lies outside doesn't count -/
theorem rn_ext {l : Launch} {E : eE} {d a b : Nat} {y : MethodName} {cc : ByteArray} {nL : Nat} {ret : Option FieldType} {pc : Nat} {ls : List (Nat × vV)} {st : List vV} {Q : Option vV → hP → Prop} {n : Nat} {S : Nat → Nat × Nat} {R R' : Nat → Nat → Nat} {D : Nat → Nat → Int32}
    (h : ∀ o, 18 ≤ o → ∀ k, R o k = R' o k) (k : rn l E d a b y cc nL ret pc ls st (n, S, R', D) Q) : rn l E d a b y cc nL ret pc ls st (n, S, R, D) Q := by
  intro p e Rm s m args below meth c mc ms Z C H locs cells slots arr hw hlo hc hs hl
  refine k p e Rm s m args below meth c mc ms Z C H locs cells slots arr ⟨hw.1, hw.2.1, fun o h1 h2 => ?_⟩ hlo hc hs hl
  have := hw.2.2 o h1 h2
  show cAt E o (S o) (R' o) (D o) H
  rw [show R' o = R o from funext fun q => (h o h1 q).symm]
  exact this
theorem SI_0 : SI s0V 0 0 := by
  refine ⟨⟨by omega, by omega, rfl, rfl⟩, ⟨⟨10, by omega, by omega, rfl⟩, ⟨5, by omega, by omega, rfl⟩, ⟨4, by omega, by omega, rfl⟩, ⟨4, by omega, by omega, rfl⟩, Or.inr trivial, fun k hk => ⟨2, by omega, by omega, ?_⟩⟩, fun p hp => absurd hp (by omega), fun j hj => absurd hj (by omega), fun i j hi => absurd hi (by omega), fun p _ hp k hk => s0_z (by omega), fun j _ hj k hk => s0_z (by omega)⟩
  rcases (show k = 0 ∨ k = 1 ∨ k = 2 by omega) with rfl | rfl | rfl <;> rfl
theorem G0_new {R : Nat → Nat → Nat} {D : Nat → Nat → Int32} (h : aftP R D) : G0 D s0V ∧ KK s0V 0 := by
  obtain ⟨-, -, h2, h3, h4, h5⟩ := h
  have d19 : ∀ k, D 19 k = fD 0 k := fun k => h2 0 (by omega) k
  have d20 : ∀ k, D 20 k = fD 1 k := fun k => h2 1 (by omega) k
  have d21 : ∀ k, D 21 k = fD 2 k := fun k => h2 2 (by omega) k
  have d22 : ∀ k, D 22 k = fD 3 k := fun k => h2 3 (by omega) k
  refine ⟨⟨⟨0, 0, ⟨⟨fun i hi => ?_, fun i hi => ?_, fun i hi => ?_⟩, ⟨?_, ?_, ?_, ?_, ?_⟩, fun p hp => absurd hp (by omega), fun j hj => absurd hj (by omega)⟩, SI_0⟩, rfl, rfl, by rw [h4]; rfl, by rw [h4]; rfl, h3⟩, ⟨0, 0, 0, SI_0, ⟨fun j hj => absurd hj (by omega), fun k hk => ?_⟩, rfl, by omega⟩⟩
  · rw [d20]
    rcases (show i = 0 ∨ i = 1 ∨ i = 2 ∨ i = 3 by omega) with rfl | rfl | rfl | rfl <;> rfl
  · rw [d21]
    rcases (show i = 0 ∨ i = 1 ∨ i = 2 by omega) with rfl | rfl | rfl <;> rfl
  · rw [d22, show freeV s0V 0 i = s0V (9 + i) from rfl]
    rcases (show i = 0 ∨ i = 1 ∨ i = 2 by omega) with rfl | rfl | rfl <;> rfl
  · rw [d19]; rfl
  · rw [d19]; rfl
  · rw [d19]; rfl
  · rw [d19]; rfl
  · rw [d19]; rfl
  · rw [show freeV s0V 0 k = s0V (9 + k) from rfl]
    rcases (show k = 0 ∨ k = 1 ∨ k = 2 by omega) with rfl | rfl | rfl <;> decide
/-- the law from its entry: it returns 1 -/
theorem law_rn {l : Launch} {E : eE} (hL : E.2.2.2.2.2.1 ≤ 3072) : rn l E 8 360 3281 yL_law cL_law 12 (some .boolean) 0 [(0, .inr (.inr 17))] [] (0, S0, fun _ _ => 0, fun _ _ => 0) (fun r _ => r = some (.inl 1)) := by
  refine i_new (ci := 5) (o := 18) (a := 359) (b := 3275) rfl rfl rfl rfl rfl rfl (by omega) k_L_13 nw_5 ni_5 dL_law_0 ?_
  refine rn_dup rfl dL_law_3 ?_
  refine i_cI (d := 7) (a1 := 359) (b1 := 3275) (a := 0) (b := 0) rfl rfl m_L_66 dL_law_4 (by omega) (by show (1 : Nat) ≤ 8; omega) (i_X5 (d := 3)) (fun r h1 hq => ?_)
  obtain ⟨rfl, R1, D1, rfl, hP⟩ := hq
  refine rn_astore_n (i := 1) (ls' := [(1, .inr (.inr 18)), (0, .inr (.inr 17))]) rfl (by omega) (by omega) rfl dL_law_7 ?_
  refine rn_ext (R' := R0) (fun o h1 k => ?_) ?_
  · by_cases q : o < 378
    · exact hP.1 o h1 q k
    · rw [(hP.2.1 o (by omega)).1, R0_hi (by omega)]
  obtain ⟨h0, hK⟩ := G0_new hP
  obtain ⟨D3, h3⟩ := lw_all hL E.2.2.2.2.2.2 h0 hK
  refine rn_weaken (fun r h' hq => ?_) (e_L_law l E 0 E.2.2.2.2.2.1 rfl E.2.2.2.2.2.2 rfl D1 1 D3 h3)
  exact hq.1
