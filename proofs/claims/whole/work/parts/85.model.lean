/-! the reference's constructor, and the law's start -/
def s0V (k : Nat) : Int32 := if k = 0 then 10 else if k = 1 then 5 else if k = 2 then 4 else if k = 3 then 4 else if k = 9 then 2 else if k = 10 then 2 else if k = 11 then 2 else 0
def aftM (R : Nat → Nat → Nat) (D : Nat → Nat → Int32) : Prop :=
  (∀ o, 18 ≤ o → ∀ k, R o k = R0 o k) ∧ (∀ j, j < 32 → ∀ k, D (19 + j) k = fD j k) ∧ (D 84 = fun _ => 0) ∧ (D 85 = fun _ => 0) ∧ (D 311 = fun _ => 0) ∧ (D 378 = fun _ => 0) ∧ (∀ k, D 379 k = s0V k) ∧ (D 383 = fun _ => 0)
theorem R0_378 (k : Nat) : R0 378 k = if k = 1 then 379 else if k = 2 then 380 else if k = 3 then 381 else if k = 5 then 382 else if k = 6 then 383 else if k = 7 then 384 else if k = 11 then 385 else 0 := rfl
theorem R0_hi {o : Nat} (h : 379 ≤ o) (k : Nat) : R0 o k = 0 := by
  unfold R0
  rw [if_neg (by omega), if_neg (by omega), if_neg (by omega), if_neg (by omega), if_neg (by omega), if_neg (by omega), if_neg (by omega), if_neg (by omega), if_neg (by omega), if_neg (by omega), if_neg (by omega)]
theorem i_X6 {l : Launch} {E : eE} {d : Nat} {R : Nat → Nat → Nat} {D : Nat → Nat → Int32} (hP : aftP R D) :
    ct l E (d + 1) 7 2774 yX6_init cX6_init 2 none [.inr (.inr 378)] (361, S0, R, D) (fun r h' => r = none ∧ ∃ R' D', h' = (368, S0, R', D') ∧ aftM R' D') := by
  obtain ⟨p1, p2, p3, p4, p5, p6⟩ := hP
  have hz := p2
  refine ct_of_rn pl_X6_init (show (1 : Nat) ≤ 2 by omega) ?_
  show rn l E (d + 1) 7 2774 yX6_init cX6_init 2 none 0 [(0, .inr (.inr 378))] [] (361, S0, R, D) _
  refine rn_aload_n (i := 0) 0 rfl rfl (by omega) dX6_init_0 ?_
  refine rn_objInit (by omega) oi_X6_1 oi_1 oi_2 dX6_init_1 (by decide) ?_
  refine rn_aload_n (i := 0) 0 rfl rfl (by omega) dX6_init_4 ?_
  refine rn_sipush (v := 244) rfl dX6_init_5 ?_
  refine i_int (a := 6) (b := 2530) (N := 244) (o := 379) rfl rfl rfl rfl (by (repeat rw [up2_o _ _ _ (by omega)]); exact (hz _ (by omega)).1) (hz _ (by omega)).2 rfl (by omega) dX6_init_8 ?_
  refine rn_putr f_X6_7 (by omega) (by omega) rfl rfl (by omega) rfl rfl rfl (fun z => rfl) (fun z => rfl) dX6_init_10 ?_
  refine rn_aload_n (i := 0) 0 rfl rfl (by omega) dX6_init_13 ?_
  refine rn_sipush (v := 244) rfl dX6_init_14 ?_
  refine i_int (a := 5) (b := 2286) (N := 244) (o := 380) rfl rfl rfl rfl (by (repeat rw [up2_o _ _ _ (by omega)]); exact (hz _ (by omega)).1) (hz _ (by omega)).2 rfl (by omega) dX6_init_17 ?_
  refine rn_putr f_X6_13 (by omega) (by omega) rfl rfl (by omega) rfl rfl rfl (fun z => rfl) (fun z => rfl) dX6_init_19 ?_
  refine rn_aload_n (i := 0) 0 rfl rfl (by omega) dX6_init_22 ?_
  refine rn_sipush (v := 1464) rfl dX6_init_23 ?_
  refine i_int (a := 4) (b := 822) (N := 1464) (o := 381) rfl rfl rfl rfl (by (repeat rw [up2_o _ _ _ (by omega)]); exact (hz _ (by omega)).1) (hz _ (by omega)).2 rfl (by omega) dX6_init_26 ?_
  refine rn_putr f_X6_16 (by omega) (by omega) rfl rfl (by omega) rfl rfl rfl (fun z => rfl) (fun z => rfl) dX6_init_28 ?_
  refine rn_aload_n (i := 0) 0 rfl rfl (by omega) dX6_init_31 ?_
  refine rn_sipush (v := 488) rfl dX6_init_32 ?_
  refine i_int (a := 3) (b := 334) (N := 488) (o := 382) rfl rfl rfl rfl (by (repeat rw [up2_o _ _ _ (by omega)]); exact (hz _ (by omega)).1) (hz _ (by omega)).2 rfl (by omega) dX6_init_35 ?_
  refine rn_putr f_X6_19 (by omega) (by omega) rfl rfl (by omega) rfl rfl rfl (fun z => rfl) (fun z => rfl) dX6_init_37 ?_
  refine rn_aload_n (i := 0) 0 rfl rfl (by omega) dX6_init_40 ?_
  refine rn_iconst (v := 2) rfl dX6_init_41 ?_
  refine i_boo (a := 2) (b := 332) (N := 2) (o := 383) rfl rfl rfl rfl (by (repeat rw [up2_o _ _ _ (by omega)]); exact (hz _ (by omega)).1) (hz _ (by omega)).2 rfl (by omega) dX6_init_42 ?_
  refine rn_putr f_X6_22 (by omega) (by omega) rfl rfl (by omega) rfl rfl rfl (fun z => rfl) (fun z => rfl) dX6_init_44 ?_
  refine rn_aload_n (i := 0) 0 rfl rfl (by omega) dX6_init_47 ?_
  refine rn_bipush (v := 80) rfl dX6_init_48 ?_
  refine i_int (a := 1) (b := 252) (N := 80) (o := 384) rfl rfl rfl rfl (by (repeat rw [up2_o _ _ _ (by omega)]); exact (hz _ (by omega)).1) (hz _ (by omega)).2 rfl (by omega) dX6_init_50 ?_
  refine rn_putr f_X6_26 (by omega) (by omega) rfl rfl (by omega) rfl rfl rfl (fun z => rfl) (fun z => rfl) dX6_init_52 ?_
  refine rn_aload_n (i := 0) 0 rfl rfl (by omega) dX6_init_55 ?_
  refine rn_sipush (v := 252) rfl dX6_init_56 ?_
  refine i_int (a := 0) (b := 0) (N := 252) (o := 385) rfl rfl rfl rfl (by (repeat rw [up2_o _ _ _ (by omega)]); exact (hz _ (by omega)).1) (hz _ (by omega)).2 rfl (by omega) dX6_init_59 ?_
  refine rn_putr f_X6_29 (by omega) (by omega) rfl rfl (by omega) rfl rfl rfl (fun z => rfl) (fun z => rfl) dX6_init_61 ?_
  have hR378 : ∀ k, (up2 (up2 (up2 (up2 (up2 (up2 (up2 R 378 1 379) 378 2 380) 378 3 381) 378 5 382) 378 6 383) 378 7 384) 378 11 385) 378 k = R0 378 k := fun k => by
    rw [R0_378]
    by_cases k11 : k = 11
    · subst k11; rw [up2_self]; rfl
    rw [up2_ne _ _ (by omega)]
    by_cases k7 : k = 7
    · subst k7; rw [up2_self]; rfl
    rw [up2_ne _ _ (by omega)]
    by_cases k6 : k = 6
    · subst k6; rw [up2_self]; rfl
    rw [up2_ne _ _ (by omega)]
    by_cases k5 : k = 5
    · subst k5; rw [up2_self]; rfl
    rw [up2_ne _ _ (by omega)]
    by_cases k3 : k = 3
    · subst k3; rw [up2_self]; rfl
    rw [up2_ne _ _ (by omega)]
    by_cases k2 : k = 2
    · subst k2; rw [up2_self]; rfl
    rw [up2_ne _ _ (by omega)]
    by_cases k1 : k = 1
    · subst k1; rw [up2_self]; rfl
    rw [up2_ne _ _ (by omega), (hz 378 (by omega)).1, if_neg k1, if_neg k2, if_neg k3, if_neg k5, if_neg k6, if_neg k7, if_neg k11]
  have hRo : ∀ o, o ≠ 378 → (up2 (up2 (up2 (up2 (up2 (up2 (up2 R 378 1 379) 378 2 380) 378 3 381) 378 5 382) 378 6 383) 378 7 384) 378 11 385) o = R o := fun o ho => by
    (repeat rw [up2_o _ _ _ ho])
  generalize up2 (up2 (up2 (up2 (up2 (up2 (up2 R 378 1 379) 378 2 380) 378 3 381) 378 5 382) 378 6 383) 378 7 384) 378 11 385 = Rf at hR378 hRo
  refine rn_aload_n (i := 0) 0 rfl rfl (by omega) dX6_init_64 ?_
  refine rn_iconst (v := 0) rfl dX6_init_65 ?_
  refine rn_puti f_X6_32 (by omega) (by omega) rfl rfl rfl rfl rfl dX6_init_66 ?_
  rw [up2_id (show D 378 0 = 0 by rw [(hz 378 (by omega)).2])]
  refine rn_aload_n (i := 0) 0 rfl rfl (by omega) dX6_init_69 ?_
  refine rn_getr (q := 379) f_X6_7 (by omega) (by omega) rfl rfl (by rw [hR378]; rfl) dX6_init_70 ?_
  refine rn_iconst (v := 0) rfl dX6_init_73 ?_
  refine rn_bipush (v := 10) rfl dX6_init_74 ?_
  refine i_ist (j := 0) (N := 244) rfl (by omega) (by omega) (by omega) (by omega) rfl dX6_init_76 ?_
  refine rn_aload_n (i := 0) 0 rfl rfl (by omega) dX6_init_77 ?_
  refine rn_getr (q := 379) f_X6_7 (by omega) (by omega) rfl rfl (by rw [hR378]; rfl) dX6_init_78 ?_
  refine rn_iconst (v := 1) rfl dX6_init_81 ?_
  refine rn_iconst (v := 5) rfl dX6_init_82 ?_
  refine i_ist (j := 1) (N := 244) rfl (by omega) (by omega) (by omega) (by omega) rfl dX6_init_83 ?_
  refine rn_aload_n (i := 0) 0 rfl rfl (by omega) dX6_init_84 ?_
  refine rn_getr (q := 379) f_X6_7 (by omega) (by omega) rfl rfl (by rw [hR378]; rfl) dX6_init_85 ?_
  refine rn_iconst (v := 2) rfl dX6_init_88 ?_
  refine rn_iconst (v := 4) rfl dX6_init_89 ?_
  refine i_ist (j := 2) (N := 244) rfl (by omega) (by omega) (by omega) (by omega) rfl dX6_init_90 ?_
  refine rn_aload_n (i := 0) 0 rfl rfl (by omega) dX6_init_91 ?_
  refine rn_getr (q := 379) f_X6_7 (by omega) (by omega) rfl rfl (by rw [hR378]; rfl) dX6_init_92 ?_
  refine rn_iconst (v := 3) rfl dX6_init_95 ?_
  refine rn_iconst (v := 4) rfl dX6_init_96 ?_
  refine i_ist (j := 3) (N := 244) rfl (by omega) (by omega) (by omega) (by omega) rfl dX6_init_97 ?_
  refine rn_iconst (v := 0) rfl dX6_init_98 ?_
  refine rn_istore_n (i := 1) (ls' := [(1, .inl 0), (0, .inr (.inr 378))]) rfl (by omega) rfl dX6_init_99 ?_
  refine rn_iload_n (i := 1) 0 rfl rfl dX6_init_100 ?_
  refine rn_iconst (v := 3) rfl dX6_init_101 ?_
  refine rn_icmp_ge (tgt := 121) dX6_init_102 rfl (fun z => absurd z (by decide)) (fun _ => ?_)
  refine rn_aload_n (i := 0) 1 rfl rfl (by omega) dX6_init_105 ?_
  refine rn_getr (q := 379) f_X6_7 (by omega) (by omega) rfl rfl (by rw [hR378]; rfl) dX6_init_106 ?_
  refine rn_bipush (v := 9) rfl dX6_init_109 ?_
  refine rn_iload_n (i := 1) 0 rfl rfl dX6_init_111 ?_
  refine rn_iadd dX6_init_112 ?_
  refine rn_iconst (v := 2) rfl dX6_init_113 ?_
  refine i_ist (j := 9) (N := 244) (show (9 : Int32) + 0 = nI 9 by decide) (by omega) (by omega) (by omega) (by omega) rfl dX6_init_114 ?_
  refine rn_iinc (n := 1) (v := 1) 0 rfl (by decide) (by omega) rfl dX6_init_115 ?_
  refine rn_goto (tgt := 100) dX6_init_118 rfl ?_
  refine rn_iload_n (i := 1) 0 rfl rfl dX6_init_100 ?_
  refine rn_iconst (v := 3) rfl dX6_init_101 ?_
  refine rn_icmp_ge (tgt := 121) dX6_init_102 rfl (fun z => absurd z (by decide)) (fun _ => ?_)
  refine rn_aload_n (i := 0) 1 rfl rfl (by omega) dX6_init_105 ?_
  refine rn_getr (q := 379) f_X6_7 (by omega) (by omega) rfl rfl (by rw [hR378]; rfl) dX6_init_106 ?_
  refine rn_bipush (v := 9) rfl dX6_init_109 ?_
  refine rn_iload_n (i := 1) 0 rfl rfl dX6_init_111 ?_
  refine rn_iadd dX6_init_112 ?_
  refine rn_iconst (v := 2) rfl dX6_init_113 ?_
  refine i_ist (j := 10) (N := 244) (show (9 : Int32) + 1 = nI 10 by decide) (by omega) (by omega) (by omega) (by omega) rfl dX6_init_114 ?_
  refine rn_iinc (n := 1) (v := 2) 0 rfl (by decide) (by omega) rfl dX6_init_115 ?_
  refine rn_goto (tgt := 100) dX6_init_118 rfl ?_
  refine rn_iload_n (i := 1) 0 rfl rfl dX6_init_100 ?_
  refine rn_iconst (v := 3) rfl dX6_init_101 ?_
  refine rn_icmp_ge (tgt := 121) dX6_init_102 rfl (fun z => absurd z (by decide)) (fun _ => ?_)
  refine rn_aload_n (i := 0) 1 rfl rfl (by omega) dX6_init_105 ?_
  refine rn_getr (q := 379) f_X6_7 (by omega) (by omega) rfl rfl (by rw [hR378]; rfl) dX6_init_106 ?_
  refine rn_bipush (v := 9) rfl dX6_init_109 ?_
  refine rn_iload_n (i := 1) 0 rfl rfl dX6_init_111 ?_
  refine rn_iadd dX6_init_112 ?_
  refine rn_iconst (v := 2) rfl dX6_init_113 ?_
  refine i_ist (j := 11) (N := 244) (show (9 : Int32) + 2 = nI 11 by decide) (by omega) (by omega) (by omega) (by omega) rfl dX6_init_114 ?_
  refine rn_iinc (n := 1) (v := 3) 0 rfl (by decide) (by omega) rfl dX6_init_115 ?_
  refine rn_goto (tgt := 100) dX6_init_118 rfl ?_
  refine rn_iload_n (i := 1) 0 rfl rfl dX6_init_100 ?_
  refine rn_iconst (v := 3) rfl dX6_init_101 ?_
  refine rn_icmp_ge (tgt := 121) dX6_init_102 rfl (fun _ => ?_) (fun z => absurd (show (3 : Int32) ≤ 3 by decide) z)
  refine rn_retv ⟨rfl, Rf, _, rfl, ?_, ?_, ?_, ?_, ?_, ?_, ?_, ?_⟩ rfl dX6_init_121
  · intro o ho k
    by_cases q : o = 378
    · subst q; exact hR378 k
    rw [hRo o q]
    by_cases q2 : o < 378
    · exact p1 o ho q2 k
    · rw [(hz o (by omega)).1, R0_hi (by omega)]
  · intro j hj k
    (repeat rw [up2_o _ _ _ (by omega)])
    exact p3 j hj k
  · (repeat rw [up2_o _ _ _ (by omega)])
    exact p4
  · (repeat rw [up2_o _ _ _ (by omega)])
    exact p5
  · (repeat rw [up2_o _ _ _ (by omega)])
    exact p6
  · (repeat rw [up2_o _ _ _ (by omega)])
    exact (hz 378 (by omega)).2
  · intro k
    unfold s0V
    by_cases k11 : k = 11
    · subst k11; rw [up2_self]; rfl
    rw [up2_ne _ _ (by omega)]
    by_cases k10 : k = 10
    · subst k10; rw [up2_self]; rfl
    rw [up2_ne _ _ (by omega)]
    by_cases k9 : k = 9
    · subst k9; rw [up2_self]; rfl
    rw [up2_ne _ _ (by omega)]
    by_cases k3 : k = 3
    · subst k3; rw [up2_self]; rfl
    rw [up2_ne _ _ (by omega)]
    by_cases k2 : k = 2
    · subst k2; rw [up2_self]; rfl
    rw [up2_ne _ _ (by omega)]
    by_cases k1 : k = 1
    · subst k1; rw [up2_self]; rfl
    rw [up2_ne _ _ (by omega)]
    by_cases k0 : k = 0
    · subst k0; rw [up2_self]; rfl
    rw [up2_ne _ _ (by omega)]
    rw [(hz 379 (by omega)).2, if_neg k0, if_neg k1, if_neg k2, if_neg k3, if_neg k9, if_neg k10, if_neg k11]
  · (repeat rw [up2_o _ _ _ (by omega)])
    exact (hz 383 (by omega)).2
/-- what lies outside doesn't count -/
theorem rn_ext {l : Launch} {E : eE} {d a b : Nat} {y : MethodName} {cc : ByteArray} {nL : Nat} {ret : Option FieldType} {pc : Nat} {ls : List (Nat × vV)} {st : List vV} {Q : Option vV → hP → Prop} {n : Nat} {S : Nat → Nat × Nat} {R R' : Nat → Nat → Nat} {D : Nat → Nat → Int32}
    (h : ∀ o, 18 ≤ o → ∀ k, R o k = R' o k) (k : rn l E d a b y cc nL ret pc ls st (n, S, R', D) Q) : rn l E d a b y cc nL ret pc ls st (n, S, R, D) Q := by
  intro p e Rm s m args below meth c mc ms Z C H locs cells slots arr hw hlo hc hs hl
  refine k p e Rm s m args below meth c mc ms Z C H locs cells slots arr ⟨hw.1, hw.2.1, fun o h1 h2 => ?_⟩ hlo hc hs hl
  have := hw.2.2 o h1 h2
  show cAt E o (S o) (R' o) (D o) H
  rw [show R' o = R o from funext fun q => (h o h1 q).symm]
  exact this
/-- the two objects agree when they are new -/
theorem RR_new {R : Nat → Nat → Nat} {D : Nat → Nat → Int32} (h : aftM R D) : RR D := by
  obtain ⟨-, h2, h3, h4, h5, h6, h7, h8⟩ := h
  have d19 : ∀ k, D 19 k = fD 0 k := fun k => h2 0 (by omega) k
  have d20 : ∀ k, D 20 k = fD 1 k := fun k => h2 1 (by omega) k
  have d21 : ∀ k, D 21 k = fD 2 k := fun k => h2 2 (by omega) k
  have d22 : ∀ k, D 22 k = fD 3 k := fun k => h2 3 (by omega) k
  have z0 : (0 : Int32) = nI 0 := rfl
  refine ⟨⟨0, 0, ⟨⟨fun i hi => ?_, fun i hi => ?_, fun i hi => ?_⟩, ⟨?_, ?_, ?_, ?_, ?_⟩, fun p hp => absurd hp (by omega), fun j hj => absurd hj (by omega)⟩, ⟨by omega, by omega, ?_, ?_⟩, ⟨⟨10, by omega, by omega, ?_⟩, ⟨5, by omega, by omega, ?_⟩, ⟨4, by omega, by omega, ?_⟩, ⟨4, by omega, by omega, ?_⟩, Or.inr trivial, fun k hk => ⟨2, by omega, by omega, ?_⟩⟩, fun p hp => absurd hp (by omega), fun j hj => absurd hj (by omega), fun i j hi => absurd hi (by omega), fun p _ hp k hk => ?_, fun j _ hj k hk => ?_⟩, by rw [h6], ⟨0, 0, by omega, by omega, by rw [h4]; rfl, by rw [h4]; rfl, by rw [h6]; rfl, fun i hi => absurd hi (by omega)⟩, fun t ht => ⟨by rw [h3, h8], Or.inl (by rw [h8])⟩, ⟨0, by omega, by rw [h5]; rfl, by rw [h6]; rfl, fun i hi => absurd hi (by omega)⟩⟩
  · rw [d20, h7]
    rcases (show i = 0 ∨ i = 1 ∨ i = 2 ∨ i = 3 by omega) with rfl | rfl | rfl | rfl <;> rfl
  · rw [d21, h7]
    rcases (show i = 0 ∨ i = 1 ∨ i = 2 by omega) with rfl | rfl | rfl <;> rfl
  · rw [d22, show freeV (D 379) 0 i = D 379 (9 + i) from rfl, h7]
    rcases (show i = 0 ∨ i = 1 ∨ i = 2 by omega) with rfl | rfl | rfl <;> rfl
  · rw [d19]; rfl
  · rw [d19]; rfl
  · rw [d19, h7]; rfl
  · rw [d19, h7]; rfl
  · rw [d19, h7]; rfl
  · rw [h7]; rfl
  · rw [h7]; rfl
  · rw [h7]; rfl
  · rw [h7]; rfl
  · rw [h7]; rfl
  · rw [h7]; rfl
  · rw [h7]
    rcases (show k = 0 ∨ k = 1 ∨ k = 2 by omega) with rfl | rfl | rfl <;> rfl
  · rw [h7]
    unfold s0V
    rw [if_neg (by omega), if_neg (by omega), if_neg (by omega), if_neg (by omega), if_neg (by omega), if_neg (by omega), if_neg (by omega)]
  · rw [h7]
    unfold s0V
    rw [if_neg (by omega), if_neg (by omega), if_neg (by omega), if_neg (by omega), if_neg (by omega), if_neg (by omega), if_neg (by omega)]
/-- the law from its entry: it returns 1 -/
theorem law_rn {l : Launch} {E : eE} (hL : E.2.2.2.2.2.1 ≤ 3072) : rn l E 8 368 6068 yL_law cL_law 4 (some .boolean) 0 [(0, .inr (.inr 17))] [] (0, S0, fun _ _ => 0, fun _ _ => 0) (fun r _ => r = some (.inl 1)) := by
  refine i_new (ci := 5) (o := 18) (a := 367) (b := 6062) rfl rfl rfl rfl rfl rfl (by omega) k_L_7 nw_5 ni_5 dL_law_0 ?_
  refine rn_dup rfl dL_law_3 ?_
  refine i_cI (d := 7) (a1 := 359) (b1 := 3275) (a := 8) (b := 2787) rfl rfl m_L_9 dL_law_4 (by omega) (by show (1 : Nat) ≤ 8; omega) (i_X5 (d := 3)) (fun r h1 hq => ?_)
  obtain ⟨rfl, R1, D1, rfl, hP⟩ := hq
  refine rn_astore_n (i := 1) (ls' := [(1, .inr (.inr 18)), (0, .inr (.inr 17))]) rfl (by omega) (by omega) rfl dL_law_7 ?_
  refine i_new (ci := 6) (o := 378) (a := 7) (b := 2774) rfl rfl rfl rfl (hP.2.1 _ (by omega)).1 (hP.2.1 _ (by omega)).2 (by omega) k_L_10 nw_6 ni_6 dL_law_8 ?_
  refine rn_dup rfl dL_law_11 ?_
  refine i_cI (d := 7) (a1 := 7) (b1 := 2774) (a := 0) (b := 0) rfl rfl m_L_12 dL_law_12 (by omega) (by show (1 : Nat) ≤ 8; omega) (i_X6 (d := 6) hP) (fun r h1 hq => ?_)
  obtain ⟨rfl, R2, D2, rfl, hM⟩ := hq
  refine rn_astore_n (i := 2) (ls' := [(2, .inr (.inr 378)), (1, .inr (.inr 18)), (0, .inr (.inr 17))]) rfl (by omega) (by omega) rfl dL_law_15 ?_
  refine rn_ext (R' := R0) hM.1 ?_
  obtain ⟨D3, h3⟩ := lw_all hL E.2.2.2.2.2.2 (RR_new hM)
  refine rn_weaken (fun r h' hq => ?_) (e_L_law l E 0 E.2.2.2.2.2.1 rfl E.2.2.2.2.2.2 rfl D2 1 D3 h3)
  exact hq.1
