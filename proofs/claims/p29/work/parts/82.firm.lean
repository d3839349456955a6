/-! a firm is made -/
def lpR (c base : Nat) : Nat → Nat → (Nat → Nat → Nat) → (Nat → Nat → Nat)
  | 0, _, R => R
  | m + 1, i, R => lpR c base m (i + 1) (up2 R c i (base + i))
theorem lpR_v (c base : Nat) : ∀ m i R o k, lpR c base m i R o k = if o = c ∧ i ≤ k ∧ k < i + m then base + k else R o k := by
  intro m
  induction m with
  | zero => intro i R o k; rw [if_neg (by omega)]; rfl
  | succ m ih =>
    intro i R o k
    show lpR c base m (i + 1) (up2 R c i (base + i)) o k = _
    rw [ih]
    by_cases e : o = c ∧ k = i
    · rw [if_neg (by omega), if_pos (by omega), e.1, e.2, up2_self]
    · rw [up2_ne _ _ e]
      by_cases e2 : o = c ∧ i ≤ k ∧ k < i + (m + 1)
      · rw [if_pos (by omega), if_pos e2]
      · rw [if_neg (by omega), if_neg e2]
theorem lpR_o (c base : Nat) {m i : Nat} {R : Nat → Nat → Nat} {o : Nat} (h : o ≠ c) : lpR c base m i R o = R o := by
  funext k
  rw [lpR_v, if_neg (fun z => h z.1)]
def fD (j k : Nat) : Int32 := if j = 1 then (if k = 0 then 10 else if k = 1 then 5 else if k = 2 then 4 else if k = 3 then 4 else 0) else if j = 2 ∨ j = 3 then (if k < 3 then 2 else 0) else 0
section FI
variable {l : Launch} {E : eE} {d aK bK B : Nat} {Q : Option vV → hP → Prop} {D : Nat → Nat → Int32}
theorem i_lpA (hB : isF B) : ∀ m i n R, i + m = 10 → 18 + n = B + 6 + i → R B 3 = B + 4 → (∀ o, B + 6 + i ≤ o → R o = fun _ => 0) → (∀ o, B + 6 ≤ o → D o = fun _ => 0) →
    rn l E (d + 2) aK bK yX0_init cX0_init 2 none 111 [(1, .inl (nI 10)), (0, .inr (.inr B))] [] (n + m, S0, lpR (B + 4) (B + 6) m i R, D) Q →
    rn l E (d + 2) (m + aK) (5 * m + bK) yX0_init cX0_init 2 none 86 [(1, .inl (nI i)), (0, .inr (.inr B))] [] (n, S0, R, D) Q := by
  have o0 := oF hB
  have b0 : B ≠ 0 := okO_0 o0
  have h4 := oF4 hB
  intro m
  induction m with
  | zero =>
    intro i n R h1 h2 h3 h5 h6 hK
    have e : i = 10 := by omega
    subst e
    rw [Nat.zero_add, Nat.mul_zero, Nat.zero_add]
    refine rn_iload_n (i := 1) 0 rfl rfl dX0_init_86 ?_
    refine rn_bipush (v := 10) rfl dX0_init_87 ?_
    refine rn_icmp_ge (tgt := 111) dX0_init_89 rfl (fun _ => ?_) (fun z => absurd (show (10 : Int32) ≤ nI 10 by decide) z)
    exact hK
  | succ m ih =>
    intro i n R h1 h2 h3 h5 h6 hK
    have hp := oP hB (show i < 10 by omega)
    refine rn_iload_n (i := 1) 0 rfl rfl dX0_init_86 ?_
    refine rn_bipush (v := 10) rfl dX0_init_87 ?_
    refine rn_icmp_ge (tgt := 111) dX0_init_89 rfl (fun z => absurd z (nI_ge (b := 10) (by omega) (by omega))) (fun _ => ?_)
    refine rn_aload_n (i := 0) 1 rfl rfl b0 dX0_init_92 ?_
    refine rn_getr f_X0_23 o0.1 (by omega) (okO_1 o0) rfl h3 dX0_init_93 ?_
    refine rn_iload_n (i := 1) 0 rfl rfl dX0_init_96 ?_
    refine i_new (ci := 4) (o := B + 6 + i) (a := m + aK) (b := 5 * m + bK) (by omega) (by show 5 * (m + 1) + bK = 5 + (5 * m + bK); omega) h2 hp.2.2 (h5 _ (by omega)) (h6 _ (by omega)) (by omega) k_X0_21 nw_4 ni_4 dX0_init_97 ?_
    refine rn_dup rfl dX0_init_100 ?_
    refine i_cN (a1 := 0) (b1 := 0) (Nat.zero_add _).symm (Nat.zero_add _).symm m_X0_33 dX0_init_101 (by omega) (by show (3 : Nat) ≤ 8; omega) (i_X4 (by omega)) (fun r h1 hq => ?_)
    obtain ⟨rfl, rfl⟩ := hq
    refine i_ast (kd := 12) (j := i) rfl (show i < 10 by omega) (by omega) h4.1 (by omega) (by omega) (by omega) h4.2.2 hp.1 (by omega) (okO_1 hp) dX0_init_104 ?_
    refine rn_iinc (n := 1) (v := nI (i + 1)) 0 rfl (show nI i + 1 = _ from nI_1 i) (by omega) rfl dX0_init_105 ?_
    refine rn_goto (tgt := 86) dX0_init_108 rfl ?_
    refine ih (i + 1) (n + 1) (up2 R (B + 4) i (B + 6 + i)) (by omega) (by omega) (by rw [up2_ne _ _ (by omega)]; exact h3) (fun o ho => by rw [up2_o _ _ _ (by omega)]; exact h5 o (by omega)) h6 ?_
    rw [show n + 1 + m = n + (m + 1) by omega]
    exact hK
theorem i_lpB (hB : isF B) : ∀ m i n R, i + m = 16 → 18 + n = B + 16 + i → R B 4 = B + 5 → (∀ o, B + 16 + i ≤ o → R o = fun _ => 0) → (∀ o, B + 16 ≤ o → D o = fun _ => 0) →
    rn l E (d + 2) aK bK yX0_init cX0_init 2 none 138 [(1, .inl (nI 16)), (0, .inr (.inr B))] [] (n + m, S0, lpR (B + 5) (B + 16) m i R, D) Q →
    rn l E (d + 2) (m + aK) (12 * m + bK) yX0_init cX0_init 2 none 113 [(1, .inl (nI i)), (0, .inr (.inr B))] [] (n, S0, R, D) Q := by
  have o0 := oF hB
  have b0 : B ≠ 0 := okO_0 o0
  have h4 := oF5 hB
  intro m
  induction m with
  | zero =>
    intro i n R h1 h2 h3 h5 h6 hK
    have e : i = 16 := by omega
    subst e
    rw [Nat.zero_add, Nat.mul_zero, Nat.zero_add]
    refine rn_iload_n (i := 1) 0 rfl rfl dX0_init_113 ?_
    refine rn_bipush (v := 16) rfl dX0_init_114 ?_
    refine rn_icmp_ge (tgt := 138) dX0_init_116 rfl (fun _ => ?_) (fun z => absurd (show (16 : Int32) ≤ nI 16 by decide) z)
    exact hK
  | succ m ih =>
    intro i n R h1 h2 h3 h5 h6 hK
    have hp := oJ hB (show i < 16 by omega)
    refine rn_iload_n (i := 1) 0 rfl rfl dX0_init_113 ?_
    refine rn_bipush (v := 16) rfl dX0_init_114 ?_
    refine rn_icmp_ge (tgt := 138) dX0_init_116 rfl (fun z => absurd z (nI_ge (b := 16) (by omega) (by omega))) (fun _ => ?_)
    refine rn_aload_n (i := 0) 1 rfl rfl b0 dX0_init_119 ?_
    refine rn_getr f_X0_29 o0.1 (by omega) (okO_1 o0) rfl h3 dX0_init_120 ?_
    refine rn_iload_n (i := 1) 0 rfl rfl dX0_init_123 ?_
    refine i_new (ci := 2) (o := B + 16 + i) (a := m + aK) (b := 12 * m + bK) (by omega) (by show 12 * (m + 1) + bK = 12 + (12 * m + bK); omega) h2 hp.2.2 (h5 _ (by omega)) (h6 _ (by omega)) (by omega) k_X0_27 nw_2 ni_2 dX0_init_124 ?_
    refine rn_dup rfl dX0_init_127 ?_
    refine i_cN (a1 := 0) (b1 := 0) (Nat.zero_add _).symm (Nat.zero_add _).symm m_X0_34 dX0_init_128 (by omega) (by show (3 : Nat) ≤ 8; omega) (i_X2 (by omega)) (fun r h1 hq => ?_)
    obtain ⟨rfl, rfl⟩ := hq
    refine i_ast (kd := 13) (j := i) rfl (show i < 16 by omega) (by omega) h4.1 (by omega) (by omega) (by omega) h4.2.2 hp.1 (by omega) (okO_1 hp) dX0_init_131 ?_
    refine rn_iinc (n := 1) (v := nI (i + 1)) 0 rfl (show nI i + 1 = _ from nI_1 i) (by omega) rfl dX0_init_132 ?_
    refine rn_goto (tgt := 113) dX0_init_135 rfl ?_
    refine ih (i + 1) (n + 1) (up2 R (B + 5) i (B + 16 + i)) (by omega) (by omega) (by rw [up2_ne _ _ (by omega)]; exact h3) (fun o ho => by rw [up2_o _ _ _ (by omega)]; exact h5 o (by omega)) h6 ?_
    rw [show n + 1 + m = n + (m + 1) by omega]
    exact hK
end FI
/-- what a firm's constructor leaves -/
def aftF (B : Nat) (R : Nat → Nat → Nat) (D : Nat → Nat → Int32) (R' : Nat → Nat → Nat) (D' : Nat → Nat → Int32) : Prop :=
  (∀ o, o < B → R' o = R o ∧ D' o = D o) ∧ (∀ j k, R' (B + j) k = fR B j k) ∧ ∀ j k, D' (B + j) k = fD j k
theorem i_X0 {l : Launch} {E : eE} {d B n : Nat} {R : Nat → Nat → Nat} {D : Nat → Nat → Int32} (hB : isF B) (hn : 18 + n = B + 1) (hR : ∀ o, B ≤ o → R o = fun _ => 0) (hD : ∀ o, B ≤ o → D o = fun _ => 0) :
    ct l E (d + 2) 31 278 yX0_init cX0_init 2 none [.inr (.inr B)] (n, S0, R, D) (fun r h' => r = none ∧ ∃ R' D', h' = (n + 31, S0, R', D') ∧ aftF B R D R' D') := by
  have o0 := oF hB
  have b0 : B ≠ 0 := okO_0 o0
  have o1 := oF1 hB
  have o2 := oF2 hB
  have o3 := oF3 hB
  have o4 := oF4 hB
  have o5 := oF5 hB
  refine ct_of_rn pl_X0_init (show (1 : Nat) ≤ 2 by omega) ?_
  show rn l E (d + 2) 31 278 yX0_init cX0_init 2 none 0 [(0, .inr (.inr B))] [] (n, S0, R, D) _
  refine rn_aload_n (i := 0) 0 rfl rfl b0 dX0_init_0 ?_
  refine rn_objInit b0 oi_X0_3 oi_1 oi_2 dX0_init_1 (by decide) ?_
  refine rn_aload_n (i := 0) 0 rfl rfl b0 dX0_init_4 ?_
  refine rn_iconst (v := 4) rfl dX0_init_5 ?_
  refine i_int (a := 30) (b := 274) (N := 4) (o := B + 1) rfl rfl hn o1.2.2 (hR _ (by omega)) (hD _ (by omega)) rfl (by omega) dX0_init_6 ?_
  refine rn_dup rfl dX0_init_8 ?_
  refine rn_iconst (v := 0) rfl dX0_init_9 ?_
  refine rn_bipush (v := 10) rfl dX0_init_10 ?_
  refine i_ist (j := 0) rfl (show 0 < 4 by omega) (by omega) o1.1 (by omega) o1.2.2 dX0_init_12 ?_
  refine rn_dup rfl dX0_init_13 ?_
  refine rn_iconst (v := 1) rfl dX0_init_14 ?_
  refine rn_iconst (v := 5) rfl dX0_init_15 ?_
  refine i_ist (j := 1) rfl (show 1 < 4 by omega) (by omega) o1.1 (by omega) o1.2.2 dX0_init_16 ?_
  refine rn_dup rfl dX0_init_17 ?_
  refine rn_iconst (v := 2) rfl dX0_init_18 ?_
  refine rn_iconst (v := 4) rfl dX0_init_19 ?_
  refine i_ist (j := 2) rfl (show 2 < 4 by omega) (by omega) o1.1 (by omega) o1.2.2 dX0_init_20 ?_
  refine rn_dup rfl dX0_init_21 ?_
  refine rn_iconst (v := 3) rfl dX0_init_22 ?_
  refine rn_iconst (v := 4) rfl dX0_init_23 ?_
  refine i_ist (j := 3) rfl (show 3 < 4 by omega) (by omega) o1.1 (by omega) o1.2.2 dX0_init_24 ?_
  refine rn_putr f_X0_9 o0.1 (by omega) (okO_1 o0) rfl (by omega) rfl rfl rfl (fun z => rfl) (fun z => rfl) dX0_init_25 ?_
  refine rn_aload_n (i := 0) 0 rfl rfl b0 dX0_init_28 ?_
  refine rn_iconst (v := 3) rfl dX0_init_29 ?_
  refine i_int (a := 29) (b := 271) (N := 3) (o := B + 2) rfl rfl (by omega) o2.2.2 (by (repeat rw [up2_o _ _ _ (by omega)]); exact hR _ (by omega)) (by (repeat rw [up2_o _ _ _ (by omega)]); exact hD _ (by omega)) rfl (by omega) dX0_init_30 ?_
  refine rn_dup rfl dX0_init_32 ?_
  refine rn_iconst (v := 0) rfl dX0_init_33 ?_
  refine rn_iconst (v := 2) rfl dX0_init_34 ?_
  refine i_ist (j := 0) rfl (show 0 < 3 by omega) (by omega) o2.1 (by omega) o2.2.2 dX0_init_35 ?_
  refine rn_dup rfl dX0_init_36 ?_
  refine rn_iconst (v := 1) rfl dX0_init_37 ?_
  refine rn_iconst (v := 2) rfl dX0_init_38 ?_
  refine i_ist (j := 1) rfl (show 1 < 3 by omega) (by omega) o2.1 (by omega) o2.2.2 dX0_init_39 ?_
  refine rn_dup rfl dX0_init_40 ?_
  refine rn_iconst (v := 2) rfl dX0_init_41 ?_
  refine rn_iconst (v := 2) rfl dX0_init_42 ?_
  refine i_ist (j := 2) rfl (show 2 < 3 by omega) (by omega) o2.1 (by omega) o2.2.2 dX0_init_43 ?_
  refine rn_putr f_X0_15 o0.1 (by omega) (okO_1 o0) rfl (by omega) rfl rfl rfl (fun z => rfl) (fun z => rfl) dX0_init_44 ?_
  refine rn_aload_n (i := 0) 0 rfl rfl b0 dX0_init_47 ?_
  refine rn_iconst (v := 3) rfl dX0_init_48 ?_
  refine i_int (a := 28) (b := 268) (N := 3) (o := B + 3) rfl rfl (by omega) o3.2.2 (by (repeat rw [up2_o _ _ _ (by omega)]); exact hR _ (by omega)) (by (repeat rw [up2_o _ _ _ (by omega)]); exact hD _ (by omega)) rfl (by omega) dX0_init_49 ?_
  refine rn_dup rfl dX0_init_51 ?_
  refine rn_iconst (v := 0) rfl dX0_init_52 ?_
  refine rn_iconst (v := 2) rfl dX0_init_53 ?_
  refine i_ist (j := 0) rfl (show 0 < 3 by omega) (by omega) o3.1 (by omega) o3.2.2 dX0_init_54 ?_
  refine rn_dup rfl dX0_init_55 ?_
  refine rn_iconst (v := 1) rfl dX0_init_56 ?_
  refine rn_iconst (v := 2) rfl dX0_init_57 ?_
  refine i_ist (j := 1) rfl (show 1 < 3 by omega) (by omega) o3.1 (by omega) o3.2.2 dX0_init_58 ?_
  refine rn_dup rfl dX0_init_59 ?_
  refine rn_iconst (v := 2) rfl dX0_init_60 ?_
  refine rn_iconst (v := 2) rfl dX0_init_61 ?_
  refine i_ist (j := 2) rfl (show 2 < 3 by omega) (by omega) o3.1 (by omega) o3.2.2 dX0_init_62 ?_
  refine rn_putr f_X0_18 o0.1 (by omega) (okO_1 o0) rfl (by omega) rfl rfl rfl (fun z => rfl) (fun z => rfl) dX0_init_63 ?_
  refine rn_aload_n (i := 0) 0 rfl rfl b0 dX0_init_66 ?_
  refine rn_bipush (v := 10) rfl dX0_init_67 ?_
  refine i_ref (a := 27) (b := 258) (kd := 12) (N := 10) (o := B + 4) rfl rfl (by omega) o4.2.2 (by (repeat rw [up2_o _ _ _ (by omega)]); exact hR _ (by omega)) (by (repeat rw [up2_o _ _ _ (by omega)]); exact hD _ (by omega)) (by omega) (by omega) k_X0_21 rfl (by omega) dX0_init_69 ?_
  refine rn_putr f_X0_23 o0.1 (by omega) (okO_1 o0) rfl (by omega) rfl rfl rfl (fun z => rfl) (fun z => rfl) dX0_init_72 ?_
  refine rn_aload_n (i := 0) 0 rfl rfl b0 dX0_init_75 ?_
  refine rn_bipush (v := 16) rfl dX0_init_76 ?_
  refine i_ref (a := 26) (b := 242) (kd := 13) (N := 16) (o := B + 5) rfl rfl (by omega) o5.2.2 (by (repeat rw [up2_o _ _ _ (by omega)]); exact hR _ (by omega)) (by (repeat rw [up2_o _ _ _ (by omega)]); exact hD _ (by omega)) (by omega) (by omega) k_X0_27 rfl (by omega) dX0_init_78 ?_
  refine rn_putr f_X0_29 o0.1 (by omega) (okO_1 o0) rfl (by omega) rfl rfl rfl (fun z => rfl) (fun z => rfl) dX0_init_81 ?_
  refine rn_iconst (v := 0) rfl dX0_init_84 ?_
  refine rn_istore_n (i := 1) (ls' := [(1, .inl (nI 0)), (0, .inr (.inr B))]) rfl (by omega) rfl dX0_init_85 ?_
  have hDz : ∀ o, B + 4 ≤ o → (up2 (up2 (up2 (up2 (up2 (up2 (up2 (up2 (up2 (up2 D (B + 1) 0 (10 : Int32)) (B + 1) 1 5) (B + 1) 2 4) (B + 1) 3 4) (B + 2) 0 2) (B + 2) 1 2) (B + 2) 2 2) (B + 3) 0 2) (B + 3) 1 2) (B + 3) 2 2) o = fun _ => 0 := fun o ho => by
    (repeat rw [up2_o _ _ _ (by omega)]); exact hD _ (by omega)
  have hRz : ∀ o, B + 4 ≤ o → (up2 (up2 (up2 (up2 (up2 R B 0 (B + 1)) B 1 (B + 2)) B 2 (B + 3)) B 3 (B + 4)) B 4 (B + 5)) o = fun _ => 0 := fun o ho => by
    (repeat rw [up2_o _ _ _ (by omega)]); exact hR _ (by omega)
  show rn l E (d + 2) (10 + 16) (5 * 10 + 192) yX0_init cX0_init 2 none 86 [(1, .inl (nI 0)), (0, .inr (.inr B))] [] (n + 5, S0, _, _) _
  refine i_lpA hB 10 0 (n + 5) _ rfl (by omega) (by rw [up2_ne _ _ (by omega), up2_self]) (fun o ho => hRz o (by omega)) (fun o ho => hDz o (by omega)) ?_
  refine rn_iconst (v := 0) rfl dX0_init_111 ?_
  refine rn_istore_n (i := 1) (ls' := [(1, .inl (nI 0)), (0, .inr (.inr B))]) rfl (by omega) rfl dX0_init_112 ?_
  show rn l E (d + 2) (16 + 0) (12 * 16 + 0) yX0_init cX0_init 2 none 113 [(1, .inl (nI 0)), (0, .inr (.inr B))] [] (n + 15, S0, _, _) _
  refine i_lpB hB 16 0 (n + 15) _ rfl (by omega) (by rw [lpR_o _ _ (by omega), up2_self]) (fun o ho => by rw [lpR_o _ _ (by omega)]; exact hRz o (by omega)) (fun o ho => hDz o (by omega)) ?_
  refine rn_retv ⟨rfl, _, _, rfl, fun o ho => ⟨?_, ?_⟩, fun j k => ?_, fun j k => ?_⟩ rfl dX0_init_138
  · rw [lpR_o _ _ (by omega), lpR_o _ _ (by omega)]
    (repeat rw [up2_o _ _ _ (by omega)])
  · (repeat rw [up2_o _ _ _ (by omega)])
  · rw [lpR_v, lpR_v]
    unfold fR
    by_cases j0 : j = 0
    · subst j0
      rw [if_neg (by omega), if_neg (by omega), if_pos rfl, show B + 0 = B from rfl]
      by_cases k4 : k = 4
      · subst k4; rw [up2_self, if_pos (by omega)]
      rw [up2_ne _ _ (by omega)]
      by_cases k3 : k = 3
      · subst k3; rw [up2_self, if_pos (by omega)]
      rw [up2_ne _ _ (by omega)]
      by_cases k2 : k = 2
      · subst k2; rw [up2_self, if_pos (by omega)]
      rw [up2_ne _ _ (by omega)]
      by_cases k1 : k = 1
      · subst k1; rw [up2_self, if_pos (by omega)]
      rw [up2_ne _ _ (by omega)]
      by_cases k0 : k = 0
      · subst k0; rw [up2_self, if_pos (by omega)]
      rw [up2_ne _ _ (by omega), hR _ (by omega), if_neg (by omega)]
    · rw [if_neg j0]
      have z : (up2 (up2 (up2 (up2 (up2 R B 0 (B + 1)) B 1 (B + 2)) B 2 (B + 3)) B 3 (B + 4)) B 4 (B + 5)) (B + j) k = 0 := by
        rw [up2_ne _ _ (by omega), up2_ne _ _ (by omega), up2_ne _ _ (by omega), up2_ne _ _ (by omega), up2_ne _ _ (by omega), hR _ (by omega)]
      rw [z]
      by_cases j4 : j = 4
      · subst j4
        rw [if_neg (by omega), if_pos rfl]
        by_cases k10 : k < 10
        · rw [if_pos (by omega), if_pos k10]
        · rw [if_neg (by omega), if_neg k10]
      rw [if_neg j4]
      by_cases j5 : j = 5
      · subst j5
        rw [if_pos rfl]
        by_cases k16 : k < 16
        · rw [if_pos (by omega), if_pos k16]
        · rw [if_neg (by omega), if_neg (by omega), if_neg k16]
      rw [if_neg j5, if_neg (by omega), if_neg (by omega)]
  · unfold fD
    by_cases j1 : j = 1
    · subst j1
      rw [if_pos rfl]
      rw [up2_ne _ _ (by omega), up2_ne _ _ (by omega), up2_ne _ _ (by omega), up2_ne _ _ (by omega), up2_ne _ _ (by omega), up2_ne _ _ (by omega)]
      by_cases k0 : k = 0
      · subst k0; rw [up2_ne _ _ (by omega), up2_ne _ _ (by omega), up2_ne _ _ (by omega), up2_self, if_pos rfl]
      rw [if_neg k0]
      by_cases k1 : k = 1
      · subst k1; rw [up2_ne _ _ (by omega), up2_ne _ _ (by omega), up2_self, if_pos rfl]
      rw [if_neg k1]
      by_cases k2 : k = 2
      · subst k2; rw [up2_ne _ _ (by omega), up2_self, if_pos rfl]
      rw [if_neg k2]
      by_cases k3 : k = 3
      · subst k3; rw [up2_self, if_pos rfl]
      rw [if_neg k3, up2_ne _ _ (by omega), up2_ne _ _ (by omega), up2_ne _ _ (by omega), up2_ne _ _ (by omega), hD _ (by omega)]
    rw [if_neg j1]
    by_cases j2 : j = 2
    · subst j2
      rw [if_pos (Or.inl rfl), up2_ne _ _ (by omega), up2_ne _ _ (by omega), up2_ne _ _ (by omega)]
      by_cases k0 : k = 0
      · subst k0; rw [up2_ne _ _ (by omega), up2_ne _ _ (by omega), up2_self, if_pos (by omega)]
      by_cases k1 : k = 1
      · subst k1; rw [up2_ne _ _ (by omega), up2_self, if_pos (by omega)]
      by_cases k2 : k = 2
      · subst k2; rw [up2_self, if_pos (by omega)]
      rw [if_neg (by omega)]
      rw [up2_ne _ _ (by omega), up2_ne _ _ (by omega), up2_ne _ _ (by omega), up2_ne _ _ (by omega), up2_ne _ _ (by omega), up2_ne _ _ (by omega), up2_ne _ _ (by omega), hD _ (by omega)]
    by_cases j3 : j = 3
    · subst j3
      rw [if_pos (Or.inr rfl)]
      by_cases k0 : k = 0
      · subst k0; rw [up2_ne _ _ (by omega), up2_ne _ _ (by omega), up2_self, if_pos (by omega)]
      by_cases k1 : k = 1
      · subst k1; rw [up2_ne _ _ (by omega), up2_self, if_pos (by omega)]
      by_cases k2 : k = 2
      · subst k2; rw [up2_self, if_pos (by omega)]
      rw [if_neg (by omega)]
      rw [up2_ne _ _ (by omega), up2_ne _ _ (by omega), up2_ne _ _ (by omega), up2_ne _ _ (by omega), up2_ne _ _ (by omega), up2_ne _ _ (by omega), up2_ne _ _ (by omega), up2_ne _ _ (by omega), up2_ne _ _ (by omega), up2_ne _ _ (by omega), hD _ (by omega)]
    rw [if_neg (by omega), up2_ne _ _ (by omega), up2_ne _ _ (by omega), up2_ne _ _ (by omega), up2_ne _ _ (by omega), up2_ne _ _ (by omega), up2_ne _ _ (by omega), up2_ne _ _ (by omega), up2_ne _ _ (by omega), up2_ne _ _ (by omega), up2_ne _ _ (by omega), hD _ (by omega)]
