/-! the class's own constructor -/
def aftP (R : Nat → Nat → Nat) (D : Nat → Nat → Int32) : Prop :=
  (∀ o, 18 ≤ o → o < 378 → ∀ k, R o k = R0 o k) ∧ (∀ o, 378 ≤ o → (R o = fun _ => 0) ∧ (D o = fun _ => 0)) ∧
  (∀ j, j < 32 → ∀ k, D (19 + j) k = fD j k) ∧ (D 84 = fun _ => 0) ∧ (D 85 = fun _ => 0) ∧ (D 311 = fun _ => 0)
theorem fR_blk {o B k : Nat} (R : Nat → Nat → Nat) (h : ∀ j k, R (B + j) k = fR B j k) (h1 : B ≤ o) : R o k = fR B (o - B) k := by
  have := h (o - B) k
  rw [show B + (o - B) = o by omega] at this
  exact this
theorem i_X5 {l : Launch} {E : eE} {d : Nat} : ct l E (d + 4) 359 3275 yX5_init cX5_init 2 none [.inr (.inr 18)] (1, S0, fun _ _ => 0, fun _ _ => 0) (fun r h' => r = none ∧ ∃ R' D', h' = (360, S0, R', D') ∧ aftP R' D') := by
  refine ct_of_rn pl_X5_init (show (1 : Nat) ≤ 2 by omega) ?_
  show rn l E (d + 4) 359 3275 yX5_init cX5_init 2 none 0 [(0, .inr (.inr 18))] [] (1, S0, fun _ _ => 0, fun _ _ => 0) _
  refine rn_aload_n (i := 0) 0 rfl rfl (by omega) dX5_init_0 ?_
  refine rn_objInit (by omega) oi_X5_1 oi_1 oi_2 dX5_init_1 (by decide) ?_
  -- firm
  refine rn_aload_n (i := 0) 0 rfl rfl (by omega) dX5_init_4 ?_
  refine i_new (ci := 0) (o := 19) (a := 358) (b := 3265) rfl rfl rfl rfl rfl rfl (by omega) k_X5_7 nw_0 ni_0 dX5_init_5 ?_
  refine rn_dup rfl dX5_init_8 ?_
  refine i_cI (a1 := 31) (b1 := 278) (a := 327) (b := 2987) rfl rfl m_X5_9 dX5_init_9 (by omega) (by show (2 : Nat) ≤ 8; omega) (i_X0 (B := 19) (by decide) rfl (fun o ho => rfl) (fun o ho => rfl)) (fun r h1 hq => ?_)
  obtain ⟨rfl, R1, D1, rfl, aft1⟩ := hq
  have az1 := aft_z aft1
  obtain ⟨a1, a2, a3⟩ := aft1
  refine rn_putr f_X5_10 (by omega) (by omega) rfl rfl (by omega) rfl rfl rfl (fun z => rfl) (fun z => rfl) dX5_init_12 ?_
  -- trial
  refine rn_aload_n (i := 0) 0 rfl rfl (by omega) dX5_init_15 ?_
  refine i_new (ci := 0) (o := 51) (a := 326) (b := 2977) rfl rfl rfl rfl (by rw [up2_o _ _ _ (by omega)]; exact (az1 _ (by omega)).1) (az1 _ (by omega)).2 (by omega) k_X5_7 nw_0 ni_0 dX5_init_16 ?_
  refine rn_dup rfl dX5_init_19 ?_
  refine i_cI (a1 := 31) (b1 := 278) (a := 295) (b := 2699) rfl rfl m_X5_9 dX5_init_20 (by omega) (by show (2 : Nat) ≤ 8; omega) (i_X0 (B := 51) (by decide) rfl (fun o ho => by rw [up2_o _ _ _ (by omega)]; exact (az1 _ (by omega)).1) (fun o ho => (az1 _ (by omega)).2)) (fun r h1 hq => ?_)
  obtain ⟨rfl, R2, D2, rfl, aft2⟩ := hq
  have az2 := aft_z aft2
  obtain ⟨b1, b2, b3⟩ := aft2
  refine rn_putr f_X5_16 (by omega) (by omega) rfl rfl (by omega) rfl rfl rfl (fun z => rfl) (fun z => rfl) dX5_init_23 ?_
  -- slots, saved
  refine rn_aload_n (i := 0) 0 rfl rfl (by omega) dX5_init_26 ?_
  refine rn_iconst (v := 2) rfl dX5_init_27 ?_
  refine i_ref (a := 294) (b := 2697) (kd := 14) (N := 2) (o := 83) rfl rfl rfl rfl (by rw [up2_o _ _ _ (by omega)]; exact (az2 _ (by omega)).1) (az2 _ (by omega)).2 (by omega) (by omega) k_X5_7 rfl (by omega) dX5_init_28 ?_
  refine rn_putr f_X5_19 (by omega) (by omega) rfl rfl (by omega) rfl rfl rfl (fun z => rfl) (fun z => rfl) dX5_init_31 ?_
  refine rn_aload_n (i := 0) 0 rfl rfl (by omega) dX5_init_34 ?_
  refine rn_iconst (v := 2) rfl dX5_init_35 ?_
  refine i_boo (a := 293) (b := 2695) (N := 2) (o := 84) rfl rfl rfl rfl (by rw [up2_o _ _ _ (by omega), up2_o _ _ _ (by omega)]; exact (az2 _ (by omega)).1) (az2 _ (by omega)).2 rfl (by omega) dX5_init_36 ?_
  refine rn_putr f_X5_23 (by omega) (by omega) rfl rfl (by omega) rfl rfl rfl (fun z => rfl) (fun z => rfl) dX5_init_38 ?_
  -- history
  refine rn_aload_n (i := 0) 0 rfl rfl (by omega) dX5_init_41 ?_
  refine i_new (ci := 1) (o := 85) (a := 292) (b := 2692) rfl rfl rfl rfl (by rw [up2_o _ _ _ (by omega), up2_o _ _ _ (by omega), up2_o _ _ _ (by omega)]; exact (az2 _ (by omega)).1) (az2 _ (by omega)).2 (by omega) k_X5_27 nw_1 ni_1 dX5_init_42 ?_
  refine rn_dup rfl dX5_init_45 ?_
  refine i_cI (a1 := 225) (b1 := 2023) (a := 67) (b := 669) rfl rfl m_X5_29 dX5_init_46 (by omega) (by show (2 : Nat) ≤ 8; omega) (i_X1 rfl (fun o ho => ⟨by rw [up2_o _ _ _ (by omega), up2_o _ _ _ (by omega), up2_o _ _ _ (by omega)]; exact (az2 _ (by omega)).1, (az2 _ (by omega)).2⟩)) (fun r h1 hq => ?_)
  obtain ⟨rfl, R3, D3, rfl, c1, c2, c3, c4, c5, c6⟩ := hq
  refine rn_putr f_X5_30 (by omega) (by omega) rfl rfl (by omega) rfl rfl rfl (fun z => rfl) (fun z => rfl) dX5_init_49 ?_
  -- pad
  refine rn_aload_n (i := 0) 0 rfl rfl (by omega) dX5_init_52 ?_
  refine i_new (ci := 3) (o := 311) (a := 66) (b := 661) rfl rfl rfl rfl (by rw [up2_o _ _ _ (by omega)]; exact (c6 _ (by omega)).1) (c6 _ (by omega)).2 (by omega) k_X5_34 nw_3 ni_3 dX5_init_53 ?_
  refine rn_dup rfl dX5_init_56 ?_
  refine i_cN (a1 := 2) (b1 := 85) (a := 64) (b := 576) rfl rfl m_X5_36 dX5_init_57 (by omega) (by show (2 : Nat) ≤ 8; omega) (i_X3 rfl (fun o ho => ⟨by rw [up2_o _ _ _ (by omega)]; exact (c6 _ (by omega)).1, (c6 _ (by omega)).2⟩)) (fun r h1 hq => ?_)
  obtain ⟨rfl, rfl⟩ := hq
  refine rn_putr f_X5_37 (by omega) (by omega) rfl rfl (by omega) rfl rfl rfl (fun z => rfl) (fun z => rfl) dX5_init_60 ?_
  have hRf : ∀ o, o ≠ 18 → o ≠ 311 → (up2 (up2 (up2 (up2 R3 18 4 85) 311 0 312) 311 1 313) 18 5 311) o = R3 o := fun o x y => by
    rw [up2_o _ _ _ x, up2_o _ _ _ y, up2_o _ _ _ y, up2_o _ _ _ x]
  have hR18 : ∀ k, (up2 (up2 (up2 (up2 R3 18 4 85) 311 0 312) 311 1 313) 18 5 311) 18 k = R0 18 k := fun k => by
    unfold R0
    rw [if_pos rfl]
    by_cases k5 : k = 5
    · subst k5; rw [up2_self]; rfl
    rw [up2_ne _ _ (by omega), up2_ne _ _ (by omega), up2_ne _ _ (by omega)]
    by_cases k4 : k = 4
    · subst k4; rw [up2_self]; rfl
    rw [up2_ne _ _ (by omega), (c1 18 (by omega)).1]
    by_cases k3 : k = 3
    · subst k3; rw [up2_self]; rfl
    rw [up2_ne _ _ (by omega)]
    by_cases k2 : k = 2
    · subst k2; rw [up2_self]; rfl
    rw [up2_ne _ _ (by omega)]
    by_cases k1 : k = 1
    · subst k1; rw [up2_self]; rfl
    rw [up2_ne _ _ (by omega), (b1 18 (by omega)).1]
    by_cases k0 : k = 0
    · subst k0; rw [up2_self]; rfl
    rw [up2_ne _ _ (by omega), (a1 18 (by omega)).1, if_neg k0, if_neg k1, if_neg k2, if_neg k3, if_neg k4, if_neg k5]
  have hR311 : ∀ k, (up2 (up2 (up2 (up2 R3 18 4 85) 311 0 312) 311 1 313) 18 5 311) 311 k = if k = 0 then 312 else if k = 1 then 313 else 0 := fun k => by
    rw [up2_ne _ _ (by omega)]
    by_cases k1 : k = 1
    · subst k1; rw [up2_self]; rfl
    rw [up2_ne _ _ (by omega)]
    by_cases k0 : k = 0
    · subst k0; rw [up2_self]; rfl
    rw [up2_ne _ _ (by omega), up2_ne _ _ (by omega), (c6 311 (by omega)).1, if_neg k0, if_neg k1]
  generalize up2 (up2 (up2 (up2 R3 18 4 85) 311 0 312) 311 1 313) 18 5 311 = Rf at hRf hR18 hR311
  have hz : ∀ o, 314 ≤ o → (Rf o = fun _ => 0) ∧ (D3 o = fun _ => 0) := fun o ho => ⟨by rw [hRf o (by omega) (by omega)]; exact (c6 o (by omega)).1, (c6 o (by omega)).2⟩
  have r83 : Rf 83 = fun _ => 0 := by
    rw [hRf 83 (by omega) (by omega), (c1 83 (by omega)).1, up2_o _ _ _ (by omega), up2_o _ _ _ (by omega), up2_o _ _ _ (by omega)]
    exact (az2 83 (by omega)).1
  -- the two firms of the slots
  refine rn_iconst (v := 0) rfl dX5_init_63 ?_
  refine rn_istore_n (i := 1) (ls' := [(1, .inl 0), (0, .inr (.inr 18))]) rfl (by omega) rfl dX5_init_64 ?_
  refine rn_iload_n (i := 1) 0 rfl rfl dX5_init_65 ?_
  refine rn_iconst (v := 2) rfl dX5_init_66 ?_
  refine rn_icmp_ge (tgt := 89) dX5_init_67 rfl (fun z => absurd z (by decide)) (fun _ => ?_)
  refine rn_aload_n (i := 0) 1 rfl rfl (by omega) dX5_init_70 ?_
  refine rn_getr (q := 83) f_X5_19 (by omega) (by omega) rfl rfl (by rw [hR18]; rfl) dX5_init_71 ?_
  refine rn_iload_n (i := 1) 0 rfl rfl dX5_init_74 ?_
  refine i_new (ci := 0) (o := 314) (a := 63) (b := 566) rfl rfl rfl rfl (hz _ (by omega)).1 (hz _ (by omega)).2 (by omega) k_X5_7 nw_0 ni_0 dX5_init_75 ?_
  refine rn_dup rfl dX5_init_78 ?_
  refine i_cI (a1 := 31) (b1 := 278) (a := 32) (b := 288) rfl rfl m_X5_9 dX5_init_79 (by omega) (by show (3 : Nat) ≤ 8; omega) (i_X0 (B := 314) (by decide) rfl (fun o ho => (hz _ ho).1) (fun o ho => (hz _ ho).2)) (fun r h1 hq => ?_)
  obtain ⟨rfl, R4, D4, rfl, aft4⟩ := hq
  have az4 := aft_z aft4
  obtain ⟨d1, d2, d3⟩ := aft4
  refine i_ast (kd := 14) (j := 0) (o := 83) (N := 2) rfl (by omega) (by omega) (by omega) (by omega) (by omega) (by omega) rfl (by omega) (by omega) rfl dX5_init_82 ?_
  refine rn_iinc (n := 1) (v := 1) 0 rfl rfl (by omega) rfl dX5_init_83 ?_
  refine rn_goto (tgt := 65) dX5_init_86 rfl ?_
  refine rn_iload_n (i := 1) 0 rfl rfl dX5_init_65 ?_
  refine rn_iconst (v := 2) rfl dX5_init_66 ?_
  refine rn_icmp_ge (tgt := 89) dX5_init_67 rfl (fun z => absurd z (by decide)) (fun _ => ?_)
  refine rn_aload_n (i := 0) 1 rfl rfl (by omega) dX5_init_70 ?_
  refine rn_getr (q := 83) f_X5_19 (by omega) (by omega) rfl rfl (by rw [up2_ne _ _ (by omega), (d1 18 (by omega)).1, hR18]; rfl) dX5_init_71 ?_
  refine rn_iload_n (i := 1) 0 rfl rfl dX5_init_74 ?_
  refine i_new (ci := 0) (o := 346) (a := 31) (b := 278) rfl rfl rfl rfl (by rw [up2_o _ _ _ (by omega)]; exact (az4 _ (by omega)).1) (az4 _ (by omega)).2 (by omega) k_X5_7 nw_0 ni_0 dX5_init_75 ?_
  refine rn_dup rfl dX5_init_78 ?_
  refine i_cI (a1 := 31) (b1 := 278) (a := 0) (b := 0) rfl rfl m_X5_9 dX5_init_79 (by omega) (by show (3 : Nat) ≤ 8; omega) (i_X0 (B := 346) (by decide) rfl (fun o ho => by rw [up2_o _ _ _ (by omega)]; exact (az4 _ (by omega)).1) (fun o ho => (az4 _ (by omega)).2)) (fun r h1 hq => ?_)
  obtain ⟨rfl, R5, D5, rfl, aft5⟩ := hq
  have az5 := aft_z aft5
  obtain ⟨e1, e2, e3⟩ := aft5
  refine i_ast (kd := 14) (j := 1) (o := 83) (N := 2) rfl (by omega) (by omega) (by omega) (by omega) (by omega) (by omega) rfl (by omega) (by omega) rfl dX5_init_82 ?_
  refine rn_iinc (n := 1) (v := 2) 0 rfl rfl (by omega) rfl dX5_init_83 ?_
  refine rn_goto (tgt := 65) dX5_init_86 rfl ?_
  refine rn_iload_n (i := 1) 0 rfl rfl dX5_init_65 ?_
  refine rn_iconst (v := 2) rfl dX5_init_66 ?_
  refine rn_icmp_ge (tgt := 89) dX5_init_67 rfl (fun _ => ?_) (fun z => absurd (show (2 : Int32) ≤ 2 by decide) z)
  refine rn_retv ⟨rfl, _, D5, rfl, ?_, ?_, ?_, ?_, ?_, ?_⟩ rfl dX5_init_89
  · intro o ho ho2 k
    have hx : ∀ o, o < 314 → o ≠ 83 → (up2 R5 83 1 346) o = Rf o := fun o x y => by
      rw [up2_o _ _ _ y, (e1 o (by omega)).1, up2_o _ _ _ y, (d1 o (by omega)).1]
    have h3 : ∀ o, o < 83 → o ≠ 18 → Rf o = R2 o := fun o x y => by
      rw [hRf o y (by omega), (c1 o (by omega)).1, up2_o _ _ _ y, up2_o _ _ _ y, up2_o _ _ _ y]
    by_cases q : o = 18
    · subst q
      rw [hx 18 (by omega) (by omega)]
      exact hR18 k
    by_cases q : o < 51
    · rw [hx o (by omega) (by omega), h3 o (by omega) (by omega), (b1 o (by omega)).1, up2_o _ _ _ (by omega), fR_blk R1 a2 (show 19 ≤ o by omega)]
      unfold R0
      rw [if_neg (by omega), if_pos (by omega), show (o - 19) % 32 = o - 19 by omega, show o - (o - 19) = 19 by omega]
    by_cases q : o < 83
    · rw [hx o (by omega) (by omega), h3 o (by omega) (by omega), fR_blk R2 b2 (show 51 ≤ o by omega)]
      unfold R0
      rw [if_neg (by omega), if_pos (by omega), show (o - 19) % 32 = o - 51 by omega, show o - (o - 51) = 51 by omega]
    by_cases q : o = 83
    · subst q
      unfold R0
      rw [if_neg (by omega), if_neg (by omega), if_pos rfl]
      by_cases k1 : k = 1
      · subst k1; rw [up2_self]; rfl
      rw [up2_ne _ _ (by omega), (e1 83 (by omega)).1]
      by_cases k0 : k = 0
      · subst k0; rw [up2_self]; rfl
      rw [up2_ne _ _ (by omega), (d1 83 (by omega)).1, r83, if_neg k0, if_neg k1]
    by_cases q : o = 84
    · subst q
      rw [hx 84 (by omega) (by omega), hRf 84 (by omega) (by omega), (c1 84 (by omega)).1, up2_o _ _ _ (by omega), up2_o _ _ _ (by omega), up2_o _ _ _ (by omega), (az2 84 (by omega)).1]
      rfl
    by_cases q : o = 85
    · subst q
      rw [hx 85 (by omega) (by omega), hRf 85 (by omega) (by omega), c2]
      rfl
    by_cases q : o = 86
    · subst q
      rw [hx 86 (by omega) (by omega), hRf 86 (by omega) (by omega), c3]
      rfl
    by_cases q : o < 311
    · rw [hx o (by omega) (by omega), hRf o (by omega) (by omega)]
      have := c5 ((o - 87) / 32) (by omega) ((o - 87) % 32) (by omega) k
      rw [show 87 + 32 * ((o - 87) / 32) + (o - 87) % 32 = o by omega] at this
      rw [this]
      unfold R0
      rw [if_neg (by omega), if_neg (by omega), if_neg (by omega), if_neg (by omega), if_neg (by omega), if_neg (by omega), if_pos (by omega), show o - (o - 87) % 32 = 87 + 32 * ((o - 87) / 32) by omega]
    by_cases q : o = 311
    · subst q
      rw [hx 311 (by omega) (by omega), hR311]
      rfl
    by_cases q : o < 314
    · rw [hx o (by omega) (by omega), hRf o (by omega) (by omega), (c6 o (by omega)).1]
      unfold R0
      rw [if_neg (by omega), if_neg (by omega), if_neg (by omega), if_neg (by omega), if_neg (by omega), if_neg (by omega), if_neg (by omega), if_neg (by omega), if_pos (by omega)]
    by_cases q : o < 346
    · rw [up2_o _ _ _ (by omega), (e1 o (by omega)).1, up2_o _ _ _ (by omega), fR_blk R4 d2 (show 314 ≤ o by omega)]
      unfold R0
      rw [if_neg (by omega), if_neg (by omega), if_neg (by omega), if_neg (by omega), if_neg (by omega), if_neg (by omega), if_neg (by omega), if_neg (by omega), if_neg (by omega), if_pos (by omega), show (o - 314) % 32 = o - 314 by omega, show o - (o - 314) = 314 by omega]
    · rw [up2_o _ _ _ (by omega), fR_blk R5 e2 (show 346 ≤ o by omega)]
      unfold R0
      rw [if_neg (by omega), if_neg (by omega), if_neg (by omega), if_neg (by omega), if_neg (by omega), if_neg (by omega), if_neg (by omega), if_neg (by omega), if_neg (by omega), if_pos (by omega), show (o - 314) % 32 = o - 346 by omega, show o - (o - 346) = 346 by omega]
  · intro o ho
    exact ⟨by rw [up2_o _ _ _ (by omega)]; exact (az5 o ho).1, (az5 o ho).2⟩
  · intro j hj k
    rw [(e1 _ (by omega)).2, (d1 _ (by omega)).2, (c1 _ (by omega)).2, (b1 _ (by omega)).2, a3]
  · rw [(e1 _ (by omega)).2, (d1 _ (by omega)).2, (c1 _ (by omega)).2]
    exact (az2 _ (by omega)).2
  · rw [(e1 _ (by omega)).2, (d1 _ (by omega)).2]
    exact c4.1
  · rw [(e1 _ (by omega)).2, (d1 _ (by omega)).2]
    exact (c6 _ (by omega)).2
