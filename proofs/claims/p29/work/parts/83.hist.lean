/-! the history and the pad are made -/
theorem fR_z {B j k : Nat} (h : 32 ≤ j) : fR B j k = 0 := by
  unfold fR
  rw [if_neg (by omega), if_neg (by omega), if_neg (by omega)]
theorem fD_z {j k : Nat} (h : 32 ≤ j) : fD j k = 0 := by
  unfold fD
  rw [if_neg (by omega), if_neg (by omega)]
theorem aft_z {B : Nat} {R : Nat → Nat → Nat} {D : Nat → Nat → Int32} {R' : Nat → Nat → Nat} {D' : Nat → Nat → Int32} (h : aftF B R D R' D') : ∀ o, B + 32 ≤ o → (R' o = fun _ => 0) ∧ (D' o = fun _ => 0) := by
  intro o ho
  obtain ⟨j, rfl⟩ : ∃ j, o = B + j := ⟨o - B, by omega⟩
  refine ⟨funext fun k => ?_, funext fun k => ?_⟩
  · rw [h.2.1, fR_z (by omega)]
  · rw [h.2.2, fD_z (by omega)]
def hI9 (Rs : Nat → Nat → Nat) (Ds : Nat → Nat → Int32) (i : Nat) (R : Nat → Nat → Nat) (D : Nat → Nat → Int32) : Prop :=
  (∀ o, o < 85 → R o = Rs o ∧ D o = Ds o) ∧ (∀ k, R 85 k = if k = 0 then 86 else 0) ∧ (∀ k, R 86 k = if k < i then 87 + 32 * k else 0) ∧ ((D 85 = fun _ => 0) ∧ (D 86 = fun _ => 0)) ∧
  (∀ j, j < i → ∀ q, q < 32 → ∀ k, R (87 + 32 * j + q) k = fR (87 + 32 * j) q k) ∧ ∀ o, 87 + 32 * i ≤ o → (R o = fun _ => 0) ∧ (D o = fun _ => 0)
section HI
variable {l : Launch} {E : eE} {d aK bK : Nat} {Q : Option vV → hP → Prop} {Rs : Nat → Nat → Nat} {Ds : Nat → Nat → Int32}
theorem i_lpH : ∀ m i n R D, i + m = 7 → 18 + n = 87 + 32 * i → hI9 Rs Ds i R D →
    (∀ R' D', hI9 Rs Ds 7 R' D' → rn l E (d + 3) aK bK yX1_init cX1_init 2 none 40 [(1, .inl (nI 7)), (0, .inr (.inr 85))] [] (n + 32 * m, S0, R', D') Q) →
    rn l E (d + 3) (32 * m + aK) (288 * m + bK) yX1_init cX1_init 2 none 15 [(1, .inl (nI i)), (0, .inr (.inr 85))] [] (n, S0, R, D) Q := by
  intro m
  induction m with
  | zero =>
    intro i n R D h1 h2 hI hK
    have e : i = 7 := by omega
    subst e
    rw [Nat.mul_zero, Nat.zero_add, Nat.zero_add]
    refine rn_iload_n (i := 1) 0 rfl rfl dX1_init_15 ?_
    refine rn_bipush (v := 7) rfl dX1_init_16 ?_
    refine rn_icmp_ge (tgt := 40) dX1_init_18 rfl (fun _ => ?_) (fun z => absurd (show (7 : Int32) ≤ nI 7 by decide) z)
    exact hK R D hI
  | succ m ih =>
    intro i n R D h1 h2 hI hK
    have hi : i < 7 := by omega
    have hB := fHi hi
    have ob := oF hB
    obtain ⟨g1, g2, g3, g4, g5, g6⟩ := id hI
    refine rn_iload_n (i := 1) 0 rfl rfl dX1_init_15 ?_
    refine rn_bipush (v := 7) rfl dX1_init_16 ?_
    refine rn_icmp_ge (tgt := 40) dX1_init_18 rfl (fun z => absurd z (nI_ge (b := 7) (by omega) (by omega))) (fun _ => ?_)
    refine rn_aload_n (i := 0) 1 rfl rfl (by omega) dX1_init_21 ?_
    refine rn_getr (q := 86) f_X1_13 (by omega) (by omega) rfl rfl (by rw [g2, if_pos rfl]) dX1_init_22 ?_
    refine rn_iload_n (i := 1) 0 rfl rfl dX1_init_25 ?_
    refine i_new (ci := 0) (o := 87 + 32 * i) (a := 31 + (32 * m + aK)) (b := 278 + (288 * m + bK)) (by omega) (by show 288 * (m + 1) + bK = 10 + (278 + (288 * m + bK)); omega) h2 ob.2.2 (g6 _ (by omega)).1 (g6 _ (by omega)).2 (by omega) k_X1_11 nw_0 ni_0 dX1_init_26 ?_
    refine rn_dup rfl dX1_init_29 ?_
    refine i_cI (a1 := 31) (b1 := 278) rfl rfl m_X1_17 dX1_init_30 (by omega) (by show (3 : Nat) ≤ 8; omega) (i_X0 hB (by omega) (fun o ho => (g6 o ho).1) (fun o ho => (g6 o ho).2)) (fun r h1 hq => ?_)
    obtain ⟨rfl, R', D', rfl, aft⟩ := hq
    have az := aft_z aft
    obtain ⟨a1, a2, a3⟩ := aft
    refine i_ast (kd := 14) (j := i) (o := 86) (N := 7) rfl hi (by omega) (by omega) (by omega) (by omega) (by omega) rfl ob.1 (by omega) (okO_1 ob) dX1_init_33 ?_
    refine rn_iinc (n := 1) (v := nI (i + 1)) 0 rfl (show nI i + 1 = _ from nI_1 i) (by omega) rfl dX1_init_34 ?_
    refine rn_goto (tgt := 15) dX1_init_37 rfl ?_
    refine ih (i + 1) (n + 1 + 31) (up2 R' 86 i (87 + 32 * i)) D' (by omega) (by omega) ⟨fun o ho => ?_, fun k => ?_, fun k => ?_, ⟨?_, ?_⟩, fun j hj q hq k => ?_, fun o ho => ?_⟩ (fun R2 D2 hI2 => ?_)
    · rw [up2_o _ _ _ (by omega), (a1 o (by omega)).1, (a1 o (by omega)).2]
      exact g1 o ho
    · rw [up2_ne _ _ (by omega), (a1 85 (by omega)).1]
      exact g2 k
    · by_cases e : k = i
      · subst e; rw [up2_self, if_pos (by omega)]
      · rw [up2_ne _ _ (by omega), (a1 86 (by omega)).1, g3]
        by_cases e2 : k < i
        · rw [if_pos e2, if_pos (by omega)]
        · rw [if_neg e2, if_neg (by omega)]
    · rw [(a1 85 (by omega)).2]; exact g4.1
    · rw [(a1 86 (by omega)).2]; exact g4.2
    · rw [up2_ne _ _ (by omega)]
      by_cases e : j = i
      · subst e; exact a2 q k
      · rw [(a1 (87 + 32 * j + q) (by omega)).1]; exact g5 j (by omega) q hq k
    · rw [up2_o _ _ _ (by omega)]; exact az o (by omega)
    · rw [show n + 1 + 31 + 32 * m = n + 32 * (m + 1) by omega]
      exact hK R2 D2 hI2
end HI
theorem i_X1 {l : Launch} {E : eE} {d n : Nat} {R : Nat → Nat → Nat} {D : Nat → Nat → Int32} (hn : 18 + n = 86) (hz : ∀ o, 85 ≤ o → (R o = fun _ => 0) ∧ (D o = fun _ => 0)) :
    ct l E (d + 3) 225 2023 yX1_init cX1_init 2 none [.inr (.inr 85)] (n, S0, R, D) (fun r h' => r = none ∧ ∃ R' D', h' = (n + 225, S0, R', D') ∧ hI9 R D 7 R' D') := by
  refine ct_of_rn pl_X1_init (show (1 : Nat) ≤ 2 by omega) ?_
  show rn l E (d + 3) 225 2023 yX1_init cX1_init 2 none 0 [(0, .inr (.inr 85))] [] (n, S0, R, D) _
  refine rn_aload_n (i := 0) 0 rfl rfl (by omega) dX1_init_0 ?_
  refine rn_objInit (by omega) oi_X1_3 oi_1 oi_2 dX1_init_1 (by decide) ?_
  refine rn_aload_n (i := 0) 0 rfl rfl (by omega) dX1_init_4 ?_
  refine rn_bipush (v := 7) rfl dX1_init_5 ?_
  refine i_ref (a := 224) (b := 2016) (kd := 14) (N := 7) (o := 86) rfl rfl hn rfl (hz _ (by omega)).1 (hz _ (by omega)).2 (by omega) (by omega) k_X1_11 rfl (by omega) dX1_init_7 ?_
  refine rn_putr f_X1_13 (by omega) (by omega) rfl rfl (by omega) rfl rfl rfl (fun z => rfl) (fun z => rfl) dX1_init_10 ?_
  refine rn_iconst (v := 0) rfl dX1_init_13 ?_
  refine rn_istore_n (i := 1) (ls' := [(1, .inl (nI 0)), (0, .inr (.inr 85))]) rfl (by omega) rfl dX1_init_14 ?_
  show rn l E (d + 3) (32 * 7 + 0) (288 * 7 + 0) yX1_init cX1_init 2 none 15 [(1, .inl (nI 0)), (0, .inr (.inr 85))] [] (n + 1, S0, _, _) _
  refine i_lpH (Rs := R) (Ds := D) 7 0 (n + 1) _ _ rfl (by omega) ⟨fun o ho => ⟨up2_o _ _ _ (by omega), rfl⟩, fun k => ?_, fun k => ?_, ⟨(hz _ (by omega)).2, (hz _ (by omega)).2⟩, fun j hj => absurd hj (by omega), fun o ho => ?_⟩ (fun R' D' hI => ?_)
  · by_cases e : k = 0
    · subst e; rw [up2_self, if_pos rfl]
    · rw [up2_ne _ _ (by omega), (hz 85 (by omega)).1, if_neg e]
  · rw [up2_ne _ _ (by omega), (hz 86 (by omega)).1, if_neg (by omega)]
  · rw [up2_o _ _ _ (by omega)]; exact hz o (by omega)
  · exact rn_retv ⟨rfl, R', D', rfl, hI⟩ rfl dX1_init_40
theorem i_X3 {l : Launch} {E : eE} {d n : Nat} {R : Nat → Nat → Nat} {D : Nat → Nat → Int32} (hn : 18 + n = 312) (hz : ∀ o, 311 ≤ o → (R o = fun _ => 0) ∧ (D o = fun _ => 0)) :
    ct l E (d + 1) 2 85 yX3_init cX3_init 1 none [.inr (.inr 311)] (n, S0, R, D) (fun r h' => r = none ∧ h' = (n + 2, S0, up2 (up2 R 311 0 312) 311 1 313, D)) := by
  refine ct_of_rn pl_X3_init (show (1 : Nat) ≤ 1 by omega) ?_
  show rn l E (d + 1) 2 85 yX3_init cX3_init 1 none 0 [(0, .inr (.inr 311))] [] (n, S0, R, D) _
  refine rn_aload_n (i := 0) 0 rfl rfl (by omega) dX3_init_0 ?_
  refine rn_objInit (by omega) oi_X3_3 oi_1 oi_2 dX3_init_1 (by decide) ?_
  refine rn_aload_n (i := 0) 0 rfl rfl (by omega) dX3_init_4 ?_
  refine rn_bipush (v := 80) rfl dX3_init_5 ?_
  refine i_int (a := 1) (b := 5) (N := 80) (o := 312) rfl rfl hn rfl (hz _ (by omega)).1 (hz _ (by omega)).2 rfl (by omega) dX3_init_7 ?_
  refine rn_putr f_X3_9 (by omega) (by omega) rfl rfl (by omega) rfl rfl rfl (fun z => rfl) (fun z => rfl) dX3_init_9 ?_
  refine rn_aload_n (i := 0) 0 rfl rfl (by omega) dX3_init_12 ?_
  refine rn_iconst (v := 5) rfl dX3_init_13 ?_
  refine i_int (a := 0) (b := 0) (N := 5) (o := 313) rfl rfl (by omega) rfl (by rw [up2_o _ _ _ (by omega)]; exact (hz _ (by omega)).1) (hz _ (by omega)).2 rfl (by omega) dX3_init_14 ?_
  refine rn_putr f_X3_15 (by omega) (by omega) rfl rfl (by omega) rfl rfl rfl (fun z => rfl) (fun z => rfl) dX3_init_16 ?_
  exact rn_retv ⟨rfl, rfl⟩ rfl dX3_init_19
