theorem txt_le {ch : Nat → Nat} {L : Nat} (hL : ∀ i, L ≤ i → ch i = 0) : ∀ f a, a ≤ L → (txt ch L f a).1 ≤ L := by
  intro f
  induction f with
  | zero => intro a h; exact h
  | succ f ih =>
    intro a ha
    obtain ⟨q1, q2, q3⟩ := ord_q hL ha
    unfold txt
    cases ho : (ord ch a).2 with
    | none => exact q2
    | some o =>
      dsimp only
      by_cases hp : L ≤ (ord ch a).1
      · rw [if_pos hp]; exact q2
      · rw [if_neg hp]
        by_cases e : ch (ord ch a).1 = 59
        · rw [if_pos e]; exact ih _ (by omega)
        · rw [if_neg e]; exact q2
theorem b_carryOut {D : dT} (h : RR D) : both D F_X5_carryOut F_X6_carryOut := by
  obtain ⟨hf, h0, ⟨o, c, ho, hc, h1, h2, h4, hX⟩, hS, hPX⟩ := id h
  obtain ⟨L, ch, hP, e8, e384⟩ := PX_ch hPX
  obtain ⟨n, b, sg, cr, kd, nu, rC⟩ := c_fault hP
  have e2 : ∀ q, q ≠ 311 → q ≠ 313 → pS D n b sg cr kd nu q = D q := fun q a b => pS_o a b
  have e24 : pS D n b sg cr kd nu 311 4 = D 311 4 := pS_4
  generalize pS D n b sg cr kd nu = D2 at rC e2 e24
  cases ht : (txt ch L 81 0).2 with
  | none =>
    have hle := txt_le hP.2.2.2 81 0 (Nat.zero_le _)
    have h80 := hP.1
    rw [ht] at rC
    have hE : PE D2 ch L := PE_of hP (by rw [e2 378 (by omega) (by omega)]; exact e8) (fun i hi => by rw [e2 384 (by omega) (by omega)]; exact e384 i hi)
    obtain ⟨w', k', rd', rE, -⟩ := e_reads hE
    rw [ht] at rE
    have hn6 : ¬ (if (none : Option (List (Nat → Int32))).isSome = true then (-6 : Int32) else nI (txt ch L 81 0).1) = -6 := by
      rw [if_neg (by simp)]
      intro z
      have := nI_pos (n := (txt ch L 81 0).1) (by omega)
      rw [z] at this
      exact this (by decide)
    refine ⟨-3, D2, rS9 D2 (txt ch L 81 0).1 w' k' rd', ?_, ?_, ?_⟩
    · unfold F_X5_carryOut
      rw [rC, bd_some, if_neg hn6]
    · unfold F_X6_carryOut
      rw [up2_id (by rw [e2 378 (by omega) (by omega)]; exact h0), rE, bd_some, if_neg hn6]
    · refine RR_pad h (fun q a b c d => ?_) ?_ (fun k hk => ?_)
      · rw [rS_o c d, e2 q a b]
      · rw [rS_o (by omega) (by omega), e24]
      · rw [rS_f]
        unfold rF
        rw [if_neg (by omega), if_neg (by omega), if_neg (by omega), e2 378 (by omega) (by omega)]
  | some os =>
    rw [ht, if_pos (show (some os).isSome = true from rfl)] at rC
    have hch := txt_chn hP.2.2.2 81 0 os (Nat.zero_le _) ht
    obtain ⟨Dn, n1, n2, n3⟩ := c_note (D := D2) (s := D 379) ho hc (by rw [e2 85 (by omega) (by omega)]; exact h1) (by rw [e2 85 (by omega) (by omega)]; exact h2) (FS_off hf (fun q a b => e2 q (by omega) (by omega)))
    have en2 : ∀ q, (q < 87 ∨ 311 ≤ q) → Dn q = D2 q := fun q hq => n3 q (by omega)
    have en : ∀ q, (q < 87 ∨ 311 ≤ q) → q ≠ 311 → q ≠ 313 → Dn q = D q := fun q hq a b => by rw [en2 q hq, e2 q a b]
    have hfn : FS Dn 19 (D 379) := FS_off hf (fun q a b => en q (by omega) (by omega) (by omega))
    have hXn : HX Dn (D 381) o c := HX_off hX (fun i hi q a b => by rw [n3 q (by omega), e2 q (by omega) (by omega)])
    have hPn : PD Dn ch L := ⟨hP.1, by rw [en2 311 (by omega), e24]; exact hP.2.1, fun i hi => by rw [en 312 (by omega) (by omega) (by omega)]; exact hP.2.2.1 i hi, hP.2.2.2⟩
    obtain ⟨P, J, hF, hSI⟩ := hfn
    have hEn : PE D2 ch L := PE_of hP (by rw [e2 378 (by omega) (by omega)]; exact e8) (fun i hi => by rw [e2 384 (by omega) (by omega)]; exact e384 i hi)
    have hlen : os.length ≤ 41 := by
      obtain ⟨_, k', _, _, q⟩ := e_reads hEn
      have := (q os ht)
      have := hP.1
      omega
    obtain ⟨nn, en3⟩ := pS_ex Dn 0
    obtain ⟨m, s', D', P', J', r1, r2, r3, r4, r5, r6⟩ := c_lp os Dn (D 379) P J lim 0 0 nn (Dn 311 5) (Dn 311 6) (Dn 311 7) (Dn 313) hPn hF hSI hch (Nat.zero_le _) (lim_lt (by omega)) (by omega)
    have e85a : (up2 D' 311 4 (0 : Int32)) 85 = D' 85 := up2_o _ _ _ (by omega)
    have k1 : (up2 D' 311 4 (0 : Int32)) 85 1 = nI o := by rw [e85a, r5 85 (by omega) (by omega) (by omega), en 85 (by omega) (by omega) (by omega)]; exact h1
    have k2 : (up2 D' 311 4 (0 : Int32)) 85 2 = nI c := by rw [e85a, r5 85 (by omega) (by omega) (by omega), en 85 (by omega) (by omega) (by omega)]; exact h2
    have kk := c_keep1 (D := up2 D' 311 4 (0 : Int32)) (v := nI (0 + m)) (nI_pos (by omega)) ho hc k1 k2
    generalize hDk : (if c = 6 then up2 (up2 D' 311 4 (0 : Int32)) 85 1 (nI ((o + 1) % 7)) else up2 (up2 D' 311 4 (0 : Int32)) 85 2 (nI (c + 1))) = Dk at kk
    have ek : ∀ q, q ≠ 85 → Dk q = (up2 D' 311 4 (0 : Int32)) q := fun q hq => by
      rw [← hDk]
      by_cases e : c = 6
      · rw [if_pos e, up2_o _ _ _ hq]
      · rw [if_neg e, up2_o _ _ _ hq]
    have ek2 : ∀ q, q ≠ 85 → q ≠ 311 → Dk q = D' q := fun q a b => by rw [ek q a, up2_o _ _ _ b]
    have ed : ∀ q, q ≠ 85 → q ≠ 311 → q ≠ 313 → (q < 19 ∨ 51 ≤ q) → (q < 87 ∨ 311 ≤ q) → Dk q = D q := fun q a b c d e => by rw [ek2 q a b, r5 q (by omega) b c, en q e b c]
    have g378 : Dk 378 = D 378 := ed 378 (by omega) (by omega) (by omega) (by omega) (by omega)
    have g379 : Dk 379 = D 379 := ed 379 (by omega) (by omega) (by omega) (by omega) (by omega)
    have hE : PE Dk ch L := PE_of hP (by rw [g378]; exact e8) (fun i hi => by rw [ed 384 (by omega) (by omega) (by omega) (by omega) (by omega)]; exact e384 i hi)
    obtain ⟨w', k', rd', x1, x2⟩ := e_reads hE
    obtain ⟨x2, x3, x4⟩ := x2 os ht
    rw [ht, if_pos (show (some os).isSome = true from rfl)] at x1
    have y4 : (rS9 Dk (txt ch L 81 0).1 w' k' rd') 378 4 = nI c := by rw [rS_f]; unfold rF; rw [if_neg (by omega), if_neg (by omega), if_neg (by omega), g378]; exact h4
    have y0 : (rS9 Dk (txt ch L 81 0).1 w' k' rd') 378 0 = 0 := by rw [rS_f]; unfold rF; rw [if_neg (by omega), if_neg (by omega), if_neg (by omega), g378]; exact h0
    have y12 : (rS9 Dk (txt ch L 81 0).1 w' k' rd') 378 12 = nI k' := rS_12
    have y385 : (rS9 Dk (txt ch L 81 0).1 w' k' rd') 385 = rd' := rS_n
    have yo : ∀ q, q ≠ 378 → q ≠ 385 → (rS9 Dk (txt ch L 81 0).1 w' k' rd') q = Dk q := fun q a b => rS_o a b
    generalize rS9 Dk (txt ch L 81 0).1 w' k' rd' = E1 at x1 y4 y0 y12 y385 yo
    have z378 : ∀ k, k ≠ 4 → (recD E1 c) 378 k = E1 378 k := fun k hk => by
      unfold recD
      rw [wr_s, upd_n _ _ hk]
    have z4 : (recD E1 c) 378 4 = nI (recN c) := by
      unfold recD
      rw [wr_s, upd_s]
    have z381 : (recD E1 c) 381 = recU (D 381) (D 379) c := by
      unfold recD
      rw [wr_o _ _ (by omega), wr_s, yo 381 (by omega) (by omega), yo 379 (by omega) (by omega), g379, ed 381 (by omega) (by omega) (by omega) (by omega) (by omega)]
    have zo : ∀ q, q ≠ 378 → q ≠ 381 → (recD E1 c) q = E1 q := fun q a b => by
      unfold recD
      rw [wr_o _ _ a, wr_o _ _ b]
    have zr := r_records E1 y4 hc
    generalize recD E1 c = E2 at z378 z4 z381 zo zr
    have w379 : (up2 E2 378 8 (0 : Int32)) 379 = D 379 := by rw [up2_o _ _ _ (by omega), zo 379 (by omega) (by omega), yo 379 (by omega) (by omega), g379]
    have w12 : (up2 E2 378 8 (0 : Int32)) 378 12 = nI (0 + os.length) := by rw [up2_ne _ _ (by omega), z378 12 (by omega), y12, x2, Nat.zero_add]
    have w385 : (up2 E2 378 8 (0 : Int32)) 385 = rd' := by rw [up2_o _ _ _ (by omega), zo 385 (by omega) (by omega), y385]
    have fin := r6 (up2 E2 378 8 (0 : Int32)) lim w379 w12 (fun i o' hi => by
      rw [w385, Nat.zero_add]
      exact x4 i o' hi) (lim_lt (by omega))
    have w8 : ∀ q, q ≠ 378 → (up2 E2 378 8 (0 : Int32)) q = E2 q := fun q a => up2_o _ _ _ a
    have w8k : ∀ k, k ≠ 8 → (up2 E2 378 8 (0 : Int32)) 378 k = E2 378 k := fun k hk => up2_ne _ _ (by omega)
    have w88 : (up2 E2 378 8 (0 : Int32)) 378 8 = 0 := up2_self _ _ _ _
    refine ⟨nI (0 + m), Dk, ws (up2 E2 378 8 (0 : Int32)) s', ?_, ?_, ?_⟩
    · unfold F_X5_carryOut F_X3_startReading
      rw [rC, bd_some, if_pos rfl, n1, bd_some, bd_some]
      rw [show up2 Dn 311 3 (0 : Int32) = up2 Dn 311 3 (nI 0) from rfl, en3, show F_X5_carryOut_35 lim (0 : Int32) = F_X5_carryOut_35 lim (nI 0) from rfl, r1]
      unfold F_X5_carryOut_74 F_X3_empty
      rw [bd_some, kk, bd_some]
    · unfold F_X6_carryOut
      rw [up2_id (by rw [g378]; exact h0), x1, bd_some, if_pos rfl, zr, bd_some, show F_X6_carryOut_28 lim (0 : Int32) = F_X6_carryOut_28 lim (nI 0) from rfl, fin]
    · have f379 : ws (up2 E2 378 8 (0 : Int32)) s' 379 = s' := ws_s _ _
      have fo : ∀ q, q ≠ 379 → ws (up2 E2 378 8 (0 : Int32)) s' q = (up2 E2 378 8 (0 : Int32)) q := fun q a => ws_o _ _ a
      generalize ws (up2 E2 378 8 (0 : Int32)) s' = E at f379 fo ⊢
      have fe : ∀ q, q ≠ 378 → q ≠ 379 → q ≠ 381 → q ≠ 385 → E q = Dk q := fun q a b c d => by rw [fo q b, w8 q a, zo q a c, yo q a d]
      have fd : ∀ q, q ≠ 378 → q ≠ 379 → q ≠ 381 → q ≠ 385 → q ≠ 85 → q ≠ 311 → q ≠ 313 → (q < 19 ∨ 51 ≤ q) → (q < 87 ∨ 311 ≤ q) → E q = D q := fun q a b c d e f g h i => by rw [fe q a b c d, ed q e f g h i]
      have f378 : ∀ k, k = 0 ∨ k = 4 ∨ k = 8 → E 378 k = if k = 4 then nI (recN c) else if k = 8 then 0 else D 378 k := fun k hk => by
        rw [fo 378 (by omega)]
        rcases hk with rfl | rfl | rfl
        · rw [w8k 0 (by omega), z378 0 (by omega), y0]; exact h0.symm
        · rw [w8k 4 (by omega), z4]; rfl
        · rw [w88]; rfl
      refine ⟨?_, ?_, ⟨if c = 6 then (o + 1) % 7 else o, recN c, ?_, ?_, ?_, ?_, ?_, ?_⟩, ?_, ⟨0, by omega, ?_, ?_, fun i hi => absurd hi (by omega)⟩⟩
      · rw [f379]
        exact FS_off (D := D') ⟨P', J', r3, r4⟩ (fun q a b => by rw [fe q (by omega) (by omega) (by omega) (by omega), ek2 q (by omega) (by omega)])
      · rw [f378 0 (by omega)]; exact h0
      · split <;> omega
      · unfold recN; split <;> omega
      · rw [fe 85 (by omega) (by omega) (by omega) (by omega), ← hDk]
        by_cases e : c = 6
        · rw [if_pos e, if_pos e, up2_self]
        · rw [if_neg e, if_neg e, up2_ne _ _ (by omega)]; exact k1
      · rw [fe 85 (by omega) (by omega) (by omega) (by omega), ← hDk]
        unfold recN
        by_cases e : c = 6
        · rw [if_pos e, if_pos e, up2_ne _ _ (by omega), k2, e]
        · rw [if_neg e, if_neg e, up2_self]
      · rw [f378 4 (by omega)]; rfl
      · rw [fo 381 (by omega), w8 381 (by omega), z381]
        exact HX_off (HX_rec hc hXn n2) (fun i hi q a b => by rw [fe q (by omega) (by omega) (by omega) (by omega), ek2 q (by omega) (by omega), r5 q (by omega) (by omega) (by omega)])
      · exact SX_off hS (fun q hq => fd q (by omega) (by omega) (by omega) (by omega) (by omega) (by omega) (by omega) (by omega) (by omega))
      · rw [fe 311 (by omega) (by omega) (by omega) (by omega), ek 311 (by omega), up2_self]; rfl
      · rw [f378 8 (by omega)]; rfl
