/-! the whole text: a fault, or the orders -/
def txt (ch : Nat → Nat) (L : Nat) : Nat → Nat → Nat × Option (List (Nat → Int32))
  | 0, a => (a, none)
  | f + 1, a => match (ord ch a).2 with
    | none => ((ord ch a).1, none)
    | some o => if L ≤ (ord ch a).1 then ((ord ch a).1, some [o]) else if ch (ord ch a).1 = 59 then ((txt ch L f ((ord ch a).1 + 1)).1, (txt ch L f ((ord ch a).1 + 1)).2.map (fun os => o :: os)) else ((ord ch a).1, none)
def oQ (L a : Nat) (r : R8) : Prop := a ≤ r.1 ∧ r.1 ≤ L ∧ (r.2.isSome = true → a < r.1)
section OQ
variable {ch : Nat → Nat} {L a p : Nat}
theorem oQ_num (hL : ∀ i, L ≤ i → ch i = 0) {f : Nat} (h1 : a ≤ p) (h2 : p ≤ L) {k : Nat → Nat → R8} (hk : ∀ v q, a < q → q ≤ L → oQ L a (k v q)) : oQ L a (sNum ch f p k) := by
  unfold sNum
  by_cases e : isDg (ch p)
  · rw [if_pos e]
    have : p < L := Nat.not_le.mp (fun z => by have := hL p z; have := e.1; omega)
    have := numL_le hL f (ch p - 48) (p + 1) (by omega)
    exact hk _ _ (by omega) (by omega)
  · rw [if_neg e]
    exact ⟨h1, h2, fun z => by cases z⟩
theorem oQ_chr (hL : ∀ i, L ≤ i → ch i = 0) {s : Nat} (hs : 0 < s) (h1 : a ≤ p) (h2 : p ≤ L) {k : Nat → R8} (hk : ∀ q, a < q → q ≤ L → oQ L a (k q)) : oQ L a (sChr ch s p k) := by
  unfold sChr
  by_cases e : ch p = s
  · rw [if_pos e]
    have : p < L := Nat.not_le.mp (fun z => by have := hL p z; omega)
    exact hk _ (by omega) (by omega)
  · rw [if_neg e]
    exact ⟨h1, h2, fun z => by cases z⟩
theorem oQ_crw (hL : ∀ i, L ≤ i → ch i = 0) (h1 : a < p) (h2 : p ≤ L) (v : Nat) : oQ L a (sCrw ch v p) := by
  unfold sCrw sKnd
  by_cases e : isDg (ch p)
  · rw [if_pos e]
    have hq := crL_le hL 80 0 p h2
    by_cases e1 : ch (crL ch 80 0 p).2 = 43
    · have : (crL ch 80 0 p).2 < L := Nat.not_le.mp (fun z => by have := hL _ z; omega)
      rw [if_pos e1]
      by_cases e2 : isDg (ch ((crL ch 80 0 p).2 + 1))
      · have : (crL ch 80 0 p).2 + 1 < L := Nat.not_le.mp (fun z => by have := hL _ z; have := e2.1; omega)
        rw [if_pos e2]
        exact ⟨by dsimp only; omega, by dsimp only; omega, fun _ => by dsimp only; omega⟩
      · rw [if_neg e2]
        exact ⟨by dsimp only; omega, by dsimp only; omega, fun z => by cases z⟩
    · rw [if_neg e1]
      exact ⟨by dsimp only; omega, by dsimp only; omega, fun _ => by dsimp only; omega⟩
  · rw [if_neg e]
    exact ⟨by dsimp only; omega, h2, fun z => by cases z⟩
theorem ord_q (hL : ∀ i, L ≤ i → ch i = 0) (ha : a ≤ L) : oQ L a (ord ch a) := by
  unfold ord
  have hl : ∀ m, 0 < m → ch a = m → a + 1 ≤ L := fun m hm e => Nat.not_le.mp (fun z => by have := hL a z; omega)
  have ok : ∀ p (o : Nat → Int32), a < p → p ≤ L → oQ L a (p, some o) := fun p o h1 h2 => ⟨by dsimp only; omega, h2, fun _ => h1⟩
  by_cases e : ch a = 97
  · rw [if_pos e]; exact ok _ _ (by omega) (hl 97 (by omega) e)
  rw [if_neg e]
  by_cases e : ch a = 100
  · rw [if_pos e]
    exact oQ_num hL (by omega) (hl 100 (by omega) e) fun v q h1 h2 => oQ_chr hL (by omega) (by omega) h2 fun q h1 h2 => oQ_num hL (by omega) h2 fun v2 q h1 h2 => ok _ _ h1 h2
  rw [if_neg e]
  by_cases e : ch a = 103
  · rw [if_pos e]
    exact oQ_num hL (by omega) (hl 103 (by omega) e) fun v q h1 h2 => oQ_chr hL (by omega) (by omega) h2 fun q h1 h2 => oQ_crw hL h1 h2 v
  rw [if_neg e]
  by_cases e : ch a = 106
  · rw [if_pos e]
    exact oQ_num hL (by omega) (hl 106 (by omega) e) fun v q h1 h2 => oQ_chr hL (by omega) (by omega) h2 fun q h1 h2 => oQ_num hL (by omega) h2 fun v2 q h1 h2 => oQ_chr hL (by omega) (by omega) h2 fun q h1 h2 => oQ_num hL (by omega) h2 fun v3 q h1 h2 => oQ_chr hL (by omega) (by omega) h2 fun q h1 h2 => oQ_num hL (by omega) h2 fun v4 q h1 h2 => oQ_chr hL (by omega) (by omega) h2 fun q h1 h2 => oQ_num hL (by omega) h2 fun v5 q h1 h2 => ok _ _ h1 h2
  rw [if_neg e]
  by_cases e : ch a = 110 ∨ ch a = 119 ∨ ch a = 120
  · rw [if_pos e]
    exact oQ_num hL (by omega) (by rcases e with e | e | e <;> exact hl _ (by omega) e) fun v q h1 h2 => ok _ _ h1 h2
  rw [if_neg e]
  exact ⟨Nat.le_refl _, ha, fun z => by cases z⟩
end OQ
/-- the class finds the fault -/
theorem c_ff {D : dT} {ch : Nat → Nat} {L : Nat} (h : PD D ch L) : ∀ f fu t a n sg cr kd nu, 2 * t ≤ a → a ≤ L → L < a + f → f < fu →
    ∃ n' b sg' cr' kd' nu', F_X3_findFault_6 fu (nI t) (pS D n a sg cr kd nu) = some (if (txt ch L f a).2.isSome then -6 else nI (txt ch L f a).1, pS D n' b sg' cr' kd' nu') := by
  intro f
  induction f with
  | zero => intro fu t a n sg cr kd nu h1 h2 h3; omega
  | succ f ih =>
    intro fu t a n sg cr kd nu h1 h2 h3 h4
    obtain ⟨fu, rfl⟩ : ∃ f, fu = f + 1 := ⟨fu - 1, by omega⟩
    have h80 := h.1
    obtain ⟨q1, q2, q3⟩ := ord_q h.2.2.2 h2
    obtain ⟨n1, sg1, cr1, kd1, nu1, e1, -⟩ := c_ord (n := n) (sg := sg) (cr := cr) (kd := kd) (nu := nu) h h2
    unfold F_X3_findFault_6 txt
    rw [if_neg (show ¬ (80 : Int32) < nI t from nI_nlt (b := t) (a := 80) (by omega) (by omega)), e1, bd_some]
    cases ho : (ord ch a).2 with
    | none =>
      refine ⟨n1, (ord ch a).1, sg1, cr1, kd1, nu1, ?_⟩
      rw [if_neg (show ¬ (none : Option (Nat → Int32)).isSome = true by simp), if_pos rfl, pS_3]
      rfl
    | some o =>
      rw [ho] at q3
      have q3 := q3 rfl
      rw [if_pos (show (some o).isSome = true from rfl), if_neg o10, pS_3, pS_4, h.2.1]
      by_cases hp : L ≤ (ord ch a).1
      · refine ⟨n1, (ord ch a).1, sg1, cr1, kd1, nu1, ?_⟩
        rw [if_neg (nI_nlt hp (by omega))]
        simp only [if_pos hp]
        rfl
      · rw [if_pos (nI_lt (by omega) (by omega)), show (59 : Int32) = nI 59 from rfl, c_sk h q2 (by omega), bd_some]
        simp only [if_neg hp]
        by_cases e : ch (ord ch a).1 = 59
        · simp only [if_pos e]
          rw [if_neg o10, nI_1]
          obtain ⟨n', b, sg', cr', kd', nu', r⟩ := ih fu (t + 1) ((ord ch a).1 + 1) n1 sg1 cr1 kd1 nu1 (by omega) (by omega) (by omega) (by omega)
          refine ⟨n', b, sg', cr', kd', nu', ?_⟩
          rw [r, Option.isSome_map]
        · refine ⟨n1, (ord ch a).1, sg1, cr1, kd1, nu1, ?_⟩
          simp only [if_neg e]
          rw [if_pos trivial, pS_3]
          rfl
/-- the reference reads them all -/
theorem e_rd {E : dT} {ch : Nat → Nat} {L : Nat} (h : PE E ch L) : ∀ f fu k a w rd, 2 * k ≤ a → a ≤ L → L < a + f → f < fu →
    ∃ w' k' rd', bd (F_X6_readsOrder (rS9 E a w k rd)) (fun (_ : Int32) (D2 : dT) => F_X6_reads_14 fu D2) = some (if (txt ch L f a).2.isSome then -6 else nI (txt ch L f a).1, rS9 E (txt ch L f a).1 w' k' rd') ∧
      (∀ j, j < 6 * k → rd' j = rd j) ∧ ∀ os, (txt ch L f a).2 = some os → k' = k + os.length ∧ 2 * k' ≤ L + 1 ∧ ∀ i o, os[i]? = some o → relO (fun j => rd' (6 * (k + i) + j)) o := by
  intro f
  induction f with
  | zero => intro fu k a w rd h1 h2 h3; omega
  | succ f ih =>
    intro fu k a w rd h1 h2 h3 h4
    obtain ⟨fu, rfl⟩ : ∃ f, fu = f + 1 := ⟨fu - 1, by omega⟩
    have h80 := h.1
    obtain ⟨q1, q2, q3⟩ := ord_q h.2.2.2 h2
    obtain ⟨rd1, e1, e2, e3⟩ := e_ord (rd := rd) h h2 (show k ≤ 41 by omega) w
    rw [e1, bd_some]
    unfold F_X6_reads_14 txt
    cases ho : (ord ch a).2 with
    | none =>
      refine ⟨0, k, rd1, ?_, e2, fun os z => by cases z⟩
      rw [if_neg (show ¬ (none : Option (Nat → Int32)).isSome = true by simp), if_neg (show ¬ (none : Option (Nat → Int32)).isSome = true by simp), rS_10, if_pos rfl]
      unfold F_X6_reads_52
      rw [rS_10, if_pos rfl, rS_9]
      rfl
    | some o =>
      have q3 := q3 (by rw [ho]; rfl)
      have e3 := e3 o ho
      rw [if_pos (show (some o).isSome = true from rfl), if_pos (show (some o).isSome = true from rfl), rS_10, if_neg o10, rS_8, rS_9, h.2.1]
      by_cases hp : L ≤ (ord ch a).1
      · refine ⟨1, k + 1, rd1, ?_, e2, fun os z => ?_⟩
        · rw [if_pos (nI_le hp (by omega))]
          unfold F_X6_reads_52
          rw [rS_10, if_neg o10]
          simp only [if_pos hp]
          rfl
        · simp only [if_pos hp] at z
          injection z with z
          subst z
          refine ⟨rfl, by omega, fun i o' hi => ?_⟩
          cases i with
          | zero =>
            simp at hi
            subst hi
            exact e3
          | succ i => simp at hi
      · rw [if_neg (nI_ge (by omega) (by omega)), show (59 : Int32) = nI 59 from rfl, e_wan h q2 (by omega)]
        simp only [if_neg hp]
        by_cases e : ch (ord ch a).1 = 59
        · simp only [if_pos e]
          rw [bd_some, rS_10, if_neg o10]
          obtain ⟨w', k', rd', r1, r2, r3⟩ := ih fu (k + 1) ((ord ch a).1 + 1) 1 rd1 (by omega) (by omega) (by omega) (by omega)
          refine ⟨w', k', rd', ?_, fun j hj => by rw [r2 j (by omega)]; exact e2 j hj, fun os z => ?_⟩
          · rw [r1, Option.isSome_map]
          · obtain ⟨os', z1, z2⟩ := Option.map_eq_some_iff.mp z
            subst z2
            obtain ⟨k1, k2, k3⟩ := r3 os' z1
            refine ⟨by rw [k1, List.length_cons]; omega, k2, fun i o' hi => ?_⟩
            cases i with
            | zero =>
              simp at hi
              subst hi
              have : (fun j => rd' (6 * (k + 0) + j)) = fun j => rd' (6 * k + j) := rfl
              rw [this]
              have a6 : ∀ j, j < 6 → rd' (6 * k + j) = rd1 (6 * k + j) := fun j hj => r2 _ (by omega)
              unfold relO at e3 ⊢
              simp only [a6 0 (by omega), a6 1 (by omega), a6 2 (by omega), a6 3 (by omega), a6 4 (by omega), a6 5 (by omega)]
              exact e3
            | succ i =>
              rw [List.getElem?_cons_succ] at hi
              have := k3 i o' hi
              rw [show k + 1 + i = k + (i + 1) by omega] at this
              exact this
        · refine ⟨0, k + 1, rd1, ?_, e2, fun os z => ?_⟩
          · simp only [if_neg e]
            rw [bd_some, rS_10, if_pos rfl]
            obtain ⟨fu, rfl⟩ : ∃ f, fu = f + 1 := ⟨fu - 1, by omega⟩
            unfold F_X6_reads_14 F_X6_reads_52
            rw [rS_10, if_pos rfl, if_pos rfl, rS_9]
            rfl
          · simp only [if_neg e] at z
            cases z
theorem pS_ex (D : dT) (a : Nat) : ∃ n, up2 D 311 3 (nI a) = pS D n a (D 311 5) (D 311 6) (D 311 7) (D 313) := by
  obtain ⟨n, -, hn⟩ := wb_of32 (D 311 2)
  refine ⟨n, ?_⟩
  unfold pS
  rw [wr_id, wr_up]
  congr 1
  refine upd_ex rfl (fun j hj => ?_)
  unfold pF
  by_cases e : j = 2
  · subst e; rw [if_pos rfl, hn]
  rw [if_neg e, if_neg hj]
  by_cases e : j = 5
  · subst e; rw [if_pos rfl]
  rw [if_neg e]
  by_cases e : j = 6
  · subst e; rw [if_pos rfl]
  rw [if_neg e]
  by_cases e : j = 7
  · subst e; rw [if_pos rfl]
  rw [if_neg e]
theorem rS_ex (E : dT) : up2 (up2 E 378 9 (0 : Int32)) 378 12 (0 : Int32) = rS9 E 0 (E 378 10) 0 (E 385) := by
  unfold rS9
  rw [wr_id, wr_up, wr_up, wr_wr, wr_s]
  congr 1
  refine upd_ex rfl (fun j hj => ?_)
  unfold rF
  by_cases e : j = 9
  · subst e; rw [if_pos rfl, upd_s]; rfl
  rw [if_neg e, upd_n _ _ e]
  by_cases e : j = 10
  · subst e; rw [if_pos rfl]
  rw [if_neg e, if_neg hj]
theorem RR_pad {D D' : dT} (h : RR D) (e : ∀ q, q ≠ 311 → q ≠ 313 → q ≠ 378 → q ≠ 385 → D' q = D q) (e1 : D' 311 4 = D 311 4) (e2 : ∀ k, k = 0 ∨ k = 4 ∨ k = 8 → D' 378 k = D 378 k) : RR D' := by
  obtain ⟨hf, h0, ⟨o, c, ho, hc, h1, h2, h4, hX⟩, hS, hP⟩ := h
  refine ⟨?_, by rw [e2 0 (by omega)]; exact h0, ⟨o, c, ho, hc, by rw [e 85 (by omega) (by omega) (by omega) (by omega)]; exact h1, by rw [e 85 (by omega) (by omega) (by omega) (by omega)]; exact h2, by rw [e2 4 (by omega)]; exact h4, ?_⟩, SX_off hS (fun q hq => e q (by omega) (by omega) (by omega) (by omega)), PX_off hP e1 (e2 8 (by omega)) (fun q hq => e q (by omega) (by omega) (by omega) (by omega))⟩
  · rw [e 379 (by omega) (by omega) (by omega) (by omega)]
    exact FS_off hf (fun q a b => e q (by omega) (by omega) (by omega) (by omega))
  · rw [e 381 (by omega) (by omega) (by omega) (by omega)]
    exact HX_off hX (fun i hi q a b => e q (by omega) (by omega) (by omega) (by omega))
/-- the characters of both pads -/
theorem PX_ch {D : dT} (h : PX D) : ∃ L ch, PD D ch L ∧ D 378 8 = nI L ∧ ∀ i, i < L → D 384 i = nI (ch i) := by
  obtain ⟨L, h1, h2, h3, h4⟩ := h
  refine ⟨L, fun i => if i < L then (D 312 i).toNatClampNeg else 0, ⟨h1, h2, fun i hi => ?_, fun i hi => if_neg (by omega)⟩, h3, fun i hi => ?_⟩
  · dsimp only
    obtain ⟨_, n, a, b, e⟩ := h4 i hi
    rw [if_pos hi, e, nI_clamp (by omega)]
    exact ⟨rfl, a, b⟩
  · dsimp only
    obtain ⟨e0, n, a, b, e⟩ := h4 i hi
    rw [if_pos hi, ← e0, e, nI_clamp (by omega)]
theorem c_fault {D : dT} {ch : Nat → Nat} {L : Nat} (h : PD D ch L) : ∃ n b sg cr kd nu, F_X3_findFault D = some (if (txt ch L 81 0).2.isSome then -6 else nI (txt ch L 81 0).1, pS D n b sg cr kd nu) := by
  obtain ⟨n, e⟩ := pS_ex D 0
  obtain ⟨n', b, sg', cr', kd', nu', r⟩ := c_ff h 81 lim 0 0 n (D 311 5) (D 311 6) (D 311 7) (D 313) (by omega) (by omega) (by have := h.1; omega) (lim_lt (by omega))
  refine ⟨n', b, sg', cr', kd', nu', ?_⟩
  unfold F_X3_findFault F_X3_startReading
  rw [bd_some, show (0 : Int32) = nI 0 from rfl, e]
  exact r
theorem e_reads {E : dT} {ch : Nat → Nat} {L : Nat} (h : PE E ch L) : ∃ w' k' rd', F_X6_reads E = some (if (txt ch L 81 0).2.isSome then -6 else nI (txt ch L 81 0).1, rS9 E (txt ch L 81 0).1 w' k' rd') ∧
    ∀ os, (txt ch L 81 0).2 = some os → k' = os.length ∧ 2 * k' ≤ L + 1 ∧ ∀ i o, os[i]? = some o → relO (fun j => rd' (6 * i + j)) o := by
  obtain ⟨w', k', rd', r1, -, r3⟩ := e_rd h 81 lim 0 0 (E 378 10) (E 385) (by omega) (by omega) (by have := h.1; omega) (lim_lt (by omega))
  refine ⟨w', k', rd', ?_, fun os z => ?_⟩
  · unfold F_X6_reads
    rw [rS_ex]
    exact r1
  · obtain ⟨k1, k2, k3⟩ := r3 os z
    refine ⟨by omega, k2, fun i o hi => ?_⟩
    have := k3 i o hi
    rw [show 0 + i = i by omega] at this
    exact this
theorem PE_of {D E : dT} {ch : Nat → Nat} {L : Nat} (h : PD D ch L) (e8 : E 378 8 = nI L) (e : ∀ i, i < L → E 384 i = nI (ch i)) : PE E ch L :=
  ⟨h.1, e8, fun i hi => ⟨e i hi, (h.2.2.1 i hi).2⟩, h.2.2.2⟩
theorem b_fault {D : dT} (h : RR D) : both D F_X5_fault F_X6_fault := by
  have h0 := h.2.1
  obtain ⟨L, ch, hP, e8, e384⟩ := PX_ch h.2.2.2.2
  obtain ⟨n, b, sg, cr, kd, nu, r⟩ := c_fault hP
  have hE : PE (pS D n b sg cr kd nu) ch L := PE_of hP (by rw [pS_o (by omega) (by omega)]; exact e8) (fun i hi => by rw [pS_o (by omega) (by omega)]; exact e384 i hi)
  obtain ⟨w', k', rd', r1, -⟩ := e_reads hE
  refine ⟨if (txt ch L 81 0).2.isSome then -6 else nI (txt ch L 81 0).1, pS D n b sg cr kd nu, rS9 (pS D n b sg cr kd nu) (txt ch L 81 0).1 w' k' rd', ?_, ?_, ?_⟩
  · unfold F_X5_fault
    rw [r, bd_some]
  · unfold F_X6_fault
    rw [up2_id (by rw [pS_o (by omega) (by omega)]; exact h0), r1, bd_some]
  · refine RR_pad h (fun q a b c d => ?_) ?_ (fun k hk => ?_)
    · rw [rS_o c d, pS_o a b]
    · rw [rS_o (by omega) (by omega), pS_4]
    · rw [rS_f]
      unfold rF
      rw [if_neg (by omega), if_neg (by omega), if_neg (by omega), pS_o (by omega) (by omega)]
