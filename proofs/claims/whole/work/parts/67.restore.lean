/-! restore -/
def lock2 (s w : Nat → Int32) (D : dT) (c : Option (Int32 × dT)) (r a : dT → Option (Int32 × dT)) : Prop :=
  (∃ e, e < 0 ∧ c = some (e, D) ∧ ∀ E : dT, E 379 = s → E 382 = w → r E = some (e, E)) ∨ ∃ v s' D' P' J', ¬ v < 0 ∧ c = some (v, D') ∧ (∀ E : dT, E 379 = s → E 382 = w → r E = some (0, E)) ∧ (∀ E : dT, E 379 = s → E 382 = w → a E = some (v, ws E s')) ∧ FR D' 19 s' P' J' ∧ SI s' P' J' ∧ off 19 D D'
theorem chg2 {D : dT} (h : RR D) {op r a : dT → Option (Int32 × dT)} (hk : ∀ (Dn : dT) (P J : Nat), (∀ q, (q < 87 ∨ 311 ≤ q) → Dn q = D q) → FR Dn 19 (D 379) P J → SI (D 379) P J → lock2 (D 379) (D 382) Dn (op Dn) r a) :
    ∃ v D1 D2, D1 383 = D 383 ∧ bd (F_X1_note 19 D) (fun (_ : Int32) (D2 : dT) => bd (op D2) (fun (r3 : Int32) (D4 : dT) => bd (F_X1_keepUnlessError r3 D4) (fun (r5 : Int32) (D6 : dT) => some (r5, D6)))) = some (v, D1) ∧
      bd (r (up2 D1 378 0 (0 : Int32))) (fun (r1 : Int32) (D2 : dT) => if r1 = 0 then bd (F_X6_records D2) (fun (_ : Int32) (D4 : dT) => bd (a D4) (fun (r5 : Int32) (D6 : dT) => some (r5, D6))) else some (r1, D2)) = some (v, D2) ∧ RR D2 := by
  obtain ⟨hf, h0, ⟨o, c, ho, hc, h1, h2, h4, hX⟩, hS, hP⟩ := h
  obtain ⟨Dn, n1, n2, n3⟩ := c_note ho hc h1 h2 hf
  have en : ∀ q, (q < 87 ∨ 311 ≤ q) → Dn q = D q := fun q hq => n3 q (by omega)
  have hfn : FS Dn 19 (D 379) := FS_off hf (fun q a b => en q (by omega))
  have hXn : HX Dn (D 381) o c := HX_off hX (fun i hi q a b => n3 q (by omega))
  obtain ⟨P, J, hF, hSI⟩ := hfn
  rw [n1, bd_some]
  cases hk Dn P J en hF hSI with
  | inl k =>
    obtain ⟨e, e1, e2, e3⟩ := k
    rw [e2, bd_some, c_keep0 Dn e1, bd_some]
    refine ⟨e, Dn, Dn, en _ (by omega), rfl, ?_, ?_⟩
    · rw [up2_id (by rw [en _ (by omega)]; exact h0), e3 Dn (en _ (by omega)) (en _ (by omega)), bd_some, if_neg (fun z => by rw [z] at e1; exact absurd e1 (by decide))]
    · refine ⟨by rw [en 379 (by omega)]; exact ⟨P, J, hF, hSI⟩, by rw [en _ (by omega)]; exact h0, ⟨o, c, ho, hc, by rw [en _ (by omega)]; exact h1, by rw [en _ (by omega)]; exact h2, by rw [en _ (by omega)]; exact h4, by rw [en 381 (by omega)]; exact hXn⟩, SX_off hS (fun q hq => en q (by omega)), PX_off hP (by rw [en _ (by omega)]) (by rw [en _ (by omega)]) (fun q hq => en q (by omega))⟩
  | inr k =>
    obtain ⟨v, s', D', P', J', v0, k1, k2, k3, k4, k5, k6⟩ := k
    have ek : ∀ q, (q < 19 ∨ 51 ≤ q) → D' q = Dn q := fun q hq => k6 q (by omega)
    rw [k1, bd_some, c_keep1 v0 ho hc (by rw [ek _ (by omega), en _ (by omega)]; exact h1) (by rw [ek _ (by omega), en _ (by omega)]; exact h2), bd_some]
    generalize hDk : (if c = 6 then up2 D' 85 1 (nI ((o + 1) % 7)) else up2 D' 85 2 (nI (c + 1))) = Dk
    have e85 : ∀ q, q ≠ 85 → Dk q = D' q := fun q hq => by
      rw [← hDk]
      by_cases e : c = 6
      · rw [if_pos e, up2_o _ _ _ hq]
      · rw [if_neg e, up2_o _ _ _ hq]
    have ed : ∀ q, q ≠ 85 → (q < 19 ∨ 51 ≤ q) → (q < 87 ∨ 311 ≤ q) → Dk q = D q := fun q a b c => by rw [e85 q a, ek q b, en q c]
    have g379 : Dk 379 = D 379 := ed 379 (by omega) (by omega) (by omega)
    have g378 : Dk 378 = D 378 := ed 378 (by omega) (by omega) (by omega)
    have k4c : Dk 378 4 = nI c := by rw [g378]; exact h4
    refine ⟨v, Dk, ws (recD Dk c) s', ed _ (by omega) (by omega) (by omega), rfl, ?_, ?_⟩
    · rw [up2_id (by rw [g378]; exact h0), k2 Dk g379 (ed 382 (by omega) (by omega) (by omega)), bd_some, if_pos rfl, r_records Dk k4c hc, bd_some, k3 (recD Dk c) (by
        unfold recD
        rw [wr_o _ _ (by omega), wr_o _ _ (by omega)]
        exact g379) (by
        unfold recD
        rw [wr_o _ _ (by omega), wr_o _ _ (by omega)]
        exact ed 382 (by omega) (by omega) (by omega)), bd_some]
    · have f379 : ws (recD Dk c) s' 379 = s' := ws_s _ _
      have f381 : ws (recD Dk c) s' 381 = recU (D 381) (D 379) c := by
        rw [ws_o _ _ (by omega)]
        unfold recD
        rw [wr_o _ _ (by omega), wr_s, g379, ed 381 (by omega) (by omega) (by omega)]
      have f378 : ws (recD Dk c) s' 378 = upd (D 378) 4 (nI (recN c)) := by
        rw [ws_o _ _ (by omega)]
        unfold recD
        rw [wr_s, g378]
      have fo : ∀ q, q ≠ 378 → q ≠ 379 → q ≠ 381 → ws (recD Dk c) s' q = Dk q := fun q a b d => by
        rw [ws_o _ _ b]
        unfold recD
        rw [wr_o _ _ a, wr_o _ _ d]
      generalize ws (recD Dk c) s' = E at f379 f381 f378 fo ⊢
      refine ⟨?_, ?_, ⟨if c = 6 then (o + 1) % 7 else o, recN c, ?_, ?_, ?_, ?_, ?_, ?_⟩, ?_, ?_⟩
      · rw [f379]
        exact FS_off (D := D') ⟨P', J', k4, k5⟩ (fun q a b => by rw [fo q (by omega) (by omega) (by omega), e85 q (by omega)])
      · rw [f378, upd_n _ _ (by omega)]; exact h0
      · split <;> omega
      · unfold recN; split <;> omega
      · rw [fo 85 (by omega) (by omega) (by omega), ← hDk]
        by_cases e : c = 6
        · rw [if_pos e, if_pos e, up2_self]
        · rw [if_neg e, if_neg e, up2_ne _ _ (by omega), ek _ (by omega), en _ (by omega)]; exact h1
      · rw [fo 85 (by omega) (by omega) (by omega), ← hDk]
        unfold recN
        by_cases e : c = 6
        · rw [if_pos e, if_pos e, up2_ne _ _ (by omega), ek _ (by omega), en _ (by omega), h2, e]
        · rw [if_neg e, if_neg e, up2_self]
      · rw [f378, upd_s]
      · rw [f381]
        have eh : ∀ q, 87 ≤ q → q < 311 → E q = Dn q := fun q a b => by rw [fo q (by omega) (by omega) (by omega), e85 q (by omega), ek q (by omega)]
        exact HX_off (HX_rec hc hXn n2) (fun i hi q a b => eh q (by omega) (by omega))
      · exact SX_off hS (fun q hq => by rw [fo q (by omega) (by omega) (by omega), ed q (by omega) (by omega) (by omega)])
      · exact PX_off hP (by rw [fo 311 (by omega) (by omega) (by omega), ed 311 (by omega) (by omega) (by omega)]) (by rw [f378, upd_n _ _ (by omega)]) (fun q hq => by rw [fo q (by omega) (by omega) (by omega), ed q (by omega) (by omega) (by omega)])

theorem bd_id (o : Option (Int32 × dT)) : bd o (fun (r : Int32) (D : dT) => some (r, D)) = o := by
  cases o with
  | none => rfl
  | some z => rfl
theorem bd_bd (o : Option (Int32 × dT)) (f g : Int32 → dT → Option (Int32 × dT)) : bd (bd o f) g = bd o (fun r D => bd (f r D) g) := by
  cases o with
  | none => rfl
  | some z => rfl
def rsO (t : Nat) (E : dT) : Option (Int32 × dT) := bd (F_X0_copyFrom 19 (314 + 32 * t) E) (fun (_ : Int32) (D8 : dT) => some (D8 19 6, D8))
theorem b_restore {D : dT} (h : RR D) (x : Int32) : both D (F_X5_restore x) (F_X6_restore x) := by
  obtain ⟨hf, h0, _, hS, _⟩ := id h
  by_cases hx : inR x 2
  · obtain ⟨t, ht, rfl⟩ := inR_of hx (by omega)
    obtain ⟨s1, s2⟩ := hS t ht
    by_cases h3 : D 383 t = 0
    · refine ⟨-5, D, D, ?_, ?_, h⟩
      · unfold F_X5_restore
        rw [c_isSlot, if_pos hx, bd_some, if_neg o10]
        simp only [if_pos hx, nI_clamp (show t < 2 ^ 31 by omega)]
        rw [if_pos (by rw [s1]; exact h3)]
      · unfold F_X6_restore
        rw [up2_id h0, r_in, if_pos (in_1.mpr hx), bd_some, if_neg o10]
        simp only [if_pos hx, nI_clamp (show t < 2 ^ 31 by omega)]
        rw [if_pos h3]
    · have hsl := s2.resolve_left h3
      obtain ⟨v, D1, D2, g, a, b, c⟩ := chg2 h (op := rsO t) (r := fun E => some (0, E)) (a := F_X6_restore_35 lim (nI t) 0) (fun Dn P J en hF hSI => by
        obtain ⟨P', J', hF', hS'⟩ := FS_off hsl (fun q a b => en q (by omega))
        obtain ⟨D', x1, x2, x3⟩ := c_copy (B := 19) hF' (SI_P hS') (SI_J hS') (by omega)
        have eqr : ∀ k, k < 244 → cpR (D 379) (fun j => D 382 (244 * t + j)) 0 244 k = rw244 (D 382) t k := fun k hk => by
          unfold cpR rw244
          rw [if_pos (by omega)]
          exact congrArg _ (by omega)
        refine Or.inr ⟨nI J', cpR (D 379) (fun j => D 382 (244 * t + j)) 0 244, D', P', J', nI_pos (by have := SI_J hS'; omega), ?_, fun _ _ _ => rfl, fun E e9 e2 => ?_, FR_eq x2 (SI_P hS') (SI_J hS') eqr, SI_eq hS' eqr, x3⟩
        · unfold rsO
          rw [x1, bd_some, FR_J x2]
        · have hu := r_rest9_l (D 379) (D 382) (x := nI t) rfl ht 244 0 lim E (by
            rw [e9]
            funext k
            unfold cpR
            rw [if_neg (by omega)]) e2 (by omega) (lim_lt (by omega))
          rw [show D 382 (244 * t + 6) = nI J' from hS'.1.2.2.2] at hu
          exact hu)
      refine ⟨v, D1, D2, ?_, ?_, c⟩
      · unfold F_X5_restore
        rw [c_isSlot, if_pos hx, bd_some, if_neg o10]
        simp only [if_pos hx, nI_clamp (show t < 2 ^ 31 by omega)]
        rw [if_neg (by rw [s1]; exact h3)]
        have ho : rsO t = fun E2 => bd (F_X0_copyFrom 19 (314 + 32 * t) E2) (fun (_ : Int32) (D8 : dT) => some (D8 19 6, D8)) := rfl
        rw [ho] at a
        simp only [bd_bd, bd_some] at a
        exact a
      · have g383 : D1 383 t = D 383 t := by rw [g]
        unfold F_X6_restore
        rw [bd_some, if_pos (show (0 : Int32) = 0 from rfl)] at b
        rw [r_in, if_pos (in_1.mpr hx), bd_some, if_neg o10]
        simp only [if_pos hx, nI_clamp (show t < 2 ^ 31 by omega)]
        rw [if_neg (by rw [up2_o _ _ _ (by omega), g383]; exact h3)]
        simp only [bd_id] at b
        exact b
  · refine ⟨-2, D, D, ?_, ?_, h⟩
    · unfold F_X5_restore
      rw [c_isSlot, if_neg hx, bd_some, if_pos rfl]
    · unfold F_X6_restore
      rw [up2_id h0, r_in, if_neg (fun z => hx (in_1.mp z)), bd_some, if_pos rfl]
