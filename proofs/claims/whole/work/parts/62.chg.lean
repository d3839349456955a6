/-! a change, from both sides -/
theorem SX_off {D D' : dT} (h : SX D) (e : ∀ q, (q = 84 ∨ 314 ≤ q ∧ q < 378 ∨ q = 382 ∨ q = 383) → D' q = D q) : SX D' := by
  intro t ht
  rw [e 84 (by omega), e 383 (by omega), e 382 (by omega)]
  obtain ⟨a, b⟩ := h t ht
  refine ⟨a, b.elim Or.inl (fun b => Or.inr (FS_off b (fun q h1 h2 => e q (by omega))))⟩
theorem PX_off {D D' : dT} (h : PX D) (e1 : D' 311 4 = D 311 4) (e2 : D' 378 8 = D 378 8) (e : ∀ q, (q = 312 ∨ q = 384) → D' q = D q) : PX D' := by
  obtain ⟨L, a, b, c, d⟩ := h
  refine ⟨L, a, by rw [e1]; exact b, by rw [e2]; exact c, fun i hi => ?_⟩
  rw [e 312 (by omega), e 384 (by omega)]
  exact d i hi
theorem chg {D : dT} (h : RR D) {op r a : dT → Option (Int32 × dT)} (hk : ∀ (D : dT) (s : Nat → Int32) (P J : Nat), FR D 19 s P J → SI s P J → lock s D (op D) r a) :
    ∃ v D1 D2, bd (F_X1_note 19 D) (fun (_ : Int32) (D2 : dT) => bd (op D2) (fun (r3 : Int32) (D4 : dT) => bd (F_X1_keepUnlessError r3 D4) (fun (r5 : Int32) (D6 : dT) => some (r5, D6)))) = some (v, D1) ∧
      bd (r (up2 D1 378 0 (0 : Int32))) (fun (r1 : Int32) (D2 : dT) => if r1 = 0 then bd (F_X6_records D2) (fun (_ : Int32) (D4 : dT) => bd (a D4) (fun (r5 : Int32) (D6 : dT) => some (r5, D6))) else some (r1, D2)) = some (v, D2) ∧ RR D2 := by
  obtain ⟨hf, h0, ⟨o, c, ho, hc, h1, h2, h4, hX⟩, hS, hP⟩ := h
  obtain ⟨Dn, n1, n2, n3⟩ := c_note ho hc h1 h2 hf
  have en : ∀ q, (q < 87 ∨ 311 ≤ q) → Dn q = D q := fun q hq => n3 q (by omega)
  have hfn : FS Dn 19 (D 379) := FS_off hf (fun q a b => en q (by omega))
  have hXn : HX Dn (D 381) o c := HX_off hX (fun i hi q a b => n3 q (by omega))
  obtain ⟨P, J, hF, hSI⟩ := hfn
  rw [n1, bd_some]
  cases hk Dn (D 379) P J hF hSI with
  | inl k =>
    obtain ⟨e, e1, e2, e3⟩ := k
    rw [e2, bd_some, c_keep0 Dn e1, bd_some]
    refine ⟨e, Dn, Dn, rfl, ?_, ?_⟩
    · rw [up2_id (by rw [en _ (by omega)]; exact h0), e3 Dn (en _ (by omega)), bd_some, if_neg (fun z => by rw [z] at e1; exact absurd e1 (by decide))]
    · refine ⟨by rw [en 379 (by omega)]; exact ⟨P, J, hF, hSI⟩, by rw [en _ (by omega)]; exact h0, ⟨o, c, ho, hc, by rw [en _ (by omega)]; exact h1, by rw [en _ (by omega)]; exact h2, by rw [en _ (by omega)]; exact h4, by rw [en 381 (by omega)]; exact hXn⟩, SX_off hS (fun q hq => en q (by omega)), PX_off hP (by rw [en _ (by omega)]) (by rw [en _ (by omega)]) (fun q hq => en q (by omega))⟩
  | inr k =>
    obtain ⟨v, s', D', P', J', v0, k1, k2, k3, k4, k5, k6⟩ := k
    have ek : ∀ q, (q < 19 ∨ 51 ≤ q) → D' q = Dn q := fun q hq => k6 q (by omega)
    rw [k1, bd_some, c_keep1 v0 ho hc (by rw [ek _ (by omega), en _ (by omega)]; exact h1) (by rw [ek _ (by omega), en _ (by omega)]; exact h2), bd_some]
    generalize hDk : (if c = 6 then up2 D' 85 1 (nI ((o + 1) % 7)) else up2 D' 85 2 (nI (c + 1))) = Dk
    have e85 : ∀ q, q ≠ 85 → Dk q = D' q := fun q hq => by
      rw [← hDk]
      by_cases e : c = 6
      · rw [if_pos e, up2_o _ _ _ hq]
      · rw [if_neg e, up2_o _ _ _ hq]
    have ed : ∀ q, q ≠ 85 → (q < 19 ∨ 51 ≤ q) → (q < 87 ∨ 311 ≤ q) → Dk q = D q := fun q a b c => by rw [e85 q a, ek q b, en q c]
    have g379 : Dk 379 = D 379 := ed 379 (by omega) (by omega) (by omega)
    have g378 : Dk 378 = D 378 := ed 378 (by omega) (by omega) (by omega)
    have k4c : Dk 378 4 = nI c := by rw [g378]; exact h4
    refine ⟨v, Dk, ws (recD Dk c) s', rfl, ?_, ?_⟩
    · rw [up2_id (by rw [g378]; exact h0), k2 Dk g379, bd_some, if_pos rfl, r_records Dk k4c hc, bd_some, k3 (recD Dk c) (by
        unfold recD
        rw [wr_o _ _ (by omega), wr_o _ _ (by omega)]
        exact g379), bd_some]
    · have f379 : ws (recD Dk c) s' 379 = s' := ws_s _ _
      have f381 : ws (recD Dk c) s' 381 = recU (D 381) (D 379) c := by
        rw [ws_o _ _ (by omega)]
        unfold recD
        rw [wr_o _ _ (by omega), wr_s, g379, ed 381 (by omega) (by omega) (by omega)]
      have f378 : ws (recD Dk c) s' 378 = upd (D 378) 4 (nI (recN c)) := by
        rw [ws_o _ _ (by omega)]
        unfold recD
        rw [wr_s, g378]
      have fo : ∀ q, q ≠ 378 → q ≠ 379 → q ≠ 381 → ws (recD Dk c) s' q = Dk q := fun q a b d => by
        rw [ws_o _ _ b]
        unfold recD
        rw [wr_o _ _ a, wr_o _ _ d]
      generalize ws (recD Dk c) s' = E at f379 f381 f378 fo ⊢
      refine ⟨?_, ?_, ⟨if c = 6 then (o + 1) % 7 else o, recN c, ?_, ?_, ?_, ?_, ?_, ?_⟩, ?_, ?_⟩
      · rw [f379]
        exact FS_off (D := D') ⟨P', J', k4, k5⟩ (fun q a b => by rw [fo q (by omega) (by omega) (by omega), e85 q (by omega)])
      · rw [f378, upd_n _ _ (by omega)]; exact h0
      · split <;> omega
      · unfold recN; split <;> omega
      · rw [fo 85 (by omega) (by omega) (by omega), ← hDk]
        by_cases e : c = 6
        · rw [if_pos e, if_pos e, up2_self]
        · rw [if_neg e, if_neg e, up2_ne _ _ (by omega), ek _ (by omega), en _ (by omega)]; exact h1
      · rw [fo 85 (by omega) (by omega) (by omega), ← hDk]
        unfold recN
        by_cases e : c = 6
        · rw [if_pos e, if_pos e, up2_ne _ _ (by omega), ek _ (by omega), en _ (by omega), h2, e]
        · rw [if_neg e, if_neg e, up2_self]
      · rw [f378, upd_s]
      · rw [f381]
        have eh : ∀ q, 87 ≤ q → q < 311 → E q = Dn q := fun q a b => by rw [fo q (by omega) (by omega) (by omega), e85 q (by omega), ek q (by omega)]
        exact HX_off (HX_rec hc hXn n2) (fun i hi q a b => eh q (by omega) (by omega))
      · exact SX_off hS (fun q hq => by rw [fo q (by omega) (by omega) (by omega), ed q (by omega) (by omega) (by omega)])
      · exact PX_off hP (by rw [fo 311 (by omega) (by omega) (by omega), ed 311 (by omega) (by omega) (by omega)]) (by rw [f378, upd_n _ _ (by omega)]) (fun q hq => by rw [fo q (by omega) (by omega) (by omega), ed q (by omega) (by omega) (by omega)])
