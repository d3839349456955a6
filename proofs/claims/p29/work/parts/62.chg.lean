/-! a change, from both sides -/
theorem SX_off {D D' : dT} (h : SX D) (e : ∀ q, (q = 84 ∨ 314 ≤ q ∧ q < 378 ∨ q = 382 ∨ q = 383) → D' q = D q) : SX D' := by
  intro t ht
  rw [e 84 (by omega), e 383 (by omega), e 382 (by omega)]
  obtain ⟨a, b⟩ := h t ht
  refine ⟨a, b.elim Or.inl (fun b => Or.inr (FS_off b (fun q h1 h2 => e q (by omega))))⟩
theorem PX_off {D D' : dT} (h : PX D) (e1 : D' 311 4 = D 311 4) (e2 : D' 378 8 = D 378 8) (e : ∀ q, (q = 312 ∨ q = 384) → D' q = D q) : PX D' := by
  obtain ⟨L, a, b, c, d⟩ := h
  refine ⟨L, a, by rw [e1]; exact b, by rw [e2]; exact c, fun i hi => ?_⟩
  rw [e 312 (by omega), e 384 (by omega)]
  exact d i hi