/-! what only asks -/
theorem o10 : ¬ (1 : Int32) = 0 := by decide
def RF (D : dT) (P J : Nat) : Prop := FR D 19 (D 379) P J ∧ SI (D 379) P J ∧ D 378 0 = 0
theorem up2_id {D : dT} {o k : Nat} {v : Int32} (h : D o k = v) : up2 D o k v = D := by
  funext i j
  by_cases e : i = o ∧ j = k
  · obtain ⟨rfl, rfl⟩ := e
    rw [up2_self, h]
  · rw [up2_ne _ _ e]
theorem in_2 {x : Int32} : (0 ≤ x ∧ x ≤ 2) ↔ inR x 3 := by
  rw [inR_iff, le_toInt, le_toInt, show (0 : Int32).toInt = 0 from rfl, show (2 : Int32).toInt = 2 from rfl]
  omega