/-! the reference's orders -/
/-! orders in step: firm 19 and row 379 -/
def lock (s : Nat → Int32) (D : dT) (c : Option (Int32 × dT)) (r a : dT → Option (Int32 × dT)) : Prop :=
  (∃ e, e < 0 ∧ c = some (e, D) ∧ ∀ E : dT, E 379 = s → r E = some (e, E)) ∨ ∃ v s' D' P' J', ¬ v < 0 ∧ c = some (v, D') ∧ (∀ E : dT, E 379 = s → r E = some (0, E)) ∧ (∀ E : dT, E 379 = s → a E = some (v, ws E s')) ∧ FR D' 19 s' P' J' ∧ SI s' P' J' ∧ off 19 D D'