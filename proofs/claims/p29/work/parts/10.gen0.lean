/-! F_m: what a method computes, printed by gen.py out of its bytecode; e_m: the machine does so -/
theorem isF_19 : isF 19 := by decide
theorem isF_51 : isF 51 := by decide
theorem ev_all {α β : Type} {l : Launch} {E : eE} {d : Nat} {y : MethodName} {cc : ByteArray} {nL : Nat} {ret : Option FieldType} {pc : Nat} {ls : List (Nat × vV)} {st : List vV} {D : dT} {ε : α → Option vV} {pc' : Nat} {ls' : List (Nat × vV)} {st' : β → List vV} {D' : dT} {o : Option (α × dT)} (hr : ∀ Q, (∀ u, rn l E d 0 0 y cc nL ret pc' ls' (st' u) (hD D') Q) → rn l E d 0 0 y cc nL ret pc ls st (hD D) Q) (k : ∀ u, ev l E d y cc nL ret pc' ls' (st' u) D' ε o) : ev l E d y cc nL ret pc ls st D ε o :=
  fun r D1 e => hr _ (fun u => k u r D1 e)
theorem ok_18 : okO 18 5 0 := ⟨by decide, by decide, rfl⟩
theorem ok_85 : okO 85 1 0 := ⟨by decide, by decide, rfl⟩
theorem ok_86 : okO 86 14 7 := ⟨by decide, by decide, rfl⟩
theorem ok_311 : okO 311 3 0 := ⟨by decide, by decide, rfl⟩
theorem ok_83 : okO 83 14 2 := ⟨by decide, by decide, rfl⟩
theorem ok_84 : okO 84 11 2 := ⟨by decide, by decide, rfl⟩
theorem ok_312 : okO 312 10 80 := ⟨by decide, by decide, rfl⟩
theorem ok_313 : okO 313 10 5 := ⟨by decide, by decide, rfl⟩
