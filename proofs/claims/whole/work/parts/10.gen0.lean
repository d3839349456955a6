/-! F_m: what a method computes, printed by gen.py out of its bytecode; e_m: the machine does so -/
theorem isF_19 : isF 19 := by decide
theorem isF_51 : isF 51 := by decide
theorem sb_1 {k : Nat} (h : 4 ≤ k ∧ k < 10) : 10 ≤ k + 6 := by omega
theorem sb_2 {k : Nat} (h : 4 ≤ k ∧ k < 10) : k + 6 < 16 := by omega
theorem sb_3 {k : Nat} {i : Int32} (h : inR i (tLen.getD (k - 4) 0)) : inR i (tLen.getD (k + 6 - 10) 0) := by rw [show k + 6 - 10 = k - 4 by omega]; exact h
theorem sb_4 (k : Nat) : Int32.ofNat (tLen.getD (k + 6 - 10) 0) = Int32.ofNat (tLen.getD (k - 4) 0) := by rw [show k + 6 - 10 = k - 4 by omega]
theorem ev_all {α β : Type} {l : Launch} {E : eE} {d : Nat} {y : MethodName} {cc : ByteArray} {nL : Nat} {ret : Option FieldType} {pc : Nat} {ls : List (Nat × vV)} {st : List vV} {D : dT} {ε : α → Option vV} {pc' : Nat} {ls' : List (Nat × vV)} {st' : β → List vV} {D' : dT} {o : Option (α × dT)} (hr : ∀ Q, (∀ u, rn l E d 0 0 y cc nL ret pc' ls' (st' u) (hD D') Q) → rn l E d 0 0 y cc nL ret pc ls st (hD D) Q) (k : ∀ u, ev l E d y cc nL ret pc' ls' (st' u) D' ε o) : ev l E d y cc nL ret pc ls st D ε o :=
  fun r D1 e => hr _ (fun u => k u r D1 e)
theorem ok_18 : okO 18 5 0 := ⟨by decide, by decide, rfl⟩
theorem ok_85 : okO 85 1 0 := ⟨by decide, by decide, rfl⟩
theorem ok_86 : okO 86 14 7 := ⟨by decide, by decide, rfl⟩
theorem ok_311 : okO 311 3 0 := ⟨by decide, by decide, rfl⟩
theorem ok_378 : okO 378 6 0 := ⟨by decide, by decide, rfl⟩
theorem ok_83 : okO 83 14 2 := ⟨by decide, by decide, rfl⟩
theorem ok_84 : okO 84 11 2 := ⟨by decide, by decide, rfl⟩
theorem ok_383 : okO 383 11 2 := ⟨by decide, by decide, rfl⟩
theorem ok_312 : okO 312 10 80 := ⟨by decide, by decide, rfl⟩
theorem ok_313 : okO 313 10 5 := ⟨by decide, by decide, rfl⟩
theorem ok_379 : okO 379 10 244 := ⟨by decide, by decide, rfl⟩
theorem ok_380 : okO 380 10 244 := ⟨by decide, by decide, rfl⟩
theorem ok_381 : okO 381 10 1464 := ⟨by decide, by decide, rfl⟩
theorem ok_382 : okO 382 10 488 := ⟨by decide, by decide, rfl⟩
theorem ok_384 : okO 384 10 80 := ⟨by decide, by decide, rfl⟩
theorem ok_385 : okO 385 10 252 := ⟨by decide, by decide, rfl⟩
def tx_4 : String := "wjgdxan"
theorem st_4 : 4 ≤ 4 ∧ 4 < 10 := by decide
theorem tR_4 {E : eE} {s : State} (h : St E s) : vk_R RX3 64 tx_4 (E.2.2.1 4) s := h.2.2.2.2.2.2.2.2.1.1
def tx_5 : String := ""
theorem st_5 : 4 ≤ 5 ∧ 5 < 10 := by decide
theorem tR_5 {E : eE} {s : State} (h : St E s) : vk_R RX3 83 tx_5 (E.2.2.1 5) s := h.2.2.2.2.2.2.2.2.1.2.1
def tx_6 : String := "N+N"
theorem st_6 : 4 ≤ 6 ∧ 6 < 10 := by decide
theorem tR_6 {E : eE} {s : State} (h : St E s) : vk_R RX3 85 tx_6 (E.2.2.1 6) s := h.2.2.2.2.2.2.2.2.1.2.2.1
def tx_7 : String := "N:"
theorem st_7 : 4 ≤ 7 ∧ 7 < 10 := by decide
theorem tR_7 {E : eE} {s : State} (h : St E s) : vk_R RX3 87 tx_7 (E.2.2.1 7) s := h.2.2.2.2.2.2.2.2.1.2.2.2.1
def tx_8 : String := "N,D,D,D,N"
theorem st_8 : 4 ≤ 8 ∧ 8 < 10 := by decide
theorem tR_8 {E : eE} {s : State} (h : St E s) : vk_R RX3 89 tx_8 (E.2.2.1 8) s := h.2.2.2.2.2.2.2.2.1.2.2.2.2.1
def tx_9 : String := "N"
theorem st_9 : 4 ≤ 9 ∧ 9 < 10 := by decide
theorem tR_9 {E : eE} {s : State} (h : St E s) : vk_R RX3 91 tx_9 (E.2.2.1 9) s := h.2.2.2.2.2.2.2.2.1.2.2.2.2.2
