theorem reason_nn (s : Nat → Int32) (P J j : Nat) (c k : Int32) : 0 ≤ reasonV s P J j c k := by
  unfold reasonV
  split
  · decide
  · split
    · decide
    · split
      · decide
      · split
        · decide
        · split <;> decide
/-! ifAssigned -/
theorem FR_off {D D' : dT} {B : Nat} {s : Nat → Int32} {P J : Nat} (h : FR D B s P J) (h10 : P ≤ 10) (h16 : J ≤ 16) (e : ∀ q, B ≤ q → q < B + 32 → D' q = D q) : FR D' B s P J := by
  refine ⟨⟨fun i hi => ?_, fun i hi => ?_, fun i hi => ?_⟩, ⟨?_, ?_, ?_, ?_, ?_⟩, fun p hp => ?_, fun i hi q hq => ?_⟩
  · rw [e _ (by omega) (by omega), FR_set h i hi]
  · rw [e _ (by omega) (by omega), FR_own h i hi]
  · rw [e _ (by omega) (by omega), FR_fre h i hi]
  · rw [e _ (by omega) (by omega), FR_P h]
  · rw [e _ (by omega) (by omega), FR_J h]
  · rw [e _ (by omega) (by omega), FR_h h]
  · rw [e _ (by omega) (by omega), FR_c h]
  · rw [e _ (by omega) (by omega), FR_p h]
  · rw [e _ (by omega) (by omega)]
    exact ⟨FR_p0 h hp, FR_p1 h hp, FR_p2 h hp, FR_p3 h hp, FR_p4 h hp⟩
  · rw [e _ (by omega) (by omega), FR_j h hi hq]
