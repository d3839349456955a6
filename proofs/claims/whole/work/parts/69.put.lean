/-! the bytes of a long -/
def byN (n k : Nat) : Nat := n / 2 ^ (8 * k) % 256
theorem byN_lt (n k : Nat) : byN n k < 256 := Nat.mod_lt _ (by decide)
theorem nI_255 (m : Nat) : nI m &&& 255 = nI (m % 256) := by
  apply b_ext
  intro i hi
  rw [b_and, b_255, b_nI m i hi, b_nI _ i hi, show (256 : Nat) = 2 ^ 8 from rfl, Nat.testBit_mod_two_pow, Bool.and_comm]
theorem lN_32 (m : Nat) : (lN m).toInt32 = nI m := by
  apply Int32.toBitVec_inj.mp
  rw [Int64.toBitVec_toInt32]
  apply BitVec.eq_of_toNat_eq
  show ((BitVec.ofNat 64 m).signExtend 32).toNat = (BitVec.ofNat 32 m).toNat
  rw [BitVec.signExtend_eq_setWidth_of_le _ (by decide), BitVec.toNat_setWidth, BitVec.toNat_ofNat, BitVec.toNat_ofNat]
  exact Nat.mod_mod_of_dvd m (by decide)
theorem c_signOf {n k : Nat} (hn : n < 2 ^ 64) (hk : k < 8) (D : dT) : F_X3_signOf (lN n) (nI k) D = some (nI (byN n k), D) := by
  unfold F_X3_signOf byN
  rw [show (8 : Int32) * nI k = nI (8 * k) from nI_mul 8 k, wb_shr hn (by omega), lN_32, nI_255]
