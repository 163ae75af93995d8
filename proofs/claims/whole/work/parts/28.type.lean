/-! type -/
def byteX (v : Int64) (j : Nat) : Int32 := (((v.toUInt64 >>> ((nI (8 * j)).toInt64.toUInt64 &&& Int64.toUInt64 63)).toInt64).toInt32) &&& nI 255
def byteM (v : Int64) (j : Nat) : Int32 := ((v >>> ((nI (8 * j)).toInt64 &&& 63)) &&& (255 : Int64)).toInt32
theorem byte_same (v : Int64) {j : Nat} (hj : j < 8) : byteM v j = byteX v j := by
  have h1 : ∀ j, j < 8 → ((((nI (8 * j)).toInt64.toUInt64 &&& Int64.toUInt64 63)).toBitVec % 64#64).toNat = 8 * j := by decide +kernel
  have h2 : ∀ j, j < 8 → (((nI (8 * j)).toInt64 &&& 63).toBitVec.smod 64).toNat = 8 * j := by decide +kernel
  apply Int32.toBitVec_inj.mp
  unfold byteM byteX
  apply BitVec.eq_of_getLsbD_eq
  intro i hi
  simp only [Int32.toBitVec_and, Int64.toBitVec_toInt32, Int64.toBitVec_and, Int64.toBitVec_shiftRight, UInt64.toBitVec_toInt64, UInt64.toBitVec_shiftRight, BitVec.getLsbD_and]
  sorry
