theorem pq_bv (a : Nat) : (Int32.ofNat a).toBitVec = BitVec.ofNat 32 a := rfl
theorem pq_shl (a : Nat) : Int32.ofNat a <<< ((8 : Int32) &&& 31) = Int32.ofNat (a * 256) := by
  rw [show ((8 : Int32) &&& 31) = 8 from by decide]
  apply Int32.toBitVec_inj.mp
  rw [Int32.toBitVec_shiftLeft, pq_bv, pq_bv]
  apply BitVec.eq_of_toNat_eq
  simp [BitVec.toNat_shiftLeft, Nat.shiftLeft_eq]
theorem pq_or {a c : Nat} (hc : c < 256) : Int32.ofNat (a * 256) ||| Int32.ofNat c = Int32.ofNat (a * 256 + c) := by
  apply Int32.toBitVec_inj.mp
  rw [Int32.toBitVec_or, pq_bv, pq_bv, pq_bv, ← BitVec.ofNat_or]
  congr 1
  rw [Nat.mul_comm, Nat.two_pow_add_eq_or_of_lt (i := 8) hc a]
