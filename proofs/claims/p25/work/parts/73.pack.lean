theorem pq_bv (a : Nat) : (Int32.ofNat a).toBitVec = BitVec.ofNat 32 a := rfl
theorem pq_shl (a : Nat) : Int32.ofNat a <<< ((8 : Int32) &&& 31) = Int32.ofNat (a * 256) := by
  rw [show ((8 : Int32) &&& 31) = 8 from by decide]
  apply Int32.toBitVec_inj.mp
  rw [Int32.toBitVec_shiftLeft, pq_bv, pq_bv]
  apply BitVec.eq_of_toNat_eq
  simp [BitVec.toNat_shiftLeft, Nat.shiftLeft_eq]
theorem pq_or {a c : Nat} (hc : c < 256) : Int32.ofNat (a * 256) ||| Int32.ofNat c = Int32.ofNat (a * 256 + c) := by
  apply Int32.toBitVec_inj.mp
  rw [Int32.toBitVec_or, pq_bv, pq_bv, pq_bv, ← BitVec.ofNat_or]
  congr 1
  rw [Nat.mul_comm, Nat.two_pow_add_eq_or_of_lt (i := 8) hc a]
theorem pq_i8 {m c : Nat} (h : m % 256 = c) (hc : c < 128) : (Int32.ofNat m).toInt8.toInt32 = Int32.ofNat c := by
  have e : (Int32.ofNat m).toInt8 = (Int32.ofNat c).toInt8 := by
    apply Int8.toBitVec_inj.mp
    rw [Int32.toBitVec_toInt8, Int32.toBitVec_toInt8, pq_bv, pq_bv]
    apply BitVec.eq_of_toNat_eq
    rw [BitVec.signExtend_eq_setWidth_of_le _ (by decide), BitVec.signExtend_eq_setWidth_of_le _ (by decide), BitVec.toNat_setWidth, BitVec.toNat_setWidth, BitVec.toNat_ofNat, BitVec.toNat_ofNat]
    omega
  rw [e, (c8 c hc).1]
theorem pq_shr {a k : Nat} {s : Int32} (ha : a < 2147483648) (hs : ((s &&& 31).toBitVec.smod 32).toNat = k) : Int32.ofNat a >>> (s &&& 31) = Int32.ofNat (a / 2 ^ k) := by
  apply Int32.toBitVec_inj.mp
  rw [Int32.toBitVec_shiftRight, pq_bv, pq_bv, BitVec.sshiftRight_eq', hs, BitVec.sshiftRight_eq_of_msb_false]
  · apply BitVec.eq_of_toNat_eq
    have h1 : a / 2 ^ k ≤ a := Nat.div_le_self _ _
    rw [BitVec.toNat_ushiftRight, BitVec.toNat_ofNat, BitVec.toNat_ofNat, Nat.shiftRight_eq_div_pow, Nat.mod_eq_of_lt (by omega), Nat.mod_eq_of_lt (by omega)]
  · rw [BitVec.msb_eq_false_iff_two_mul_lt, BitVec.toNat_ofNat, Nat.mod_eq_of_lt (by omega)]
    omega
/-- four signs in one number, and out of it again -/
theorem by4_of {c0 c1 c2 c3 : Nat} (h0 : c0 < 128) (h1 : c1 < 128) (h2 : c2 < 128) (h3 : c3 < 128) : by4 (Int32.ofNat (((c0 * 256 + c1) * 256 + c2) * 256 + c3)) = [Int32.ofNat c0, Int32.ofNat c1, Int32.ofNat c2, Int32.ofNat c3] := by
  have ha : ((c0 * 256 + c1) * 256 + c2) * 256 + c3 < 2147483648 := by omega
  unfold by4 by8
  rw [pq_shr (k := 24) ha (by decide), pq_shr (k := 16) ha (by decide), pq_shr (k := 8) ha (by decide), pq_shr (k := 0) ha (by decide), pq_i8 (c := c0) (by omega) h0, pq_i8 (c := c1) (by omega) h1, pq_i8 (c := c2) (by omega) h2, pq_i8 (c := c3) (by omega) h3]
