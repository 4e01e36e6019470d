/-! Rows of bits: of seven clauses at most. -/
def Sub (a b : Nat) : Prop := ∀ i, a.testBit i = true → b.testBit i = true
theorem Sub.rf {a : Nat} : Sub a a := fun _ h => h
theorem Sub.tr {a b c : Nat} (A : Sub a b) (B : Sub b c) : Sub a c := fun i h => B i (A i h)
theorem Sub.as {a b : Nat} (A : Sub a b) (B : Sub b a) : a = b := by
  apply Nat.eq_of_testBit_eq
  intro i
  by_cases z : a.testBit i = true
  · rw [z, A i z]
  · have y : ¬ b.testBit i = true := fun q => z (B i q)
    rw [Bool.not_eq_true] at z y
    rw [z, y]
/-- without -/
def an (a b : Nat) : Nat := a &&& (127 ^^^ b)
theorem t127 {i : Nat} : (127 : Nat).testBit i = decide (i < 7) := Nat.testBit_two_pow_sub_one 7 i
theorem an_bit {a b i : Nat} (ha : a < 128) : (an a b).testBit i = (a.testBit i && !(b.testBit i)) := by
  unfold an
  rw [Nat.testBit_and, Nat.testBit_xor, t127]
  by_cases z : i < 7
  · rw [decide_eq_true z]; cases a.testBit i <;> cases b.testBit i <;> rfl
  · have : a.testBit i = false := Nat.testBit_lt_two_pow (Nat.lt_of_lt_of_le ha (Nat.pow_le_pow_right (n := 2) (by decide) (show 7 ≤ i by omega)))
    rw [this]; rfl
theorem an_lt {a b k : Nat} (ha : a < 2 ^ k) : an a b < 2 ^ k := Nat.lt_of_le_of_lt Nat.and_le_left ha
theorem i_and (a b : Nat) : Int32.ofNat a &&& Int32.ofNat b = Int32.ofNat (a &&& b) := by
  apply Int32.toBitVec_inj.mp
  rw [Int32.toBitVec_and, pq_bv, pq_bv, pq_bv, ← BitVec.ofNat_and]
theorem i_an {a b : Nat} (ha : a < 128) : Int32.ofNat a &&& (Int32.ofNat b ^^^ (-1 : Int32)) = Int32.ofNat (an a b) := by
  apply Int32.toBitVec_inj.mp
  rw [Int32.toBitVec_and, Int32.toBitVec_xor, pq_bv, pq_bv, pq_bv, show (-1 : Int32).toBitVec = BitVec.allOnes 32 from by decide]
  apply BitVec.eq_of_getLsbD_eq
  intro i hi
  rw [BitVec.getLsbD_and, BitVec.getLsbD_xor, BitVec.getLsbD_ofNat, BitVec.getLsbD_ofNat, BitVec.getLsbD_ofNat, BitVec.getLsbD_allOnes, an_bit ha, decide_eq_true hi]
  cases a.testBit i <;> cases b.testBit i <;> rfl
set_option maxRecDepth 100000 in
theorem hb_all : ∀ m, m < 128 → ∀ i, i < 16 → ((((Int32.ofNat m) >>> ((Int32.ofNat i) &&& 31)) &&& (1 : Int32)) = 0 ↔ m.testBit i = false) := by decide +kernel
set_option maxRecDepth 100000 in
theorem pop_sub : ∀ a, a < 128 → ∀ b, b < 128 → a &&& b = a → a ≠ b → pop a < pop b := by decide +kernel
theorem bit_lt {m k i : Nat} (hm : m < 2 ^ k) (h : m.testBit i = true) : i < k := by
  by_cases z : i < k
  · exact z
  · have := Nat.testBit_lt_two_pow (Nat.lt_of_lt_of_le hm (Nat.pow_le_pow_right (n := 2) (by decide) (show k ≤ i by omega)))
    rw [this] at h; exact absurd h (by decide)
theorem p128 {m n : Nat} (hn : n ≤ 7) (hm : m < 2 ^ n) : m < 128 := Nat.lt_of_lt_of_le hm (Nat.pow_le_pow_right (n := 2) (by decide) hn)
section BITS
variable {d m i : Nat} {h : PH} {Q : Int32 → PH → Prop}
theorem s144 (hm : m < 128) (hi : i < 16) (K : Q (bi (m.testBit i)) h) : CI (d + 1) 144 [.int (Int32.ofNat m), .int (Int32.ofNat i)] h Q := by
  rw [e144]
  split
  · rename_i z
    rw [hb_all m hm i hi] at z
    rw [z] at K
    exact ⟨Or.inl rfl, K⟩
  · rename_i z
    rw [hb_all m hm i hi] at z
    rw [Bool.not_eq_false] at z
    rw [z] at K
    exact ⟨Or.inr rfl, K⟩
theorem s143 {b : Bool} (hm : m < 128) (hi : i < 16) (K : Q (Int32.ofNat (bif b then m ||| 2 ^ i else an m (2 ^ i))) h) : CI (d + 1) 143 [.int (Int32.ofNat m), .int (Int32.ofNat i), .int (bi b)] h Q := by
  rw [e143, sh1 i hi]
  cases b with
  | true => rw [if_neg (by decide), i_or]; exact K
  | false => rw [if_pos (by decide), i_an hm]; exact K
end BITS
