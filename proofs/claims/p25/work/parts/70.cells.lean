theorem and_nn (x : Int32) : ∃ a, a < 2147483648 ∧ x &&& 2147483647 = Int32.ofNat a := by
  refine ⟨(x &&& 2147483647).toBitVec.toNat, ?_, ?_⟩
  · rw [Int32.toBitVec_and, BitVec.toNat_and, show (2147483647 : Int32).toBitVec.toNat = 2147483647 from by decide]
    exact Nat.lt_of_le_of_lt Nat.and_le_right (by omega)
  · apply Int32.toBitVec_inj.mp
    show _ = BitVec.ofNat 32 _
    rw [BitVec.ofNat_toNat, BitVec.setWidth_eq]
theorem i_div {a n : Nat} (ha : a < 2147483648) (hn : n < 2147483648) : Int32.ofNat a / Int32.ofNat n = Int32.ofNat (a / n) := by
  have hd : a / n ≤ a := Nat.div_le_self a n
  apply Int32.toInt_inj.mp
  rw [Int32.toInt_div, i_int ha, i_int hn, i_int (by omega), show ((a : Int).tdiv (n : Int)) = ((a / n : Nat) : Int) from rfl]
  generalize a / n = q at *
  exact Int.bmod_eq_of_le (by omega) (by omega)
theorem i_mod {a n : Nat} (ha : a < 2147483648) (hn : n < 2147483648) : Int32.ofNat a - Int32.ofNat a / Int32.ofNat n * Int32.ofNat n = Int32.ofNat (a % n) := by
  have h1 : a / n * n ≤ a := Nat.div_mul_le_self a n
  rw [i_div ha hn, i_mul, i_sub h1]
  congr 1
  have := Nat.div_add_mod a n
  rw [Nat.mul_comm] at this
  omega
/-- some number below n -/
theorem s15 {d n : Nat} {x : Int32} {h : PH} {Q : Int32 → PH → Prop} (h0 : 0 < n) (hn : n < 2147483648) (K : ∀ m, m < n → Q (Int32.ofNat m) h) : CI (d + 1) 15 [.int x, .int (Int32.ofNat n)] h Q := by
  obtain ⟨a, ha, e⟩ := and_nn x
  rw [e15, e, i_mod ha hn]
  refine ⟨?_, K _ (Nat.mod_lt _ h0)⟩
  rw [show (0 : Int32) = Int32.ofNat 0 from rfl, i_eq hn (by omega)]
  omega
/-- a cell of the script, or what stands for it -/
theorem s14 {d i L : Nat} {xs : Nat → Int32} {h : PH} {Q : Int32 → PH → Prop} (C : CO L xs h) (hL : L ≤ 260) (hi : i < 1000000) (K : ∀ x, Q x h) : CI (d + 1) 14 [.ref 60, .int (Int32.ofNat i)] h Q := by
  obtain ⟨g1, g2, g3, -⟩ := C.2 60 (by omega)
  have g1 : p_kd h 60 = 102 := g1
  have g2 : p_ln h 60 = L := g2
  rw [e14, g1, g2]
  refine ⟨⟨rfl, by decide⟩, ?_⟩
  split
  · rename_i hlt
    rw [i_lt (by omega) (by omega)] at hlt
    exact ⟨⟨⟨rfl, by decide⟩, i_in hlt (by omega)⟩, K _⟩
  · exact K _
theorem c8a : ∀ c, c < 128 → (((Int32.ofNat c) &&& 255).toUInt32 % 65536).toInt32 = Int32.ofNat c := by decide +kernel
theorem s53 {d i n a : Nat} {h : PH} {Q : Int32 → PH → Prop} (hi : i < n) (hn : n ≤ 1000000) (K : Q (Int32.ofNat i) h) : CI (d + 1) 53 [.int (Int32.ofNat i), .int (Int32.ofNat n), .ref a] h Q := by
  rw [e53, if_neg (i_neg (by omega)), if_pos (by rw [i_lt (by omega) (by omega)]; exact hi)]
  exact K
theorem s54 {d i n : Nat} {h : PH} {Q : PH → Prop} (hi : i < n) (hn : n ≤ 1000000) (K : Q h) : CV (d + 2) 54 [.int (Int32.ofNat i), .int (Int32.ofNat n)] h Q := by
  rw [e54]
  exact s53 hi hn K
/-- a sign of a builder -/
theorem s56 {d b v i c : Nat} {l : List Int32} {h : PH} {Q : Int32 → PH → Prop} (S : SB h b v l) (hi : i < l.length) (hc : c < 128) (e : l.getD i 0 = Int32.ofNat c) (K : Q (Int32.ofNat c) h) : CI (d + 4) 56 [.ref b, .int (Int32.ofNat i)] h Q := by
  obtain ⟨s1, s2, s3, s4, s5, s6, s7, s8, s9, s10, s11, s12⟩ := id S
  have b0 : ¬ b = 0 := by omega
  have v0 : ¬ v = 0 := by omega
  have hb : p_kB (p_kd h v) = true := by rw [s4]; rfl
  rw [e56]
  refine ⟨⟨s1, b0⟩, ?_⟩
  rw [e55, s7, s8, s9, sr0]
  refine ⟨⟨s1, b0⟩, ⟨s1, b0⟩, ⟨s1, b0⟩, ⟨b100 hb, v0⟩, s21 (by omega) (by omega) s10 (s54 hi (by omega) ?_)⟩
  rw [if_pos rfl, i_nat (by omega), s12 i hi, e, c8a c hc]
  exact ⟨⟨⟨Or.inl hb, v0⟩, i_in (by omega) (by omega)⟩, (c8 c hc).2.2, (c8 c hc).2.2, K⟩
/-- a sign of a text -/
theorem s60 {d a v i c : Nat} {l : List Int32} {h : PH} {Q : Int32 → PH → Prop} (T : TX h a v l) (hi : i < l.length) (hc : c < 128) (e : l.getD i 0 = Int32.ofNat c) (K : Q (Int32.ofNat c) h) : CI (d + 4) 60 [.ref a, .int (Int32.ofNat i)] h Q := by
  obtain ⟨t1, t2, t3, t4, t5, t6, t7, t8, t9, t10, t11⟩ := id T
  rw [e60, e58, if_neg (by decide), t8, if_pos rfl]
  refine ⟨⟨t1, t2⟩, ⟨t1, t2⟩, by decide, ?_⟩
  rw [if_neg (by decide), t7, e59, t9]
  refine ⟨⟨t1, t2⟩, ⟨b100 t4, t5⟩, s54 hi (by omega) ?_⟩
  rw [i_nat (by omega), t11 i hi, e, c8a c hc, t9]
  exact ⟨⟨⟨Or.inl t4, t5⟩, i_in (by omega) (by omega)⟩, (c8 c hc).2.2, (c8 c hc).2.2, K⟩
