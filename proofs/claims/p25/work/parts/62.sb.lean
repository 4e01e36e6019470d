/-! The builder of texts (its value holds one byte a sign). -/
/-- b is a builder, v its value, l what it holds -/
def SB (h : PH) (b v : Nat) (l : List Int32) : Prop := p_kd h b = 13 ∧ 1000 ≤ b ∧ b < p_nx h ∧ p_kd h v = 120 ∧ 1000 ≤ v ∧ v < p_nx h ∧ p_rm h b 0 = v ∧ p_im h b 1 = 0 ∧ p_im h b 3 = Int32.ofNat l.length ∧ l.length ≤ p_ln h v ∧ p_ln h v ≤ 1000000 ∧ ∀ i, i < l.length → p_im h v i = l.getD i 0
/-- a is a text, v its bytes, l what it says -/
def TX (h : PH) (a v : Nat) (l : List Int32) : Prop := p_kd h a = 14 ∧ a ≠ 0 ∧ a < p_nx h ∧ p_kB (p_kd h v) = true ∧ v ≠ 0 ∧ v < p_nx h ∧ p_rm h a 0 = v ∧ p_im h a 1 = 0 ∧ p_ln h v = l.length ∧ l.length ≤ 1000000 ∧ ∀ i, i < l.length → p_im h v i = l.getD i 0
theorem s16 {d a v : Nat} {l : List Int32} {h : PH} {Q : Int32 → PH → Prop} (T : TX h a v l) (K : Q 0 h) : CI (d + 1) 16 [.ref a] h Q := by
  obtain ⟨t1, t2, t3, t4, t5, t6, t7, t8, t9, t10, t11⟩ := T
  rw [e16, if_neg (by decide), t8]
  exact ⟨⟨t1, t2⟩, by decide, K⟩
theorem b100 {k : Nat} (h : p_kB k = true) : Nat.ble 100 k = true := by
  unfold p_kB at h
  rw [Bool.and_eq_true] at h
  exact ble_of (Nat.le_trans (by omega : 100 ≤ 120) (Nat.le_of_ble_eq_true h.1))
theorem s17 {d a v : Nat} {l : List Int32} {h : PH} {Q : Int32 → PH → Prop} (T : TX h a v l) (K : Q (Int32.ofNat l.length) h) : CI (d + 2) 17 [.ref a] h Q := by
  obtain ⟨t1, t2, t3, t4, t5, t6, t7, t8, t9, t10, t11⟩ := id T
  rw [e17, t7, t9]
  refine ⟨⟨t1, t2⟩, ⟨b100 t4, t5⟩, ⟨t1, t2⟩, s16 T ?_⟩
  rw [show ((0 : Int32) &&& 31) = 0 from by decide, show Int32.ofNat l.length >>> (0 : Int32) = Int32.ofNat l.length from by simp]
  exact K
theorem s18 {d : Nat} {x y : Int32} {h : PH} {Q : Int32 → PH → Prop} (K1 : x < y → Q y h) (K2 : ¬ x < y → Q x h) : CI (d + 1) 18 [.int x, .int y] h Q := by
  rw [e18]
  split
  · exact K1 ‹_›
  · exact K2 ‹_›
theorem s19 {d a b c : Nat} {h : PH} {Q : Int32 → PH → Prop} (h0 : 0 < a + max b c) (h1 : a + max b c ≤ 2147483639) (K : Q (Int32.ofNat (a + max b c)) h) : CI (d + 2) 19 [.int (Int32.ofNat a), .int (Int32.ofNat b), .int (Int32.ofNat c)] h Q := by
  have key : ∀ m, 0 < a + m → a + m ≤ 2147483639 → Q (Int32.ofNat (a + m)) h → (if (0 : Int32) < Int32.ofNat a + Int32.ofNat m then (if (2147483639 : Int32) < Int32.ofNat a + Int32.ofNat m then wp (d + 1) 19 14 [.val (.int (Int32.ofNat a)), .val (.int (Int32.ofNat b)), .unset, .unset] [] h (fun v h1 => onI v (fun x => Q x h1)) else Q (Int32.ofNat a + Int32.ofNat m) h) else wp (d + 1) 19 14 [.val (.int (Int32.ofNat a)), .val (.int (Int32.ofNat b)), .unset, .unset] [] h (fun v h1 => onI v (fun x => Q x h1))) := by
    intro m g0 g1 g2
    rw [i_add, if_pos (by rw [show (0 : Int32) = Int32.ofNat 0 from rfl, i_lt (by omega) (by omega)]; omega), if_neg (by rw [show (2147483639 : Int32) = Int32.ofNat 2147483639 from rfl, i_lt (by omega) (by omega)]; omega)]
    exact g2
  rw [e19]
  refine s18 (fun hl => ?_) (fun hl => ?_)
  · rw [i_lt (by omega) (by omega)] at hl
    rw [Nat.max_eq_right (by omega)] at *
    exact key c h0 h1 K
  · rw [i_lt (by omega) (by omega)] at hl
    rw [Nat.max_eq_left (by omega)] at *
    exact key b h0 h1 K
theorem sh0 (x : Int32) : x <<< ((0 : Int32) &&& 31) = x := by rw [show ((0 : Int32) &&& 31) = 0 from by decide]; simp
theorem sr0 (x : Int32) : x >>> ((0 : Int32) &&& 31) = x := by rw [show ((0 : Int32) &&& 31) = 0 from by decide]; simp
/-- the new capacity: twice the old one and two, or as much as is asked for -/
theorem s20 {d b v n : Nat} {l : List Int32} {h : PH} {Q : Int32 → PH → Prop} (S : SB h b v l) (hn : p_ln h v < n) (hm : n ≤ 1000000) (K : Q (Int32.ofNat (p_ln h v + max (n - p_ln h v) (p_ln h v + 2))) h) : CI (d + 3) 20 [.ref b, .int (Int32.ofNat n)] h Q := by
  obtain ⟨s1, s2, s3, s4, s5, s6, s7, s8, s9, s10, s11, s12⟩ := S
  have b0 : ¬ b = 0 := by omega
  have v0 : ¬ v = 0 := by omega
  rw [e20, s7, s8, sh0, sh0]
  refine ⟨⟨s1, b0⟩, ⟨b100 (by rw [s4]; rfl), v0⟩, ⟨s1, b0⟩, ⟨s1, b0⟩, ?_⟩
  rw [show (2 : Int32) = Int32.ofNat 2 from rfl, i_add, i_sub (by omega)]
  refine s19 (by omega) (by omega) ?_
  rw [if_neg (by rw [show (2147483647 : Int32) = Int32.ofNat 2147483647 from rfl, i_eq (by omega) (by omega)]; omega), s8, sr0]
  exact ⟨⟨s1, b0⟩, K⟩
