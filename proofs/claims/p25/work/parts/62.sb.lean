/-! The builder of texts (its value holds one byte a sign). -/
/-- b is a builder, v its value, l what it holds -/
def SB (h : PH) (b v : Nat) (l : List Int32) : Prop := p_kd h b = 13 ∧ 1000 ≤ b ∧ b < p_nx h ∧ p_kd h v = 120 ∧ 1000 ≤ v ∧ v < p_nx h ∧ p_rm h b 0 = v ∧ p_im h b 1 = 0 ∧ p_im h b 3 = Int32.ofNat l.length ∧ l.length ≤ p_ln h v ∧ p_ln h v ≤ 1000000 ∧ ∀ i, i < l.length → p_im h v i = l.getD i 0
/-- a is a text, v its bytes, l what it says -/
def TX (h : PH) (a v : Nat) (l : List Int32) : Prop := p_kd h a = 14 ∧ a ≠ 0 ∧ a < p_nx h ∧ p_kB (p_kd h v) = true ∧ v ≠ 0 ∧ v < p_nx h ∧ p_rm h a 0 = v ∧ p_im h a 1 = 0 ∧ p_ln h v = l.length ∧ l.length ≤ 1000000 ∧ ∀ i, i < l.length → p_im h v i = l.getD i 0
theorem s16 {d a v : Nat} {l : List Int32} {h : PH} {Q : Int32 → PH → Prop} (T : TX h a v l) (K : Q 0 h) : CI (d + 1) 16 [.ref a] h Q := by
  obtain ⟨t1, t2, t3, t4, t5, t6, t7, t8, t9, t10, t11⟩ := T
  rw [e16, if_neg (by decide), t8]
  exact ⟨⟨t1, t2⟩, by decide, K⟩
theorem b100 {k : Nat} (h : p_kB k = true) : Nat.ble 100 k = true := by
  unfold p_kB at h
  rw [Bool.and_eq_true] at h
  exact ble_of (Nat.le_trans (by omega : 100 ≤ 120) (Nat.le_of_ble_eq_true h.1))
theorem s17 {d a v : Nat} {l : List Int32} {h : PH} {Q : Int32 → PH → Prop} (T : TX h a v l) (K : Q (Int32.ofNat l.length) h) : CI (d + 2) 17 [.ref a] h Q := by
  obtain ⟨t1, t2, t3, t4, t5, t6, t7, t8, t9, t10, t11⟩ := id T
  rw [e17, t7, t9]
  refine ⟨⟨t1, t2⟩, ⟨b100 t4, t5⟩, ⟨t1, t2⟩, s16 T ?_⟩
  rw [show ((0 : Int32) &&& 31) = 0 from by decide, show Int32.ofNat l.length >>> (0 : Int32) = Int32.ofNat l.length from by simp]
  exact K
theorem s18 {d : Nat} {x y : Int32} {h : PH} {Q : Int32 → PH → Prop} (K1 : x < y → Q y h) (K2 : ¬ x < y → Q x h) : CI (d + 1) 18 [.int x, .int y] h Q := by
  rw [e18]
  split
  · exact K1 ‹_›
  · exact K2 ‹_›
