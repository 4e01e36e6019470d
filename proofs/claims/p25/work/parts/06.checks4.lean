/-! The test of 05.read holds of every method. -/
theorem e_m_all (k : Nat) (hk : k < 190) : e_m k = true := by
  have h : ∀ a n : Nat, (List.range' a n).all e_m = true → a ≤ k → k < a + n → e_m k = true := fun a n h h1 h2 => List.all_eq_true.mp h k (List.mem_range'.mpr ⟨k - a, by omega, by omega⟩)
  rcases Nat.lt_or_ge k 60 with q | q
  · exact h 0 60 e_m_0 (by omega) (by omega)
  rcases Nat.lt_or_ge k 120 with q | q
  · exact h 60 60 e_m_60 (by omega) (by omega)
  rcases Nat.lt_or_ge k 160 with q | q
  · exact h 120 40 e_m_120 (by omega) (by omega)
  rcases Nat.lt_or_ge k 189 with q | q
  · exact h 160 29 e_m_160 (by omega) (by omega)
  exact h 189 1 e_m_189 (by omega) (by omega)
theorem e_d_all (k : Nat) (hk : k < 190) : e_d k = true := by
  have h : ∀ a n : Nat, (List.range' a n).all e_d = true → a ≤ k → k < a + n → e_d k = true := fun a n h h1 h2 => List.all_eq_true.mp h k (List.mem_range'.mpr ⟨k - a, by omega, by omega⟩)
  rcases Nat.lt_or_ge k 20 with q | q
  · exact h 0 20 e_d_0 (by omega) (by omega)
  rcases Nat.lt_or_ge k 47 with q | q
  · exact h 20 27 e_d_20 (by omega) (by omega)
  rcases Nat.lt_or_ge k 49 with q | q
  · exact h 47 2 e_d_47 (by omega) (by omega)
  rcases Nat.lt_or_ge k 51 with q | q
  · exact h 49 2 e_d_49 (by omega) (by omega)
  rcases Nat.lt_or_ge k 52 with q | q
  · (rw [show k = 51 by omega]; exact e_d_51)
  rcases Nat.lt_or_ge k 53 with q | q
  · (rw [show k = 52 by omega]; exact e_d_52)
  rcases Nat.lt_or_ge k 71 with q | q
  · exact h 53 18 e_d_53 (by omega) (by omega)
  rcases Nat.lt_or_ge k 84 with q | q
  · exact h 71 13 e_d_71 (by omega) (by omega)
  rcases Nat.lt_or_ge k 93 with q | q
  · exact h 84 9 e_d_84 (by omega) (by omega)
  rcases Nat.lt_or_ge k 105 with q | q
  · exact h 93 12 e_d_93 (by omega) (by omega)
  rcases Nat.lt_or_ge k 118 with q | q
  · exact h 105 13 e_d_105 (by omega) (by omega)
  rcases Nat.lt_or_ge k 138 with q | q
  · exact h 118 20 e_d_118 (by omega) (by omega)
  rcases Nat.lt_or_ge k 140 with q | q
  · exact h 138 2 e_d_138 (by omega) (by omega)
  rcases Nat.lt_or_ge k 141 with q | q
  · (rw [show k = 140 by omega]; exact e_d_140)
  rcases Nat.lt_or_ge k 150 with q | q
  · exact h 141 9 e_d_141 (by omega) (by omega)
  rcases Nat.lt_or_ge k 161 with q | q
  · exact h 150 11 e_d_150 (by omega) (by omega)
  rcases Nat.lt_or_ge k 173 with q | q
  · exact h 161 12 e_d_161 (by omega) (by omega)
  rcases Nat.lt_or_ge k 187 with q | q
  · exact h 173 14 e_d_173 (by omega) (by omega)
  rcases Nat.lt_or_ge k 189 with q | q
  · exact h 187 2 e_d_187 (by omega) (by omega)
  (rw [show k = 189 by omega]; exact e_d_189)
