/-- a small number in digits -/
def dg (n : Nat) : List Int32 := bif Nat.blt n 10 then [Int32.ofNat (48 + n)] else [Int32.ofNat (48 + n / 10), Int32.ofNat (48 + n % 10)]
set_option maxRecDepth 100000 in
theorem n100 : ∀ n, n < 100 → (n < 10 → (-10 : Int32) < -Int32.ofNat n ∧ ¬ -Int32.ofNat n < (-9 : Int32)) ∧ (¬ n < 10 → ¬ (-10 : Int32) < -Int32.ofNat n ∧ -Int32.ofNat n < (-9 : Int32)) ∧ (-100 : Int32) < -Int32.ofNat n ∧ ¬ Int32.ofNat n < 0 ∧ - -Int32.ofNat n = Int32.ofNat n ∧
    (c_d1.getD n 0).toInt8.toInt32 = Int32.ofNat (48 + n % 10) ∧ (c_d2.getD n 0).toInt8.toInt32 = Int32.ofNat (48 + n / 10) := by decide +kernel
theorem dg1 {n : Nat} (h : n < 10) : dg n = [Int32.ofNat (48 + n)] := by
  unfold dg
  rw [show Nat.blt n 10 = true from ble_of h]
  rfl
theorem dg2 {n : Nat} (h : ¬ n < 10) : dg n = [Int32.ofNat (48 + n / 10), Int32.ofNat (48 + n % 10)] := by
  unfold dg
  rw [show Nat.blt n 10 = false from ble_no (by omega)]
  rfl
theorem i_dec {a : Nat} (h : 0 < a) : Int32.ofNat a + (-1) = Int32.ofNat (a - 1) := by
  rw [← i_sub (show 1 ≤ a from h), Int32.sub_eq_add_neg]
  rfl
theorem s43 {d n : Nat} {h : PH} {Q : Int32 → PH → Prop} (hn : n < 100) (K : Q (Int32.ofNat (dg n).length) h) : CI (d + 1) 43 [.int (Int32.ofNat n)] h Q := by
  obtain ⟨g1, g2, g3, g4, g5, -⟩ := n100 n hn
  rw [e43, if_neg g4, r43_9, r43_13, if_pos (by decide)]
  by_cases hz : n < 10
  · rw [if_pos (g1 hz).1]
    rw [dg1 hz] at K
    exact K
  · rw [if_neg (g2 hz).1, r43_13, if_pos (by decide), if_pos (by rw [show (10 : Int32) * (-10) = -100 from by decide]; exact g3)]
    rw [dg2 hz] at K
    exact K
theorem CO.d1 {L : Nat} {xs : Nat → Int32} {h : PH} (C : CO L xs h) : p_kd h 61 = 122 ∧ p_ln h 61 = 100 ∧ (∀ j, p_im h 61 j = c_d1.getD j 0) ∧ p_kd h 62 = 121 ∧ p_ln h 62 = 100 ∧ ∀ j, p_im h 62 j = c_d2.getD j 0 := by
  obtain ⟨g1, g2, g3, -⟩ := C.2 61 (by omega)
  obtain ⟨k1, k2, k3, -⟩ := C.2 62 (by omega)
  exact ⟨g1, g2, g3, k1, k2, k3⟩
/-- the digits are written ahead of place e -/
theorem s44 {d n e v L : Nat} {xs : Nat → Int32} {h : PH} {Q : Int32 → PH → Prop} (C : CO L xs h) (hn : n < 100) (hk : p_kd h v = 120) (hv : 1000 ≤ v) (he : e + (dg n).length ≤ p_ln h v) (hl : p_ln h v ≤ 1000000)
    (K : ∀ z h1, p_nx h1 = p_nx h → p_us h1 = p_us h → p_kd h1 = p_kd h → p_ln h1 = p_ln h → p_rm h1 = p_rm h → (∀ a j, a ≠ v → p_im h1 a j = p_im h a j) → (∀ j, j < e → p_im h1 v j = p_im h v j) → (∀ j, j < (dg n).length → p_im h1 v (e + j) = (dg n).getD j 0) → Q z h1) :
    CI (d + 1) 44 [.int (Int32.ofNat n), .int (Int32.ofNat (e + (dg n).length)), .ref v] h Q := by
  obtain ⟨g1, g2, g3, g4, g5, g6, g7⟩ := n100 n hn
  obtain ⟨k1, k2, k3, k4, k5, k6⟩ := C.d1
  have n61 : ¬ (61 : Nat) = v := by omega
  have n62 : ¬ (62 : Nat) = v := by omega
  rw [e44, if_neg g4, r44_7, if_pos rfl, r44_13, if_pos g3, g5, i_nat (show n < 2147483648 by omega), k1, k2, k3, g6]
  have q0 : ((p_kB 122 = true ∨ p_kZ 122 = true) ∧ ¬ (61 : Nat) = 0) ∧ p_in (Int32.ofNat n) 100 := ⟨⟨Or.inl rfl, by decide⟩, i_in (by omega) (by omega)⟩
  by_cases hz : n < 10
  · rw [if_neg (g1 hz).2, dg1 hz]
    rw [dg1 hz] at he K
    simp only [List.length_cons, List.length_nil] at he K ⊢
    rw [i_dec (by omega), i_nat (by omega), r44_62, if_pos rfl]
    refine ⟨q0, ⟨⟨hk, hv⟩, i_in (by omega) (by omega)⟩, K _ _ rfl rfl rfl rfl rfl (fun a j ha => ?_) (fun j hj => ?_) (fun j hj => ?_)⟩
    · rw [wi_im, if_neg (fun q => ha q.1)]
    · rw [wi_im, if_neg (by omega)]
    · obtain rfl : j = 0 := by omega
      rw [wi_im, if_pos ⟨rfl, by omega⟩, Nat.mod_eq_of_lt hz]
      rfl
  · rw [if_pos (g2 hz).2, dg2 hz]
    rw [dg2 hz] at he K
    simp only [List.length_cons, List.length_nil] at he K ⊢
    rw [i_dec (by omega), i_dec (by omega), i_nat (show e + (0 + 1 + 1) - 1 < 2147483648 by omega), i_nat (show e + (0 + 1 + 1) - 1 - 1 < 2147483648 by omega), r44_62, if_pos rfl, wi_kd, wi_ln, wi_im, if_neg (fun q => n62 q.1), k4, k5, k6, g7]
    refine ⟨q0, ⟨⟨hk, hv⟩, i_in (by omega) (by omega)⟩, ⟨⟨Or.inl rfl, by decide⟩, i_in (by omega) (by omega)⟩, ⟨⟨hk, hv⟩, i_in (by omega) (by omega)⟩, K _ _ rfl rfl rfl rfl rfl (fun a j ha => ?_) (fun j hj => ?_) (fun j hj => ?_)⟩
    · rw [wi_im, if_neg (fun q => ha q.1), wi_im, if_neg (fun q => ha q.1)]
    · rw [wi_im, if_neg (by omega), wi_im, if_neg (by omega)]
    · obtain rfl | rfl : j = 0 ∨ j = 1 := by omega
      · rw [wi_im, if_pos ⟨rfl, by omega⟩]
        rfl
      · rw [wi_im, if_neg (by omega), wi_im, if_pos ⟨rfl, by omega⟩]
        rfl
