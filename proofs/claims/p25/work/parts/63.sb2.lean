theorem s21 {d a b : Nat} {h : PH} {Q : Int32 → PH → Prop} (ha : a < 2147483648) (hb : b < 2147483648) (hl : a ≤ b) (K : Q (Int32.ofNat a) h) : CI (d + 1) 21 [.int (Int32.ofNat a), .int (Int32.ofNat b)] h Q := by
  rw [e21, if_neg (by rw [i_lt hb ha]; omega)]
  exact K
theorem s22 {d a m : Nat} {h : PH} {Q : Nat → PH → Prop} (hk : p_kd h a = 120) (ha : 1000 ≤ a) (hx : a < p_nx h) (hn : 1000 ≤ p_nx h) (hl : p_ln h a < m) (hm : m < 2147483648) (c1 : p_nx h + 1 ≤ p_CN) (c2 : p_us h + m ≤ p_CS)
    (K : Q (p_nx h) (p_cp (p_new h 120 m m) a 0 (p_nx h) 0 (p_ln h a))) : CR (d + 2) 22 [.ref a, .int (Int32.ofNat m)] h Q := by
  have a0 : ¬ a = 0 := by omega
  rw [e22, if_neg (by rw [i_eq (by omega) (by omega)]; omega), i_nat hm]
  refine ⟨⟨by rw [hk]; rfl, a0⟩, ⟨i_neg hm, c1, c2⟩, ⟨by rw [pn_kd, if_neg (by omega), hk]; rfl, a0⟩, ?_⟩
  rw [pn_ln, if_neg (by omega)]
  refine s21 (by omega) hm (by omega) ?_
  rw [i_nat (by omega), i_int (by omega)]
  refine ⟨⟨⟨⟨by rw [pn_kd, if_neg (by omega), hk]; rfl, a0⟩, by rw [pn_kd, if_pos rfl], hn⟩, ⟨by decide, by decide, by omega⟩, ?_, ?_⟩, K⟩
  · rw [pn_ln, if_neg (by omega)]; omega
  · rw [pn_ln, if_pos rfl]; omega
theorem cp_nx (h : PH) (s sp d dp n : Nat) : p_nx (p_cp h s sp d dp n) = p_nx h := rfl
theorem cp_us (h : PH) (s sp d dp n : Nat) : p_us (p_cp h s sp d dp n) = p_us h := rfl
theorem cp_kd (h : PH) (s sp d dp n : Nat) : p_kd (p_cp h s sp d dp n) = p_kd h := rfl
theorem cp_ln (h : PH) (s sp d dp n : Nat) : p_ln (p_cp h s sp d dp n) = p_ln h := rfl
theorem cp_rm (h : PH) (s sp d dp n : Nat) : p_rm (p_cp h s sp d dp n) = p_rm h := rfl
theorem cp_im (h : PH) (s sp d dp n x j : Nat) : p_im (p_cp h s sp d dp n) x j = if x = d ∧ dp ≤ j ∧ j < dp + n then p_im h s (sp + (j - dp)) else p_im h x j := rfl
/-- the builder has room for n -/
theorem s23 {d b v n : Nat} {l : List Int32} {h : PH} {Q : PH → Prop} (S : SB h b v l) (hn : n ≤ 100000) (c1 : p_nx h + 1 ≤ p_CN) (c2 : p_us h + 2 * n ≤ p_CS)
    (K : ∀ h1 v1, SB h1 b v1 l → n ≤ p_ln h1 v1 → p_ln h1 v1 ≤ max (p_ln h v) (2 * n) → Ext h h1 (fun a => a = b) → p_nx h1 ≤ p_nx h + 1 → p_us h1 + 2 * p_ln h v ≤ p_us h + 2 * p_ln h1 v1 → (v1 = v ∨ p_nx h ≤ v1) → Q h1) : CV (d + 4) 23 [.ref b, .int (Int32.ofNat n)] h Q := by
  obtain ⟨s1, s2, s3, s4, s5, s6, s7, s8, s9, s10, s11, s12⟩ := id S
  have b0 : ¬ b = 0 := by omega
  have v0 : ¬ v = 0 := by omega
  have hbv : b ≠ v := fun e => by rw [e, s4] at s1; cases s1
  rw [e23, s7, s8, sr0]
  refine ⟨⟨s1, b0⟩, ⟨by rw [s4]; rfl, v0⟩, ⟨s1, b0⟩, ?_⟩
  by_cases hc : n ≤ p_ln h v
  · rw [if_neg]
    · exact K h v S hc (by omega) Ext.rf (by omega) (by omega) (Or.inl rfl)
    · rw [Int32.lt_iff_toInt_lt]
      have e : Int32.ofNat n - Int32.ofNat (p_ln h v) = -(Int32.ofNat (p_ln h v - n)) := by
        rw [← i_sub hc, Int32.neg_sub]
      rw [e, Int32.toInt_neg, i_int (by omega)]
      show ¬ (0 : Int) < _
      rw [Int.bmod_eq_of_le (by omega) (by omega)]
      omega
  · rw [i_sub (by omega), if_pos (by rw [show (0 : Int32) = Int32.ofNat 0 from rfl, i_lt (by omega) (by omega)]; omega)]
    refine ⟨⟨s1, b0⟩, ⟨s1, b0⟩, s20 S (by omega) (by omega) ?_⟩
    rw [s8, sh0]
    refine ⟨⟨s1, b0⟩, s22 s4 s5 s6 (by omega) (by omega) (by omega) c1 (by omega) ?_⟩
    generalize hm : p_ln h v + max (n - p_ln h v) (p_ln h v + 2) = m
    have m1 : n ≤ m ∧ 2 * p_ln h v ≤ m ∧ m ≤ 2 * n + 2 := by omega
    refine ⟨⟨by rw [cp_kd, pn_kd, if_neg (by omega), s1], s2⟩, ?_⟩
    have hE : Ext h (p_wr (p_cp (p_new h 120 m m) v 0 (p_nx h) 0 (p_ln h v)) b 0 (p_nx h)) (fun a => a = b) :=
      ((Ext.pn (W := fun a => a = b) 120 m m).tr (Ext.cp (W := fun a => a = p_nx h) _ _ _ _ (fun _ => rfl)) (fun a ha q => by omega)).tr (Ext.wr (W := fun a => a = b) _ (fun _ => rfl)) (fun a ha q => q)
    refine K _ (p_nx h) ⟨?_, s2, ?_, ?_, by omega, ?_, ?_, ?_, ?_, ?_, ?_, ?_⟩ ?_ ?_ hE ?_ ?_ (Or.inr (Nat.le_refl _))
    · rw [hE.kd s3, s1]
    · rw [wr_nx, cp_nx, pn_nx]; omega
    · rw [wr_kd, cp_kd, pn_kd, if_pos rfl]
    · rw [wr_nx, cp_nx, pn_nx]; omega
    · rw [wr_rm, if_pos ⟨rfl, rfl⟩]
    · rw [wr_im, cp_im, if_neg (by omega), pn_im, if_neg (by omega), s8]
    · rw [wr_im, cp_im, if_neg (by omega), pn_im, if_neg (by omega), s9]
    · rw [wr_ln, cp_ln, pn_ln, if_pos rfl]; omega
    · rw [wr_ln, cp_ln, pn_ln, if_pos rfl]; omega
    · intro i hi
      rw [wr_im, cp_im, if_pos ⟨rfl, by omega, by omega⟩, pn_im, if_neg (by omega), ← s12 i hi]
      congr 1
      omega
    · rw [wr_ln, cp_ln, pn_ln, if_pos rfl]; omega
    · rw [wr_ln, cp_ln, pn_ln, if_pos rfl]; omega
    · rw [wr_nx, cp_nx, pn_nx]; omega
    · rw [wr_us, cp_us, pn_us, wr_ln, cp_ln, pn_ln, if_pos rfl]; omega
