theorem c8 : ∀ c, c < 128 → (Int32.ofNat c).toInt8.toInt32 = Int32.ofNat c ∧ ¬ (255 : Int32) < Int32.ofNat c ∧ ((Int32.ofNat c).toUInt32 % 65536).toInt32 = Int32.ofNat c := by decide +kernel
theorem s29 {d b v : Nat} {l : List Int32} {h : PH} {Q : Int32 → PH → Prop} (S : SB h b v l) (K : Q 1 h) : CI (d + 1) 29 [.ref b] h Q := by
  obtain ⟨s1, s2, s3, s4, s5, s6, s7, s8, s9, s10, s11, s12⟩ := S
  rw [e29, if_neg (by decide), s8, if_pos rfl]
  exact ⟨⟨s1, by omega⟩, by decide, K⟩
/-- a sign is appended -/
theorem s32 {d b v c : Nat} {l : List Int32} {h : PH} {Q : Nat → PH → Prop} (S : SB h b v l) (hc : c < 128) (hn : l.length + 1 ≤ 100000) (c1 : p_nx h + 1 ≤ p_CN) (c2 : p_us h + 2 * (l.length + 1) ≤ p_CS)
    (K : ∀ h1 v1, SB h1 b v1 (l ++ [Int32.ofNat c]) → p_ln h1 v1 ≤ max (p_ln h v) (2 * (l.length + 1)) → Ext h h1 (fun a => a = b ∨ a = v) → p_nx h1 ≤ p_nx h + 1 → p_us h1 + 2 * p_ln h v ≤ p_us h + 2 * p_ln h1 v1 → (v1 = v ∨ p_nx h ≤ v1) → Q b h1) : CR (d + 6) 32 [.ref b, .int (Int32.ofNat c)] h Q := by
  obtain ⟨s1, s2, s3, s4, s5, s6, s7, s8, s9, s10, s11, s12⟩ := id S
  have b0 : ¬ b = 0 := by omega
  obtain ⟨k1, k2, -⟩ := c8 c hc
  rw [e32]
  refine ⟨⟨s1, b0⟩, ?_⟩
  rw [e31, s9, show (1 : Int32) = Int32.ofNat 1 from rfl, i_add]
  refine ⟨⟨s1, b0⟩, ⟨s1, b0⟩, s23 S hn c1 c2 (fun h1 v1 S1 g1 g2 E1 g3 g4 g5 => ?_)⟩
  obtain ⟨u1, u2, u3, u4, u5, u6, u7, u8, u9, u10, u11, u12⟩ := id S1
  have hbv : b ≠ v1 := fun e => by rw [e, u4] at u1; cases u1
  refine ⟨⟨u1, b0⟩, s29 S1 ?_⟩
  rw [if_neg (by decide), e30, if_neg k2]
  refine ⟨by decide, ?_⟩
  rw [if_neg (by decide), u7, u9, i_add, k1, k1, i_nat (by omega), wi_kd, wi_ln]
  refine ⟨⟨u1, b0⟩, ⟨u1, b0⟩, ⟨u1, s2⟩, ⟨⟨u4, u5⟩, i_in (by omega) (by omega)⟩, K _ v1 ?_ ?_ ?_ ?_ ?_ g5⟩
  · refine S1.add (by show l.length + 1 ≤ _; omega) rfl rfl rfl (fun _ => rfl) ?_ ?_ (fun i hi => ?_) (fun i hi => ?_)
    · rw [wi_im, if_neg (by omega), wi_im, if_neg (by omega), u8]
    · rw [wi_im, if_neg (by omega), wi_im, if_pos ⟨rfl, rfl⟩]; rfl
    · rw [wi_im, if_neg (by omega), wi_im, if_neg (by omega)]
    · have hi : i < 1 := hi
      obtain rfl : i = 0 := by omega
      rw [wi_im, if_pos ⟨rfl, rfl⟩]
      rfl
  · rw [wi_ln, wi_ln]; exact g2
  · exact ((E1.up (fun a _ q => Or.inl q)).tr (Ext.wi (W := fun a => a = b) _ (fun _ => rfl)) (fun a ha q => Or.inl q)).tr (Ext.wi (W := fun a => a = v1) _ (fun _ => rfl)) (fun a ha q => by
      rcases g5 with e | e
      · exact Or.inr (q.trans e)
      · omega)
  · rw [wi_nx, wi_nx]; exact g3
  · rw [wi_us, wi_us, wi_ln, wi_ln]; exact g4
theorem s34 {d b v : Nat} {l : List Int32} {h : PH} {Q : Int32 → PH → Prop} (S : SB h b v l) (K : Q (Int32.ofNat l.length) h) : CI (d + 1) 34 [.ref b] h Q := by
  obtain ⟨s1, s2, s3, s4, s5, s6, s7, s8, s9, s10, s11, s12⟩ := S
  rw [e34, s9]
  exact ⟨⟨s1, by omega⟩, K⟩
theorem s35 {d b v : Nat} {l : List Int32} {h : PH} {Q : Int32 → PH → Prop} (S : SB h b v l) (K : Q (Int32.ofNat l.length) h) : CI (d + 2) 35 [.ref b] h Q := by
  rw [e35]
  exact ⟨⟨S.1, by have := S.2.1; omega⟩, s34 S K⟩
