theorem dg_len (n : Nat) : (dg n).length = 1 ∨ (dg n).length = 2 := by
  by_cases hz : n < 10
  · rw [dg1 hz]; exact Or.inl rfl
  · rw [dg2 hz]; exact Or.inr rfl
/-- a small number is appended -/
theorem s46 {d b v n L : Nat} {xs : Nat → Int32} {l : List Int32} {h : PH} {Q : Nat → PH → Prop} (C : CO L xs h) (S : SB h b v l) (hm : n < 100) (hn : l.length + (dg n).length ≤ 100000) (c1 : p_nx h + 1 ≤ p_CN) (c2 : p_us h + 2 * (l.length + (dg n).length) ≤ p_CS)
    (K : ∀ h1 v1, SB h1 b v1 (l ++ dg n) → p_ln h1 v1 ≤ max (p_ln h v) (2 * (l.length + (dg n).length)) → Ext h h1 (fun a => a = b ∨ a = v) → p_nx h1 ≤ p_nx h + 1 → p_us h1 + 2 * p_ln h v ≤ p_us h + 2 * p_ln h1 v1 → (v1 = v ∨ p_nx h ≤ v1) → Q b h1) : CR (d + 6) 46 [.ref b, .int (Int32.ofNat n)] h Q := by
  obtain ⟨s1, s2, s3, s4, s5, s6, s7, s8, s9, s10, s11, s12⟩ := id S
  have b0 : ¬ b = 0 := by omega
  rw [e46]
  refine ⟨⟨s1, b0⟩, ?_⟩
  rw [e45, s9]
  refine ⟨⟨s1, b0⟩, s43 hm ⟨⟨s1, b0⟩, ?_⟩⟩
  rw [i_add]
  refine s23 S hn c1 c2 (fun h1 v1 S1 g1 g2 E1 g3 g4 g5 => ?_)
  obtain ⟨u1, u2, u3, u4, u5, u6, u7, u8, u9, u10, u11, u12⟩ := id S1
  have hbv : b ≠ v1 := fun e => by rw [e, u4] at u1; cases u1
  have C1 : CO L xs h1 := C.ext E1 (fun a ha q => by omega)
  refine ⟨⟨u1, b0⟩, s29 S1 ?_⟩
  rw [if_neg (by decide), u7]
  refine ⟨⟨u1, b0⟩, s44 C1 hm u4 u5 g1 u11 (fun z h2 m1 m2 m3 m4 m5 m6 m7 m8 => ?_)⟩
  have E2 : Ext h1 h2 (fun a => a = v1) := ⟨by omega, by omega, fun a _ => by rw [m3, m4]; exact ⟨rfl, rfl⟩, fun a _ q => ⟨fun j => m6 a j q, fun j => by rw [m5]⟩⟩
  refine ⟨⟨by rw [m3, u1], s2⟩, K _ v1 ?_ ?_ ?_ ?_ ?_ g5⟩
  · refine S1.add g1 (by rw [wi_nx, m1]) (by rw [wi_kd, m3]) (by rw [wi_ln, m4]) (fun j => by rw [wi_rm, m5]) ?_ ?_ (fun i hi => ?_) (fun i hi => ?_)
    · rw [wi_im, if_neg (by omega), m6 b 1 hbv, u8]
    · rw [wi_im, if_pos ⟨rfl, rfl⟩]
    · rw [wi_im, if_neg (by omega), m7 i hi]
    · rw [wi_im, if_neg (by omega), m8 i hi]
  · rw [wi_ln, m4]; exact g2
  · exact ((E1.up (fun a _ q => Or.inl q)).tr E2 (fun a ha q => by
      rcases g5 with e | e
      · exact Or.inr (q.trans e)
      · omega)).tr (Ext.wi (W := fun a => a = b) _ (fun _ => rfl)) (fun a _ q => Or.inl q)
  · rw [wi_nx, m1]; exact g3
  · rw [wi_us, m2, wi_ln, m4]; exact g4
