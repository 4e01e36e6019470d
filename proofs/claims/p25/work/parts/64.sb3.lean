theorem TX.ext {h h1 : PH} {a v : Nat} {l : List Int32} {W : Nat → Prop} (T : TX h a v l) (E : Ext h h1 W) (n1 : ¬ W a) (n2 : ¬ W v) : TX h1 a v l := by
  obtain ⟨t1, t2, t3, t4, t5, t6, t7, t8, t9, t10, t11⟩ := T
  exact ⟨by rw [E.kd t3, t1], t2, E.lt t3, by rw [E.kd t6, t4], t5, E.lt t6, by rw [E.rm t3 n1, t7], by rw [E.im t3 n1, t8], by rw [E.ln t6, t9], t10, fun i hi => by rw [E.im t6 n2, t11 i hi]⟩
theorem SB.ext {h h1 : PH} {b v : Nat} {l : List Int32} {W : Nat → Prop} (S : SB h b v l) (E : Ext h h1 W) (n1 : ¬ W b) (n2 : ¬ W v) : SB h1 b v l := by
  obtain ⟨s1, s2, s3, s4, s5, s6, s7, s8, s9, s10, s11, s12⟩ := S
  exact ⟨by rw [E.kd s3, s1], s2, E.lt s3, by rw [E.kd s6, s4], s5, E.lt s6, by rw [E.rm s3 n1, s7], by rw [E.im s3 n1, s8], by rw [E.im s3 n1, s9], by rw [E.ln s6]; exact s10, by rw [E.ln s6]; exact s11, fun i hi => by rw [E.im s6 n2, s12 i hi]⟩
theorem s24 {d b v a w : Nat} {l t : List Int32} {h : PH} {Q : PH → Prop} (S : SB h b v l) (T : TX h a w t) (K : Q h) : CV (d + 2) 24 [.ref b, .ref a] h Q := by
  obtain ⟨s1, s2, s3, s4, s5, s6, s7, s8, s9, s10, s11, s12⟩ := id S
  obtain ⟨t1, t2, t3, t4, t5, t6, t7, t8, t9, t10, t11⟩ := id T
  rw [e24, if_neg (by decide), s8]
  refine ⟨⟨s1, by omega⟩, ⟨t1, t2⟩, s16 T ?_⟩
  rw [if_pos rfl]
  exact K
theorem s25 {d v a w n : Nat} {t : List Int32} {h : PH} {Q : PH → Prop} (T : TX h a w t) (hk : p_kd h v = 120) (hv : 1000 ≤ v) (hn : n + t.length ≤ p_ln h v) (hn2 : n ≤ 1000000) (K : Q (p_cp h w 0 v n t.length)) : CV (d + 2) 25 [.ref a, .ref v, .int (Int32.ofNat n), .int 0] h Q := by
  obtain ⟨t1, t2, t3, t4, t5, t6, t7, t8, t9, t10, t11⟩ := id T
  rw [e25]
  refine ⟨⟨t1, t2⟩, s16 T ?_⟩
  rw [if_pos rfl, t7, t9, sh0, i_nat (by omega), i_nat (by omega), i_int (by omega), i_int (by omega)]
  exact ⟨⟨t1, t2⟩, ⟨t1, t2⟩, ⟨b100 t4, t5⟩, ⟨⟨⟨t4, t5⟩, hk, hv⟩, ⟨by decide, by omega, by omega⟩, by omega, by omega⟩, K⟩
theorem s26 {d b v a w : Nat} {l t : List Int32} {h : PH} {Q : PH → Prop} (S : SB h b v l) (T : TX h a w t) (hn : l.length + t.length ≤ p_ln h v) (K : Q (p_cp h w 0 v l.length t.length)) : CV (d + 3) 26 [.ref b, .int (Int32.ofNat l.length), .ref a] h Q := by
  obtain ⟨s1, s2, s3, s4, s5, s6, s7, s8, s9, s10, s11, s12⟩ := id S
  obtain ⟨t1, t2, t3, -⟩ := id T
  have b0 : ¬ b = 0 := by omega
  rw [e26]
  refine ⟨⟨s1, b0⟩, s24 S T ⟨⟨s1, b0⟩, ⟨s1, b0⟩, ⟨t1, t2⟩, ?_⟩⟩
  rw [s7, s8]
  exact s25 T s4 s5 hn (by omega) K
/-- what a text adds -/
theorem SB.add {h h1 : PH} {b v : Nat} {l t : List Int32} (S : SB h b v l) (hn : l.length + t.length ≤ p_ln h v) (hx : p_nx h1 = p_nx h) (hk : p_kd h1 = p_kd h) (hl : p_ln h1 = p_ln h) (hr : ∀ j, p_rm h1 b j = p_rm h b j) (h1c : p_im h1 b 1 = 0) (h3 : p_im h1 b 3 = Int32.ofNat (l.length + t.length))
    (hv : ∀ i, i < l.length → p_im h1 v i = p_im h v i) (ht : ∀ i, i < t.length → p_im h1 v (l.length + i) = t.getD i 0) : SB h1 b v (l ++ t) := by
  obtain ⟨s1, s2, s3, s4, s5, s6, s7, s8, s9, s10, s11, s12⟩ := S
  refine ⟨by rw [hk, s1], s2, by rw [hx]; exact s3, by rw [hk, s4], s5, by rw [hx]; exact s6, by rw [hr, s7], h1c, by rw [h3, List.length_append], by rw [hl, List.length_append]; exact hn, by rw [hl]; exact s11, fun i hi => ?_⟩
  rw [List.length_append] at hi
  by_cases hz : i < l.length
  · rw [hv i hz, s12 i hz]
    simp [List.getD, List.getElem?_append_left hz]
  · obtain ⟨j, rfl⟩ : ∃ j, i = l.length + j := ⟨i - l.length, by omega⟩
    rw [ht j (by omega)]
    simp [List.getD, List.getElem?_append_right]
/-- a text is appended -/
theorem s28 {d b v a w : Nat} {l t : List Int32} {h : PH} {Q : Nat → PH → Prop} (S : SB h b v l) (T : TX h a w t) (hwv : w ≠ v) (hn : l.length + t.length ≤ 100000) (c1 : p_nx h + 1 ≤ p_CN) (c2 : p_us h + 2 * (l.length + t.length) ≤ p_CS)
    (K : ∀ h1 v1, SB h1 b v1 (l ++ t) → p_ln h1 v1 ≤ max (p_ln h v) (2 * (l.length + t.length)) → Ext h h1 (fun a => a = b ∨ a = v) → p_nx h1 ≤ p_nx h + 1 → p_us h1 + 2 * p_ln h v ≤ p_us h + 2 * p_ln h1 v1 → (v1 = v ∨ p_nx h ≤ v1) → Q b h1) : CR (d + 6) 28 [.ref b, .ref a] h Q := by
  obtain ⟨s1, s2, s3, s4, s5, s6, s7, s8, s9, s10, s11, s12⟩ := id S
  obtain ⟨t1, t2, t3, t4, t5, t6, t7, t8, t9, t10, t11⟩ := id T
  have b0 : ¬ b = 0 := by omega
  have hab : a ≠ b := fun e => by rw [e, s1] at t1; cases t1
  have hwb : w ≠ b := fun e => by rw [e, s1] at t4; cases t4
  rw [e28]
  refine ⟨⟨s1, b0⟩, ?_⟩
  rw [e27, if_neg t2]
  refine ⟨Or.inr (by rw [t1]; decide), ⟨t1, t2⟩, s17 T ⟨⟨s1, b0⟩, ⟨s1, b0⟩, ?_⟩⟩
  rw [s9, i_add]
  refine s23 S hn c1 c2 (fun h1 v1 S1 g1 g2 E1 g3 g4 g5 => ?_)
  obtain ⟨u1, u2, u3, u4, u5, u6, u7, u8, u9, u10, u11, u12⟩ := id S1
  have T1 := T.ext E1 hab hwb
  rw [u9]
  refine ⟨⟨u1, b0⟩, ⟨u1, b0⟩, s26 S1 T1 (by omega) ?_⟩
  have hwv1 : w ≠ v1 := by
    rcases g5 with e | e
    · rw [e]; exact hwv
    · omega
  have hbv : b ≠ v1 := fun e => by rw [e, u4] at u1; cases u1
  rw [cp_kd, cp_im, if_neg (by omega), u9, i_add]
  refine ⟨⟨u1, b0⟩, ⟨u1, s2⟩, K _ v1 ?_ ?_ ?_ ?_ ?_ g5⟩
  · refine S1.add (by omega) rfl rfl rfl (fun _ => rfl) ?_ ?_ (fun i hi => ?_) (fun i hi => ?_)
    · rw [wi_im, if_neg (by omega), cp_im, if_neg (by omega), u8]
    · rw [wi_im, if_pos ⟨rfl, rfl⟩]
    · rw [wi_im, if_neg (by omega), cp_im, if_neg (by omega)]
    · rw [wi_im, if_neg (by omega), cp_im, if_pos ⟨rfl, by omega, by omega⟩, ← T1.2.2.2.2.2.2.2.2.2.2 i hi]
      congr 1
      omega
  · rw [wi_ln, cp_ln]; exact g2
  · exact ((E1.up (fun a _ q => Or.inl q)).tr (Ext.cp (W := fun a => a = v1) _ _ _ _ (fun _ => rfl)) (fun a ha q => by
      rcases g5 with e | e
      · exact Or.inr (q.trans e)
      · omega)).tr (Ext.wi (W := fun a => a = b) _ (fun _ => rfl)) (fun a _ q => Or.inl q)
  · rw [wi_nx, cp_nx]; exact g3
  · rw [wi_us, cp_us, wi_ln, cp_ln]; exact g4
