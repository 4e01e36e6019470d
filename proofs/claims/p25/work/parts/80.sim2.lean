/-! A clause is chosen and said. -/
theorem SS.rs {sm p lt n f : Nat} {h : PH} (S : SS sm p lt n f h) : p_rm h sm 4 = p ∧ p_rm h sm 5 = p + 1 ∧ p_rm h sm 6 = p + 2 ∧ p_rm h sm 7 = p + 3 ∧ p_rm h sm 8 = p + 4 ∧ p_rm h sm 9 = p + 5 ∧ p_rm h sm 10 = p + 6 ∧ p_rm h sm 11 = p + 7 ∧ p_rm h sm 12 = p + 8 ∧ p_rm h sm 13 = p + 9 := by
  have g := S.2.2.2.2.2.2.2.2.1
  exact ⟨g 0 (by decide), g 1 (by decide), g 2 (by decide), g 3 (by decide), g 4 (by decide), g 5 (by decide), g 6 (by decide), g 7 (by decide), g 8 (by decide), g 9 (by decide)⟩
theorem SS.lns {sm p lt n f : Nat} {h : PH} (S : SS sm p lt n f h) : p_ln h p = n ∧ p_ln h (p + 1) = n ∧ p_ln h (p + 2) = n ∧ p_ln h (p + 3) = n ∧ p_ln h (p + 4) = n ∧ p_ln h (p + 5) = n ∧ p_ln h (p + 6) = n ∧ p_ln h (p + 7) = n ∧ p_ln h (p + 8) = n ∧ p_ln h (p + 9) = n := by
  have g := S.2.2.2.2.2.2.2.2.2.1
  exact ⟨g 0 (by decide), g 1 (by decide), g 2 (by decide), g 3 (by decide), g 4 (by decide), g 5 (by decide), g 6 (by decide), g 7 (by decide), g 8 (by decide), g 9 (by decide)⟩
theorem SS.kds {sm p lt n f : Nat} {h : PH} (S : SS sm p lt n f h) : p_kd h p = 100 ∧ p_kd h (p + 1) = 100 ∧ p_kd h (p + 2) = 300 ∧ p_kd h (p + 3) = 100 ∧ p_kd h (p + 4) = 100 ∧ p_kd h (p + 5) = 314 ∧ p_kd h (p + 6) = 314 ∧ p_kd h (p + 7) = 314 ∧ p_kd h (p + 8) = 315 ∧ p_kd h (p + 9) = 100 ∧ p_kd h (p + 10) = 100 := S.2.2.2.2.2.2.2.2.2.2
/-- the value that tells which fact a test asks -/
def tv (t : Nat) : Int32 := bif Nat.beq t 0 then -1 else Int32.ofNat (t - 1)
def STt (L : Nat) (xs : Nat → Int32) (N U b sm p lt n f : Nat) (l : List Int32) (s : List Nat) (h : PH) : Prop := BT L xs N U h b l ∧ NM sm (p + 10) lt s h ∧ SS sm p lt n f h
theorem STt.ek {L : Nat} {xs : Nat → Int32} {N U b sm p lt n f : Nat} {l l1 : List Int32} {s : List Nat} {h h1 : PH} (T : STt L xs N U b sm p lt n f l s h) (B : BT L xs N U h1 b l1) (E : EK k2 h h1) : STt L xs N U b sm p lt n f l1 s h1 := ⟨B, T.2.1.ek E, T.2.2.cf (CF.ek (c := 0) T.2.2 E)⟩
theorem STt.wi {L : Nat} {xs : Nat → Int32} {N U b sm p lt n f i c : Nat} {l : List Int32} {s : List Nat} {h : PH} (T : STt L xs N U b sm p lt n f l s h) (hi : i < 10) (v : Int32) : STt L xs N U b sm p lt n f l s (p_wi h (p + i) c v) := ⟨T.1.row T.2.2 (by omega) v, T.2.1.row T.2.2 hi v, T.2.2.cf (CF.wi T.2.2 v hi)⟩
theorem STt.wr {L : Nat} {xs : Nat → Int32} {N U b sm p lt n f i c : Nat} {l : List Int32} {s : List Nat} {h : PH} (T : STt L xs N U b sm p lt n f l s h) (hi : i < 10) (v : Nat) : STt L xs N U b sm p lt n f l s (p_wr h (p + i) c v) := ⟨T.1.rowr T.2.2 (by omega) v, T.2.1.rowr T.2.2 hi v, T.2.2.cf (CF.wr T.2.2 v hi)⟩
theorem STt.nw {L : Nat} {xs : Nat → Int32} {N U b sm p lt n f x u : Nat} {l : List Int32} {s : List Nat} {h h1 : PH} (T : STt L xs N U b sm p lt n f l s h) (E : Ext h h1 (fun _ => False)) (hx : p_nx h1 ≤ p_nx h + x) (hu : p_us h1 ≤ p_us h + u) : STt L xs (N + x) (U + u) b sm p lt n f l s h1 := ⟨T.1.alloc E hx hu, T.2.1.ext E (fun q => q) (fun q => q), T.2.2.cf (CF.nw (c := 0) T.2.2 E)⟩
section CLS
variable {d n f c L N U b sm p lt : Nat} {xs : Nat → Int32} {l : List Int32} {s : List Nat} {h : PH} {Q : Option Value → PH → Prop}
theorem a52 (hL : L ≤ 260) (T : STt L xs N U b sm p lt n f l s h) (hc : c < n) (hn : n ≤ 7) (hf : 0 < f) (hf2 : f ≤ 3)
    (K : ∀ h1 t x7, t ≤ f → CF sm p lt c h h1 → STt L xs N U b sm p lt n f l s h1 → wp (d + 9) 52 174 [.val (.ref 60), .unset, .val (.ref b), .val (.ref sm), .val (.int (Int32.ofNat n)), .val (.ref (p + 10)), .val (.int (Int32.ofNat c)), .val (.int x7)] [.int (tv t), .int (Int32.ofNat c), .ref p] h1 Q) :
    wp (d + 9) 52 137 [.val (.ref 60), .unset, .val (.ref b), .val (.ref sm), .val (.int (Int32.ofNat n)), .val (.ref (p + 10)), .val (.int (Int32.ofNat c)), .unset] [] h Q := by
  have S := T.2.2
  have s0 : ¬ sm = 0 := by have := S.2.1; omega
  have sp := S.2.2.1
  have s1 := S.2.1
  obtain ⟨-, -, -, -, -, -, -, -, -, r13⟩ := S.rs
  obtain ⟨-, -, -, -, -, -, -, -, -, n9⟩ := S.lns
  obtain ⟨-, -, -, -, -, -, -, -, -, k9, -⟩ := S.kds
  have r4 := S.rs.1
  rw [r52_137, if_pos (by rw [i_lt (by omega) (by omega)]; exact hc), show (5 : Int32) = Int32.ofNat 5 from rfl, i_mod (by omega) (by omega), show (3 : Int32) = Int32.ofNat 3 from rfl, i_add, i_nat (by omega)]
  refine ⟨by decide, s14 T.1.1 hL (by omega) (fun z1 => ?_)⟩
  rw [r13, n9, k9]
  have T1 := T.wi (i := 9) (c := c) (by decide) (-1 : Int32)
  have F1 : CF sm p lt c h (p_wi h (p + 9) c (-1)) := CF.wi S (-1) (by decide)
  have S1 := T1.2.2
  rw [wi_rm, r4, wi_kd, S.1]
  refine ⟨⟨rfl, s0⟩, ⟨⟨rfl, by omega⟩, i_in hc (by omega)⟩, ⟨rfl, s0⟩, ?_⟩
  rw [show (2 : Int32) = Int32.ofNat 2 from rfl]
  refine s15 (by omega) (by omega) (fun m hm => ?_)
  split
  · exact K _ 0 _ (Nat.zero_le _) F1 T1
  · rw [wi_kd, S.1, S1.2.2.2.2.2.2.1]
    exact ⟨⟨rfl, s0⟩, s15 hf (by omega) (fun q hq => K _ (q + 1) _ (by omega) F1 T1)⟩
theorem b52 {t : Nat} {x7 : Int32} (T : STt L xs N U b sm p lt n f l s h) (hc : c < n) (hn : n ≤ 7)
    (K : ∀ h1 th op, th < 20 → op ≤ 1 → CF sm p lt c h h1 → STt L xs N U b sm p lt n f l s h1 → KN p c [tv t, Int32.ofNat th] h1 → wp (d + 9) 52 196 [.val (.ref 60), .unset, .val (.ref b), .val (.ref sm), .val (.int (Int32.ofNat n)), .val (.ref (p + 10)), .val (.int (Int32.ofNat c)), .val (.int x7)] [.int (Int32.ofNat op), .int (Int32.ofNat c), .ref (p + 2)] h1 Q) :
    wp (d + 9) 52 174 [.val (.ref 60), .unset, .val (.ref b), .val (.ref sm), .val (.int (Int32.ofNat n)), .val (.ref (p + 10)), .val (.int (Int32.ofNat c)), .val (.int x7)] [.int (tv t), .int (Int32.ofNat c), .ref p] h Q := by
  have S := T.2.2
  have s0 : ¬ sm = 0 := by have := S.2.1; omega
  have sp := S.2.2.1
  have s1 := S.2.1
  obtain ⟨r4, r5, r6, -⟩ := S.rs
  obtain ⟨n0, n1, n2, -⟩ := S.lns
  obtain ⟨k0, k1, k2, -⟩ := S.kds
  have hin : p_in (Int32.ofNat c) n := i_in hc (by omega)
  have T1 : STt L xs N U b sm p lt n f l s (p_wi h p c (tv t)) := T.wi (i := 0) (c := c) (by decide) (tv t)
  have F1 : CF sm p lt c h (p_wi h p c (tv t)) := CF.wi (i := 0) S (tv t) (by decide)
  have K1 : KN p c [tv t] (p_wi h p c (tv t)) := KN.snoc (l := []) (i := 0) ⟨by decide, fun i hi => absurd hi (Nat.not_lt_zero _)⟩ rfl (by decide) (tv t)
  rw [r52_174, k0, n0, i_nat (by omega), wi_kd, S.1, wi_rm, r5]
  refine ⟨⟨⟨rfl, by omega⟩, hin⟩, ⟨rfl, s0⟩, ?_⟩
  rw [show (20 : Int32) = Int32.ofNat 20 from rfl]
  refine s15 (by omega) (by omega) (fun th hth => ?_)
  rw [wi_kd, wi_ln, k1, n1]
  have T2 := T1.wi (i := 1) (c := c) (by decide) (Int32.ofNat th)
  have F2 : CF sm p lt c h (p_wi (p_wi h p c (tv t)) (p + 1) c (Int32.ofNat th)) := F1.tr (CF.wi T1.2.2 _ (by decide))
  have K2 : KN p c [tv t, Int32.ofNat th] (p_wi (p_wi h p c (tv t)) (p + 1) c (Int32.ofNat th)) := K1.snoc rfl (by simp only [List.length_cons, List.length_nil]; decide) _
  rw [wi_kd, wi_kd, S.1, wi_rm, wi_rm, r6]
  refine ⟨⟨⟨rfl, by omega⟩, hin⟩, ⟨rfl, s0⟩, ?_⟩
  rw [show (3 : Int32) = Int32.ofNat 3 from rfl]
  refine s15 (by omega) (by omega) (fun o ho => ?_)
  split
  · exact K _ th 1 hth (by decide) F2 T2 K2
  · exact K _ th 0 hth (by decide) F2 T2 K2
theorem c52 {t th op : Nat} {x7 : Int32} (hL : L ≤ 260) (T : STt L xs N U b sm p lt n f l s h) (hc : c < n) (hn : n ≤ 7) (hop : op ≤ 1) (hN : N ≤ 290000) (hU : U ≤ 900000) (hl : l.length ≤ 19000) (KK : KN p c [tv t, Int32.ofNat th] h)
    (K : ∀ h1 gd bd N1, gd < 30 → bd < 30 → CF sm p lt c h h1 → STt L xs (N + 1) (U + 2) b sm p lt n f l s h1 → KN p c [tv t, Int32.ofNat th, Int32.ofNat op, Int32.ofNat gd, Int32.ofNat bd] h1 → N1.length ≤ 2 → (∀ o ∈ N1, o < n ∧ o ≠ c) → (p + 10 < p_rm h1 (p + 5) c ∧ RW h1 (p_rm h1 (p + 5) c) N1) →
      wp (d + 9) 52 232 [.val (.ref 60), .unset, .val (.ref b), .val (.ref sm), .val (.int (Int32.ofNat n)), .val (.ref (p + 10)), .val (.int (Int32.ofNat c)), .val (.int x7)] [] h1 Q) :
    wp (d + 9) 52 196 [.val (.ref 60), .unset, .val (.ref b), .val (.ref sm), .val (.int (Int32.ofNat n)), .val (.ref (p + 10)), .val (.int (Int32.ofNat c)), .val (.int x7)] [.int (Int32.ofNat op), .int (Int32.ofNat c), .ref (p + 2)] h Q := by
  have S := T.2.2
  have s0 : ¬ sm = 0 := by have := S.2.1; omega
  have sp := S.2.2.1
  have s1 := S.2.1
  have e1 : p_CN = 601086 := rfl
  have e2 : p_CS = 7301442 := rfl
  obtain ⟨-, -, -, r7, r8, r9, -⟩ := S.rs
  obtain ⟨-, -, n2, n3, n4, n5, -⟩ := S.lns
  obtain ⟨-, -, k2, k3, k4, k5, -⟩ := S.kds
  have hin : p_in (Int32.ofNat c) n := i_in hc (by omega)
  have T1 := T.wi (i := 2) (c := c) (by decide) (Int32.ofNat op)
  have F1 : CF sm p lt c h (p_wi h (p + 2) c (Int32.ofNat op)) := CF.wi S _ (by decide)
  have K1 : KN p c [tv t, Int32.ofNat th, Int32.ofNat op] (p_wi h (p + 2) c (Int32.ofNat op)) := KK.snoc rfl (by simp only [List.length_cons, List.length_nil]; decide) _
  rw [r52_196, k2, n2, i_nat (by omega), wi_kd, S.1, wi_rm, r7]
  refine ⟨⟨⟨⟨rfl, by omega⟩, ?_⟩, hin⟩, ⟨rfl, s0⟩, ?_⟩
  · have : op = 0 ∨ op = 1 := by omega
    rcases this with rfl | rfl
    · exact Or.inl rfl
    · exact Or.inr rfl
  rw [show (30 : Int32) = Int32.ofNat 30 from rfl]
  refine s15 (by omega) (by omega) (fun gd hgd => ?_)
  have T2 := T1.wi (i := 3) (c := c) (by decide) (Int32.ofNat gd)
  have F2 := F1.tr (CF.wi (c := c) T1.2.2 (Int32.ofNat gd) (i := 3) (by decide))
  have K2 : KN p c [tv t, Int32.ofNat th, Int32.ofNat op, Int32.ofNat gd] (p_wi (p_wi h (p + 2) c (Int32.ofNat op)) (p + 3) c (Int32.ofNat gd)) := K1.snoc rfl (by simp only [List.length_cons, List.length_nil]; decide) _
  rw [wi_kd, wi_ln, k3, n3, wi_kd, wi_kd, S.1, wi_rm, wi_rm, r8]
  refine ⟨⟨⟨rfl, by omega⟩, hin⟩, ⟨rfl, s0⟩, s15 (by omega) (by omega) (fun bd hbd => ?_)⟩
  have T3 := T2.wi (i := 4) (c := c) (by decide) (Int32.ofNat bd)
  have F3 := F2.tr (CF.wi (c := c) T2.2.2 (Int32.ofNat bd) (i := 4) (by decide))
  have K3 : KN p c [tv t, Int32.ofNat th, Int32.ofNat op, Int32.ofNat gd, Int32.ofNat bd] (p_wi (p_wi (p_wi h (p + 2) c (Int32.ofNat op)) (p + 3) c (Int32.ofNat gd)) (p + 4) c (Int32.ofNat bd)) := K2.snoc rfl (by simp only [List.length_cons, List.length_nil]; decide) _
  rw [wi_kd, wi_ln, wi_kd, wi_ln, k4, n4, wi_kd, wi_kd, wi_kd, S.1, wi_rm, wi_rm, wi_rm, r9]
  refine ⟨⟨⟨rfl, by omega⟩, hin⟩, ⟨rfl, s0⟩, ?_⟩
  have sx := T3.2.2.2.2.2.2.2.1
  have kx : p_kd (p_wi (p_wi (p_wi h (p + 2) c (Int32.ofNat op)) (p + 3) c (Int32.ofNat gd)) (p + 4) c (Int32.ofNat bd)) (p + 5) = 314 := k5
  have lx : p_ln (p_wi (p_wi (p_wi h (p + 2) c (Int32.ofNat op)) (p + 3) c (Int32.ofNat gd)) (p + 4) c (Int32.ofNat bd)) (p + 5) = n := n5
  generalize p_wi (p_wi (p_wi h (p + 2) c (Int32.ofNat op)) (p + 3) c (Int32.ofNat gd)) (p + 4) c (Int32.ofNat bd) = h3 at *
  have gx : p_nx h3 ≤ N + 10 * l.length := T3.1.2.1
  have gu : p_us h3 ≤ 4000000 := by
    obtain ⟨-, -, v, -, g1, g2⟩ := T3.1
    omega
  refine s14 (i := 8) T3.1.1 hL (by decide) (fun z3 => ?_)
  rw [show (2 : Int32) = Int32.ofNat 2 from rfl]
  refine s47 (by omega) (by omega) hc (by omega) (by omega) (by omega) (by omega) (fun h4 N1 R4 g1 g2 E4 g3 g4 => ?_)
  have T4 := T3.nw E4 (x := 1) (u := 2) (by omega) (by omega)
  have F4 := F3.tr (CF.nw (c := c) T3.2.2 E4)
  have K4 : KN p c [tv t, Int32.ofNat th, Int32.ofNat op, Int32.ofNat gd, Int32.ofNat bd] h4 := K3.ek T3.2.2 (CF.nw T3.2.2 E4)
  have k4x : p_kd h4 (p + 5) = 314 := by rw [E4.kd (by omega), kx]
  have l4x : p_ln h4 (p + 5) = n := by rw [E4.ln (by omega), lx]
  rw [k4x, l4x, R4.1]
  refine ⟨⟨⟨⟨by decide, by omega⟩, rfl, by omega⟩, hin⟩, ?_⟩
  refine K _ gd bd N1 hgd hbd (F4.tr (CF.wr (i := 5) T4.2.2 _ (by decide))) (T4.wr (i := 5) (by decide) _) K4 g1 g2 ?_
  rw [wr_rm, if_pos ⟨rfl, rfl⟩]
  exact ⟨by omega, R4.ext (W := fun a => a = p + 5) (Ext.wr _ (fun _ => rfl)) (by omega)⟩
end CLS
