/-- the desk's tape -/
def TP (h : PH) (a t : Nat) (l : List Int32) : Prop := p_kd h a = 1 ∧ 1000 ≤ a ∧ a < p_nx h ∧ p_kd h t = 120 ∧ 1000 ≤ t ∧ t < p_nx h ∧ p_rm h a 0 = t ∧ p_ln h t = 3000 ∧ p_im h a 1 = Int32.ofNat l.length ∧ l.length ≤ 3000 ∧ ∀ i, i < l.length → p_im h t i = l.getD i 0
/-- all is as before, but the tape and its length -/
def TPs (h h1 : PH) (a t : Nat) : Prop := p_nx h1 = p_nx h ∧ p_us h1 = p_us h ∧ p_kd h1 = p_kd h ∧ p_ln h1 = p_ln h ∧ p_rm h1 = p_rm h ∧ ∀ b j, ¬ (b = a ∧ j = 1) → b ≠ t → p_im h1 b j = p_im h b j
theorem TPs.tr {h h1 h2 : PH} {a t : Nat} (A : TPs h h1 a t) (B : TPs h1 h2 a t) : TPs h h2 a t := by
  obtain ⟨a1, a2, a3, a4, a5, a6⟩ := A
  obtain ⟨b1, b2, b3, b4, b5, b6⟩ := B
  exact ⟨b1.trans a1, b2.trans a2, b3.trans a3, b4.trans a4, b5.trans a5, fun b j n1 n2 => (b6 b j n1 n2).trans (a6 b j n1 n2)⟩
/-- a number's byte -/
def by8 (x s : Int32) : Int32 := (x >>> (s &&& 31)).toInt8.toInt32
theorem getD_snoc32 {l : List Int32} {w : Int32} {j : Nat} (hj : j < l.length) : (l ++ [w]).getD j 0 = l.getD j 0 := by simp [List.getD, List.getElem?_append_left hj]
theorem getD_last32 {l : List Int32} {w : Int32} : (l ++ [w]).getD l.length 0 = w := by simp [List.getD]
theorem l61 {d a t : Nat} {x s : Int32} {l : List Int32} {h : PH} {Q : Option Value → PH → Prop} (T : TP h a t l) (hs : ¬ s < 0) (hl : l.length < 3000)
    (K : ∀ h1, TP h1 a t (l ++ [by8 x s]) → TPs h h1 a t → wp d 61 2 [.val (.ref a), .val (.int x), .val (.int (s + (-8)))] [] h1 Q) : wp d 61 2 [.val (.ref a), .val (.int x), .val (.int s)] [] h Q := by
  obtain ⟨t1, t2, t3, t4, t5, t6, t7, t8, t9, t10, t11⟩ := id T
  have a0 : ¬ a = 0 := by omega
  have hat : ¬ a = t := fun e => by rw [e, t4] at t1; cases t1
  have idm : ∀ y : Int32, y.toInt8.toInt32.toInt8.toInt32 = y.toInt8.toInt32 := fun y => by simp
  rw [r61_2, if_neg hs, t7, t9, idm, wi_kd, i_nat (by omega), if_pos (by rw [show (3000 : Int32) = Int32.ofNat 3000 from rfl, i_lt (by omega) (by omega)]; exact hl), t8, wi_im, if_neg (fun q => hat q.1), t9, show (1 : Int32) = Int32.ofNat 1 from rfl, i_add, r61_23]
  refine ⟨⟨t1, a0⟩, ⟨t1, a0⟩, ⟨t1, a0⟩, ⟨⟨t4, t5⟩, i_in (by omega) (by omega)⟩, ⟨t1, a0⟩, ⟨t1, t2⟩, K _ ⟨t1, t2, t3, t4, t5, t6, t7, t8, ?_, ?_, fun i hi => ?_⟩ ⟨rfl, rfl, rfl, rfl, rfl, fun b j n1 n2 => ?_⟩⟩
  · rw [wi_im, if_pos ⟨rfl, rfl⟩, List.length_append]; rfl
  · rw [List.length_append]; show l.length + 1 ≤ 3000; omega
  · rw [List.length_append] at hi
    have hi : i < l.length + 1 := hi
    rw [wi_im, if_neg (fun q => hat q.1.symm)]
    by_cases hz : i < l.length
    · rw [wi_im, if_neg (by omega), t11 i hz, getD_snoc32 hz]
    · obtain rfl : i = l.length := by omega
      rw [wi_im, if_pos ⟨rfl, rfl⟩, getD_last32]
      rfl
  · rw [wi_im, if_neg n1, wi_im, if_neg (fun q => n2 q.1)]
/-- four bytes -/
def by4 (x : Int32) : List Int32 := [by8 x 24, by8 x 16, by8 x 8, by8 x 0]
theorem s61 {d a t : Nat} {x : Int32} {l : List Int32} {h : PH} {Q : PH → Prop} (T : TP h a t l) (hl : l.length + 4 ≤ 3000) (K : ∀ h1, TP h1 a t (l ++ by4 x) → TPs h h1 a t → Q h1) : CV (d + 1) 61 [.ref a, .int x] h Q := by
  rw [e61]
  refine l61 T (by decide) (by omega) (fun h1 T1 E1 => ?_)
  rw [show (24 : Int32) + (-8) = 16 from by decide]
  refine l61 T1 (by decide) (by rw [List.length_append]; show l.length + 1 < 3000; omega) (fun h2 T2 E2 => ?_)
  rw [show (16 : Int32) + (-8) = 8 from by decide]
  refine l61 T2 (by decide) (by rw [List.length_append, List.length_append]; show l.length + 1 + 1 < 3000; omega) (fun h3 T3 E3 => ?_)
  rw [show (8 : Int32) + (-8) = 0 from by decide]
  refine l61 T3 (by decide) (by rw [List.length_append, List.length_append, List.length_append]; show l.length + 1 + 1 + 1 < 3000; omega) (fun h4 T4 E4 => ?_)
  rw [r61_2, if_pos (by decide)]
  refine K h4 ?_ (((E1.tr E2).tr E3).tr E4)
  rw [List.append_assoc, List.append_assoc, List.append_assoc] at T4
  exact T4
theorem by4_len (x : Int32) : (by4 x).length = 4 := rfl
/-- twenty bytes are fed -/
theorem s62 {d a t : Nat} {x1 x2 x3 x4 x5 : Int32} {l : List Int32} {h : PH} {Q : Int32 → PH → Prop} (T : TP h a t l) (hl : l.length + 20 ≤ 3000) (K : ∀ h1, TP h1 a t (l ++ (by4 x1 ++ by4 x2 ++ by4 x3 ++ by4 x4 ++ by4 x5)) → TPs h h1 a t → Q (Int32.ofNat (l.length + 20)) h1) :
    CI (d + 2) 62 [.ref a, .int x1, .int x2, .int x3, .int x4, .int x5] h Q := by
  have a0 : ¬ a = 0 := by have := T.2.1; omega
  have h9 := T.2.2.2.2.2.2.2.2.1
  rw [e62, h9, show (20 : Int32) = Int32.ofNat 20 from rfl, i_add, if_neg (by rw [show (3000 : Int32) = Int32.ofNat 3000 from rfl, i_lt (by omega) (by omega)]; omega)]
  refine ⟨⟨T.1, a0⟩, ⟨T.1, a0⟩, s61 T (by omega) (fun h1 T1 E1 => ⟨⟨T1.1, a0⟩, ?_⟩)⟩
  refine s61 T1 (by rw [List.length_append, by4_len]; omega) (fun h2 T2 E2 => ⟨⟨T2.1, a0⟩, ?_⟩)
  refine s61 T2 (by rw [List.length_append, List.length_append, by4_len, by4_len]; omega) (fun h3 T3 E3 => ⟨⟨T3.1, a0⟩, ?_⟩)
  refine s61 T3 (by rw [List.length_append, List.length_append, List.length_append, by4_len, by4_len, by4_len]; omega) (fun h4 T4 E4 => ⟨⟨T4.1, a0⟩, ?_⟩)
  refine s61 T4 (by rw [List.length_append, List.length_append, List.length_append, List.length_append, by4_len, by4_len, by4_len, by4_len]; omega) (fun h5 T5 E5 => ⟨⟨T5.1, a0⟩, ?_⟩)
  have h10 := T5.2.2.2.2.2.2.2.2.1
  rw [List.length_append, List.length_append, List.length_append, List.length_append, List.length_append, by4_len, by4_len, by4_len, by4_len, by4_len] at h10
  rw [h10]
  refine K h5 ?_ ((((E1.tr E2).tr E3).tr E4).tr E5)
  rw [show l ++ (by4 x1 ++ by4 x2 ++ by4 x3 ++ by4 x4 ++ by4 x5) = l ++ by4 x1 ++ by4 x2 ++ by4 x3 ++ by4 x4 ++ by4 x5 from by simp only [List.append_assoc]]
  exact T5
theorem s63 {d a t n : Nat} {l : List Int32} {h : PH} {Q : Int32 → PH → Prop} (T : TP h a t l) (hn : n ≤ l.length) (K : ∀ h1, TP h1 a t (l.take n) → TPs h h1 a t → Q (Int32.ofNat n) h1) : CI (d + 1) 63 [.ref a, .int (Int32.ofNat n)] h Q := by
  obtain ⟨t1, t2, t3, t4, t5, t6, t7, t8, t9, t10, t11⟩ := T
  have a0 : ¬ a = 0 := by omega
  have hat : ¬ a = t := fun e => by rw [e, t4] at t1; cases t1
  have hlen : (l.take n).length = n := by rw [List.length_take]; omega
  rw [e63, if_neg (i_neg (by omega)), t9, if_neg (by rw [i_lt (by omega) (by omega)]; omega)]
  refine ⟨⟨t1, a0⟩, ⟨t1, t2⟩, K _ ⟨t1, t2, t3, t4, t5, t6, t7, t8, ?_, by omega, fun i hi => ?_⟩ ⟨rfl, rfl, rfl, rfl, rfl, fun b j n1 n2 => ?_⟩⟩
  · rw [wi_im, if_pos ⟨rfl, rfl⟩, hlen]
  · rw [hlen] at hi
    rw [wi_im, if_neg (fun q => hat q.1.symm), t11 i (by omega)]
    simp only [List.getD, List.getElem?_take]
    rw [if_pos hi]
  · rw [wi_im, if_neg n1]
