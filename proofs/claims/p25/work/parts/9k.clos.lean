/-! What is in: closure. -/
def cls (nd : Nat → Nat) (dr i m : Nat) : Nat := bif m.testBit i then m ||| an (nd i) dr else m
def clr (nd : Nat → Nat) (dr : Nat) : Nat → Nat → Nat → Nat
  | 0, _, m => m
  | k + 1, i, m => clr nd dr k (i + 1) (cls nd dr i m)
def clo (nd : Nat → Nat) (dr n : Nat) : Nat → Nat → Nat
  | 0, m => m
  | r + 1, m => clo nd dr n r (clr nd dr n 0 m)
/-- a library's clauses as rows of bits -/
def LD (g : PH) (n : Nat) (nd br af : Nat → Nat) (om : Nat) : Prop := n ≤ 7 ∧ 0 < n ∧ p_im g 1034 8 = Int32.ofNat n ∧ p_im g 1034 10 = Int32.ofNat om ∧ om < 2 ^ n ∧
  ∀ c, c < n → (p_im g (1047 + c) 2 = Int32.ofNat (nd c) ∧ nd c < 2 ^ n) ∧ (p_im g (1047 + c) 3 = Int32.ofNat (br c) ∧ br c < 2 ^ n) ∧ p_im g (1047 + c) 4 = Int32.ofNat (af c) ∧ af c < 2 ^ n
section CLOP
variable {nd : Nat → Nat} {dr n : Nat}
theorem cls_lt {i m : Nat} (hm : m < 2 ^ n) (hd : nd i < 2 ^ n) : cls nd dr i m < 2 ^ n := by
  unfold cls
  cases m.testBit i
  · exact hm
  · exact Nat.or_lt_two_pow hm (an_lt hd)
theorem cls_sub {i m : Nat} : Sub m (cls nd dr i m) := by
  intro j hj
  unfold cls
  cases m.testBit i
  · exact hj
  · show (m ||| an (nd i) dr).testBit j = true
    rw [Nat.testBit_or, hj]; rfl
theorem clr_lt (hd : ∀ i, i < n → nd i < 2 ^ n) : ∀ (k i m : Nat), i + k ≤ n → m < 2 ^ n → clr nd dr k i m < 2 ^ n := by
  intro k
  induction k with
  | zero => intro i m _ hm; exact hm
  | succ k ih => intro i m hk hm; exact ih (i + 1) _ (by omega) (cls_lt hm (hd i (by omega)))
theorem clr_sub : ∀ (k i m : Nat), Sub m (clr nd dr k i m) := by
  intro k
  induction k with
  | zero => intro i m; exact Sub.rf
  | succ k ih => intro i m; exact cls_sub.tr (ih (i + 1) _)
/-- a round that changes nothing -/
theorem clr_fix : ∀ (k i m : Nat), clr nd dr k i m = m → ∀ j, i ≤ j → j < i + k → m.testBit j = true → Sub (an (nd j) dr) m := by
  intro k
  induction k with
  | zero => intro i m _ j h1 h2; omega
  | succ k ih =>
    intro i m e j h1 h2 hj
    have e : clr nd dr k (i + 1) (cls nd dr i m) = m := e
    have e1 : cls nd dr i m = m := by
      refine Sub.as ?_ cls_sub
      have := clr_sub (nd := nd) (dr := dr) k (i + 1) (cls nd dr i m)
      rwa [e] at this
    by_cases z : j = i
    · subst z
      intro b hb
      unfold cls at e1
      rw [hj] at e1
      have e1 : m ||| an (nd j) dr = m := e1
      rw [← e1, Nat.testBit_or, hb, Bool.or_true]
    · rw [e1] at e
      exact ih (i + 1) m e j (by omega) (by omega) hj
theorem sub_and {a b : Nat} (A : Sub a b) : a &&& b = a := by
  apply Nat.eq_of_testBit_eq
  intro i
  rw [Nat.testBit_and]
  by_cases z : a.testBit i = true
  · rw [z, A i z]; rfl
  · rw [Bool.not_eq_true] at z; rw [z]; rfl
theorem pop_le7 {m : Nat} : pop m ≤ 7 := by
  have h : ∀ x, x % 2 ≤ 1 := fun x => by omega
  have h1 := h m; have h2 := h (m / 2); have h3 := h (m / 4); have h4 := h (m / 8); have h5 := h (m / 16); have h6 := h (m / 32); have h7 := h (m / 64)
  unfold pop
  omega
theorem clo_lt (hd : ∀ i, i < n → nd i < 2 ^ n) : ∀ (r m : Nat), m < 2 ^ n → clo nd dr n r m < 2 ^ n := by
  intro r
  induction r with
  | zero => intro m hm; exact hm
  | succ r ih => intro m hm; exact ih _ (clr_lt hd n 0 m (by omega) hm)
theorem clo_sub : ∀ (r m : Nat), Sub m (clo nd dr n r m) := by
  intro r
  induction r with
  | zero => intro m; exact Sub.rf
  | succ r ih => intro m; exact (clr_sub n 0 m).tr (ih _)
theorem clo_fix (hn : n ≤ 7) (hd : ∀ i, i < n → nd i < 2 ^ n) : ∀ (r m : Nat), m < 2 ^ n → clr nd dr n 0 (clo nd dr n r m) = clo nd dr n r m ∨ r + pop m ≤ pop (clo nd dr n r m) := by
  intro r
  induction r with
  | zero => intro m hm; right; show 0 + pop m ≤ pop m; omega
  | succ r ih =>
    intro m hm
    have hm1 := clr_lt (dr := dr) hd n 0 m (by omega) hm
    by_cases z : m = clr nd dr n 0 m
    · have key : ∀ q, clo nd dr n q m = m := by
        intro q
        induction q with
        | zero => rfl
        | succ q iq => show clo nd dr n q (clr nd dr n 0 m) = m; rw [← z]; exact iq
      left
      rw [key]; exact z.symm
    · have hp := pop_sub m (p128 hn hm) _ (p128 hn hm1) (sub_and (clr_sub n 0 m)) z
      rcases ih _ hm1 with q | q
      · exact Or.inl q
      · right
        show r + 1 + pop m ≤ pop (clo nd dr n r (clr nd dr n 0 m))
        omega
theorem clo_closed (hn : n ≤ 7) (hd : ∀ i, i < n → nd i < 2 ^ n) {m : Nat} (hm : m < 2 ^ n) : ∀ j, (clo nd dr n 16 m).testBit j = true → Sub (an (nd j) dr) (clo nd dr n 16 m) := by
  intro j hj
  have hl := clo_lt (dr := dr) hd 16 m hm
  rcases clo_fix (dr := dr) hn hd 16 m hm with q | q
  · exact clr_fix n 0 _ q j (Nat.zero_le _) (by have := bit_lt hl hj; omega) hj
  · have := pop_le7 (m := clo nd dr n 16 m); omega
/-- all that is in is wanted, or needed by what is in -/
def Jst (nd : Nat → Nat) (dr w m : Nat) : Prop := ∀ i, m.testBit i = true → w.testBit i = true ∨ ∃ j, m.testBit j = true ∧ (an (nd j) dr).testBit i = true
theorem cls_jst {w i m : Nat} (J : Jst nd dr w m) : Jst nd dr w (cls nd dr i m) := by
  intro b hb
  by_cases z : m.testBit b = true
  · rcases J b z with q | ⟨j, q1, q2⟩
    · exact Or.inl q
    · exact Or.inr ⟨j, cls_sub j q1, q2⟩
  · by_cases y : m.testBit i = true
    · have e : cls nd dr i m = m ||| an (nd i) dr := by unfold cls; rw [y]; rfl
      rw [e, Nat.testBit_or] at hb
      rw [Bool.not_eq_true] at z
      rw [z, Bool.false_or] at hb
      exact Or.inr ⟨i, cls_sub i y, hb⟩
    · have e : cls nd dr i m = m := by unfold cls; rw [Bool.not_eq_true] at y; rw [y]; rfl
      rw [e] at hb
      exact absurd hb z
theorem clr_jst {w : Nat} : ∀ (k i m : Nat), Jst nd dr w m → Jst nd dr w (clr nd dr k i m) := by
  intro k
  induction k with
  | zero => intro i m J; exact J
  | succ k ih => intro i m J; exact ih (i + 1) _ (cls_jst J)
theorem clo_jst {w : Nat} : ∀ (r m : Nat), Jst nd dr w m → Jst nd dr w (clo nd dr n r m) := by
  intro r
  induction r with
  | zero => intro m J; exact J
  | succ r ih => intro m J; exact ih _ (clr_jst n 0 m J)
end CLOP
section CLOM
variable {d L n om dr : Nat} {xs : Nat → Int32} {g h : PH} {nd br af : Nat → Nat}
theorem LIB.cl (B : LIB L xs g h) {i : Nat} (hi : i < 16) : ((p_kR (p_kd h (p_rm h 1034 3)) = true ∧ ¬ p_rm h 1034 3 = 0) ∧ p_in (Int32.ofNat i) (p_ln h (p_rm h 1034 3))) ∧ p_rm h (p_rm h 1034 3) (Int32.ofNat i).toNatClampNeg = 1047 + i ∧ (p_kd h (1047 + i) = 6 ∧ ¬ 1047 + i = 0) := by
  obtain ⟨-, g2, g3, g4⟩ := B.2.2.2.1
  rw [B.2.2.1.2.2.1, g2, g3, i_nat (by omega)]
  exact ⟨⟨⟨by decide, by decide⟩, i_in hi (by decide)⟩, (g4 i hi).1, (g4 i hi).2, by omega⟩
theorem LIB.lb (B : LIB L xs g h) : p_kd h 1034 = 2 ∧ ¬ 1034 = 0 := ⟨B.2.2.1.1, by decide⟩
theorem l145i {r : Nat} {Q : Option Value → PH → Prop} (B : LIB L xs g h) (V : LD g n nd br af om) : ∀ (k i m : Nat), i + k = n → m < 2 ^ n → (wp (d + 1) 145 4 [.val (.ref 1034), .unset, .val (.int (Int32.ofNat dr)), .val (.int (Int32.ofNat (clr nd dr k i m))), .val (.int (Int32.ofNat (r + 1))), .unset] [] h Q) →
    wp (d + 1) 145 9 [.val (.ref 1034), .unset, .val (.int (Int32.ofNat dr)), .val (.int (Int32.ofNat m)), .val (.int (Int32.ofNat r)), .val (.int (Int32.ofNat i))] [] h Q := by
  obtain ⟨v1, v2, v3, v4, v5, v6⟩ := V
  intro k
  induction k with
  | zero =>
    intro i m hk hm K
    rw [r145_9, B.im 1034 (by decide) (by decide), v3, if_neg (by rw [i_lt (by omega) (by omega)]; omega), i_ofNat1, i_add]
    exact ⟨B.lb, K⟩
  | succ k ih =>
    intro i m hk hm K
    have hi : i < 16 := by omega
    obtain ⟨c1, c2, c3⟩ := B.cl hi
    obtain ⟨⟨n1, n2⟩, -⟩ := v6 i (by omega)
    rw [r145_9, B.im 1034 (by decide) (by decide), v3, if_pos (by rw [i_lt (by omega) (by omega)]; omega)]
    refine ⟨B.lb, s144 (p128 v1 hm) hi ?_⟩
    have K : wp (d + 1) 145 4 [.val (.ref 1034), .unset, .val (.int (Int32.ofNat dr)), .val (.int (Int32.ofNat (clr nd dr k (i + 1) (cls nd dr i m)))), .val (.int (Int32.ofNat (r + 1))), .unset] [] h Q := K
    unfold cls at K
    cases hb : m.testBit i with
    | false =>
      rw [hb] at K
      rw [if_pos (by decide), r145_29, i_ofNat1, i_add]
      exact ih (i + 1) m (by omega) hm K
    | true =>
      rw [hb] at K
      rw [if_neg (by decide), c2, B.im (1047 + i) (by omega) (by omega), n1, i_an (p128 v1 n2), i_or, r145_29, i_ofNat1, i_add]
      exact ⟨B.lb, c1, c3, ih (i + 1) _ (by omega) (Nat.or_lt_two_pow hm (an_lt n2)) K⟩
theorem l145 {Q : Option Value → PH → Prop} (B : LIB L xs g h) (V : LD g n nd br af om) : ∀ (k r m : Nat), r + k = 16 → m < 2 ^ n → Q (some (.int (Int32.ofNat (clo nd dr n k m)))) h →
    wp (d + 1) 145 4 [.val (.ref 1034), .unset, .val (.int (Int32.ofNat dr)), .val (.int (Int32.ofNat m)), .val (.int (Int32.ofNat r)), .unset] [] h Q := by
  intro k
  induction k with
  | zero =>
    intro r m hk hm K
    rw [r145_4, if_neg (by rw [show (16 : Int32) = Int32.ofNat 16 from rfl, i_lt (by omega) (by decide)]; omega)]
    exact K
  | succ k ih =>
    intro r m hk hm K
    rw [r145_4, if_pos (by rw [show (16 : Int32) = Int32.ofNat 16 from rfl, i_lt (by omega) (by decide)]; omega)]
    exact l145i B V n 0 m (by omega) hm (ih (r + 1) _ (by omega) (clr_lt (fun i hi => (V.2.2.2.2.2 i hi).1.2) n 0 m (by omega) hm) K)
theorem s145 {m : Nat} {Q : Int32 → PH → Prop} (B : LIB L xs g h) (V : LD g n nd br af om) (hm : m < 2 ^ n) (K : Q (Int32.ofNat (clo nd dr n 16 m)) h) : CI (d + 2) 145 [.ref 1034, .int (Int32.ofNat m), .int (Int32.ofNat dr)] h Q := by
  rw [e145]
  exact l145 (d := d) B V 16 0 m (by omega) hm K
end CLOM
