/-! Names get their meanings: words are compared. -/
def lx (X : List Lx) (i : Nat) : Lx := X.getD i (0, 0, 0)
/-- the rows of tokens, but what they mean -/
def TKW (X : List Lx) (h : PH) : Prop := TXT (lbn X) h ∧ (∀ i, i < X.length → p_rm h 1038 i = (lx X i).1 ∧ p_im h 1039 i = Int32.ofNat (lst X i) ∧ p_im h 1040 i = Int32.ofNat (lwn (lx X i)).length) ∧ p_rm h 1038 X.length = 41 ∧ p_im h 1036 6 = Int32.ofNat (X.length + 1) ∧ X.length ≤ 600
theorem TKW.of {X : List Lx} {h : PH} (T : TXT (lbn X) h) (N : TKN X h) : TKW X h := ⟨T, fun i hi => ⟨(N.1 i hi).1, (N.1 i hi).2.1, (N.1 i hi).2.2.1⟩, N.2⟩
theorem TXT.fr {tx : List Nat} {Wi Wr : Nat → Prop} {h h1 : PH} (T : TXT tx h) (F : FR Wi Wr h h1) (i1 : ¬ Wi 1036) (i2 : ¬ Wi 1037) (r1 : ¬ Wr 1036) : TXT tx h1 := T.of F.kd F.ln (F.rm r1 0) (F.im i1 1) (fun j => F.im i2 j)
theorem TKW.fr {X : List Lx} {Wi Wr : Nat → Prop} {h h1 : PH} (W : TKW X h) (F : FR Wi Wr h h1) (i1 : ¬ Wi 1036) (i2 : ¬ Wi 1037) (i3 : ¬ Wi 1039) (i4 : ¬ Wi 1040) (r1 : ¬ Wr 1036) (r2 : ¬ Wr 1038) : TKW X h1 := by
  obtain ⟨T, a, b, c, d⟩ := W
  exact ⟨T.fr F i1 i2 r1, fun i hi => by rw [F.rm r2, F.im i3, F.im i4]; exact a i hi, by rw [F.rm r2, b], by rw [F.im i1, c], d⟩
/-- the word of a lexeme stands where it begins -/
theorem At.tok {X : List Lx} {i : Nat} (hi : i < X.length) : ∃ u, At (lbn X) (lst X i) (lwn (lx X i) ++ u) := by
  have e : X = X.take i ++ (X[i] :: X.drop (i + 1)) := by rw [← List.drop_eq_getElem_cons hi, List.take_append_drop]
  have el : lx X i = X[i] := by unfold lx; rw [List.getD_eq_getElem?_getD, List.getElem?_eq_getElem hi]; rfl
  refine ⟨blk X[i].2.2 ++ lbn (X.drop (i + 1)), lbn (X.take i), ?_, rfl⟩
  have e2 : lbn X = lbn (X.take i) ++ lbn (X[i] :: X.drop (i + 1)) := by rw [← lbn_app, ← e]
  rw [e2, el]
  show _ ++ ((lwn X[i] ++ _) ++ _) = _
  rw [List.append_assoc]; rfl
section NMS
variable {d L i j : Nat} {xs : Nat → Int32} {X : List Lx} {h : PH} {Q : Int32 → PH → Prop}
theorem s79w {Q : Nat → PH → Prop} (O : TOKS h) (C : CO L xs h) (W : TKW X h) (hi : i ≤ X.length) (kX : kOK X) (K : Q (knd (X.drop i)) h) : CR (d + 1) 79 [.ref 1036, .int (Int32.ofNat i)] h Q := by
  obtain ⟨o1, o2, o3, o4, o5, o6, o7, -⟩ := O
  obtain ⟨-, w1, w2, w3, w4⟩ := W
  have hk : 1 ≤ knd (X.drop i) ∧ knd (X.drop i) ≤ 43 := kX.knd (pre := X.take i) (List.take_append_drop i X).symm
  have e : p_rm h 1038 i = knd (X.drop i) := by
    by_cases hz : i < X.length
    · rw [(w1 i hz).1]
      unfold lx
      rw [List.drop_eq_getElem_cons hz, List.getD_eq_getElem?_getD, List.getElem?_eq_getElem hz]
      rfl
    · obtain rfl : i = X.length := by omega
      rw [w2, List.drop_length]; rfl
  rw [e79, if_neg (i_neg (by omega)), w3, if_pos (by rw [i_lt (by omega) (by omega)]; omega), o2, o6, o7, i_nat (by omega), e, if_neg (by omega), (C.en hk.1 hk.2).1]
  exact ⟨⟨o1, by decide⟩, ⟨o1, by decide⟩, ⟨⟨by decide, by decide⟩, i_in (by omega) (by decide)⟩, Or.inr (by decide), ⟨o1, by decide⟩, ⟨⟨by decide, by decide⟩, i_in (by omega) (by decide)⟩, K⟩
theorem s109 (O : TOKS h) (W : TKW X h) (hi : i < X.length) (K : Q (Int32.ofNat (lwn (lx X i)).length) h) : CI (d + 1) 109 [.ref 1036, .int (Int32.ofNat i)] h Q := by
  obtain ⟨o1, -, -, o4, -, -, -, -, -, o10, o11, -⟩ := O
  obtain ⟨-, w1, w2, w3, w4⟩ := W
  rw [e109, if_neg (i_neg (by omega)), w3, if_pos (by rw [i_lt (by omega) (by omega)]; omega), o4, o10, o11, i_nat (by omega), (w1 i hi).2.2]
  exact ⟨⟨o1, by decide⟩, ⟨o1, by decide⟩, ⟨⟨by decide, by decide⟩, i_in (by omega) (by decide)⟩, K⟩
theorem s110 (O : TOKS h) (W : TKW X h) (hi : i < X.length) (K : Q (Int32.ofNat (lst X i)) h) : CI (d + 1) 110 [.ref 1036, .int (Int32.ofNat i)] h Q := by
  obtain ⟨o1, -, o3, -, -, -, -, o8, o9, -⟩ := O
  obtain ⟨-, w1, w2, w3, w4⟩ := W
  rw [e110, if_neg (i_neg (by omega)), w3, if_pos (by rw [i_lt (by omega) (by omega)]; omega), o3, o8, o9, i_nat (by omega), (w1 i hi).2.1]
  exact ⟨⟨o1, by decide⟩, ⟨o1, by decide⟩, ⟨⟨by decide, by decide⟩, i_in (by omega) (by decide)⟩, K⟩
/-- a name: its first sign, which letter -/
def isN (x : Lx) (c k : Nat) : Prop := x.1 = 38 ∧ x.2.1 = c * 32 + k ∧ k < 26 ∧ c < 128
theorem isN.lw {x : Lx} {c k : Nat} (h : isN x c k) : lwn x = [c, 97 + k] := by
  obtain ⟨t, m, b⟩ := x
  obtain ⟨h1, h2, h3, -⟩ := h
  have h1 : t = 38 := h1
  have h2 : m = c * 32 + k := h2
  subst h1 h2
  show [(c * 32 + k) / 32, 97 + (c * 32 + k) % 32] = _
  rw [show (c * 32 + k) / 32 = c from by omega, show (c * 32 + k) % 32 = k from by omega]
/-- two names: are they the same? -/
theorem s111 {c1 k1 c2 k2 : Nat} (O : TOKS h) (W : TKW X h) (hi : i < X.length) (hj : j < X.length) (n1 : isN (lx X i) c1 k1) (n2 : isN (lx X j) c2 k2) (K1 : c1 = c2 → k1 = k2 → Q 1 h) (K0 : ¬ (c1 = c2 ∧ k1 = k2) → Q 0 h) : CI (d + 2) 111 [.ref 1036, .int (Int32.ofNat i), .int (Int32.ofNat j)] h Q := by
  have o1 := O.1
  have T := W.1
  obtain ⟨u1, A1⟩ := At.tok hi
  obtain ⟨u2, A2⟩ := At.tok hj
  have l1 := n1.lw
  have l2 := n2.lw
  have z1 := A1.le
  have z2 := A2.le
  rw [l1] at A1
  rw [l2] at A2
  have t6 := T.2.2.2.2.2.1
  have k26 := n1.2.2
  have k262 := n2.2.2
  rw [e111]
  refine ⟨⟨o1, by decide⟩, s109 O W hi ⟨⟨o1, by decide⟩, s109 O W hj ?_⟩⟩
  rw [l1, l2, show [c1, 97 + k1].length = 2 from rfl, show [c2, 97 + k2].length = 2 from rfl, if_pos rfl, r111_13, if_pos (by decide), i_ofNat0]
  refine ⟨⟨o1, by decide⟩, s110 O W hi ⟨⟨o1, by decide⟩, ?_⟩⟩
  rw [i_add]
  refine s64 (j := 0) T A1 (Nat.succ_pos _) ⟨⟨o1, by decide⟩, s110 O W hj ⟨⟨o1, by decide⟩, ?_⟩⟩
  rw [i_add]
  refine s64 (j := 0) T A2 (Nat.succ_pos _) ?_
  show (if Int32.ofNat c1 = Int32.ofNat c2 then _ else _)
  refine if_eqn (k := c2) rfl (by omega) (by omega) (fun q => ?_) (fun q => ⟨Or.inl rfl, K0 (fun z => q z.1)⟩)
  rw [i_ofNat1, i_add, r111_13, if_pos (by decide)]
  refine ⟨⟨o1, by decide⟩, s110 O W hi ⟨⟨o1, by decide⟩, ?_⟩⟩
  rw [i_add]
  refine s64 (j := 0 + 1) T A1 (Nat.succ_lt_succ (Nat.succ_pos _)) ⟨⟨o1, by decide⟩, s110 O W hj ⟨⟨o1, by decide⟩, ?_⟩⟩
  rw [i_add]
  refine s64 (j := 0 + 1) T A2 (Nat.succ_lt_succ (Nat.succ_pos _)) ?_
  show (if Int32.ofNat (97 + k1) = Int32.ofNat (97 + k2) then _ else _)
  refine if_eqn (k := 97 + k2) rfl (by omega) (by omega) (fun q2 => ?_) (fun q2 => ⟨Or.inl rfl, K0 (fun z => q2 (by rw [z.2]))⟩)
  rw [i_ofNat1, i_add, r111_13, if_neg (by decide)]
  exact ⟨Or.inr rfl, K1 q (by omega)⟩
/-- the library's object -/
def LBO (h : PH) : Prop := p_kd h 1034 = 2 ∧ p_rm h 1034 1 = 1036 ∧ p_rm h 1034 3 = 1045 ∧ p_rm h 1034 4 = 1063 ∧ p_rm h 1034 5 = 1064 ∧ p_rm h 1034 6 = 1065 ∧ p_kd h 1063 = 100 ∧ p_ln h 1063 = 10 ∧ p_kd h 1064 = 100 ∧ p_ln h 1064 = 10 ∧ p_kd h 1065 = 100 ∧ p_ln h 1065 = 24
theorem LBO.fr {Wi Wr : Nat → Prop} {h h1 : PH} (O : LBO h) (F : FR Wi Wr h h1) (r1 : ¬ Wr 1034) : LBO h1 := by
  unfold LBO
  rw [F.kd, F.ln, F.rm r1, F.rm r1, F.rm r1, F.rm r1, F.rm r1]
  exact O
theorem l112 {a N c v : Nat} {g : Nat → Nat} {Q : Option Value → PH → Prop} (O : TOKS h) (B : LBO h) (W : TKW X h) (hj : j < X.length) (nj : isN (lx X j) c v) (ka : p_kd h a = 100) (a0 : ¬ a = 0) (hN : N ≤ p_ln h a) (hl : p_ln h a ≤ 24) (H : ∀ t, t < N → ∃ q, q < X.length ∧ p_im h a t = Int32.ofNat q ∧ isN (lx X q) c (g t))
    (K1 : ∀ t, t < N → g t = v → (∀ s, s < t → g s ≠ v) → Q (some (.int (Int32.ofNat t))) h) (K0 : (∀ t, t < N → g t ≠ v) → Q (some (.int (-1))) h) :
    ∀ (r t : Nat), t + r = N → (∀ s, s < t → g s ≠ v) → wp (d + 2) 112 2 [.val (.ref 1034), .val (.int (Int32.ofNat j)), .val (.ref a), .val (.int (Int32.ofNat N)), .val (.int (Int32.ofNat t))] [] h Q := by
  obtain ⟨b1, b2, -⟩ := B
  intro r
  induction r with
  | zero =>
    intro t e hs
    obtain rfl : t = N := by omega
    rw [r112_2, if_neg (by rw [i_lt (by omega) (by omega)]; omega)]
    exact K0 hs
  | succ r ih =>
    intro t e hs
    obtain ⟨q, q1, q2, q3⟩ := H t (by omega)
    rw [r112_2, if_pos (by rw [i_lt (by omega) (by omega)]; omega), ka, if_pos (by rw [i_lt (by omega) (by omega)]; omega), b2, i_nat (by omega), q2]
    refine ⟨⟨by decide, a0⟩, ⟨b1, by decide⟩, ⟨⟨by decide, a0⟩, i_in (by omega) (by omega)⟩, ⟨O.1, by decide⟩, s111 O W q1 hj q3 nj (fun _ z => ?_) (fun z => ?_)⟩
    · rw [if_neg (by decide)]
      exact K1 t (by omega) z hs
    · rw [if_pos rfl, i_ofNat1, i_add]
      refine ih (t + 1) (by omega) (fun s hs2 => ?_)
      by_cases hz : s < t
      · exact hs s hz
      · rw [show s = t from by omega]
        exact fun w => z ⟨rfl, w⟩
theorem s112 {a N c v : Nat} {g : Nat → Nat} (O : TOKS h) (B : LBO h) (W : TKW X h) (hj : j < X.length) (nj : isN (lx X j) c v) (ka : p_kd h a = 100) (a0 : ¬ a = 0) (hN : N ≤ p_ln h a) (hl : p_ln h a ≤ 24) (H : ∀ t, t < N → ∃ q, q < X.length ∧ p_im h a t = Int32.ofNat q ∧ isN (lx X q) c (g t))
    (K1 : ∀ t, t < N → g t = v → (∀ s, s < t → g s ≠ v) → Q (Int32.ofNat t) h) (K0 : (∀ t, t < N → g t ≠ v) → Q (-1) h) : CI (d + 3) 112 [.ref 1034, .int (Int32.ofNat j), .ref a, .int (Int32.ofNat N)] h Q := by
  rw [e112]
  exact l112 (d := d) (g := g) (Q := fun v h1 => onI v (fun x => Q x h1)) O B W hj nj ka a0 hN hl H K1 K0 N 0 (by omega) (fun s hs => absurd hs (Nat.not_lt_zero _))
/-- how many clauses begin among the first i tokens -/
def cn (X : List Lx) (i : Nat) : Nat := ((X.take i).filter (fun x => Nat.beq x.1 2)).length
theorem cn_succ {X : List Lx} {i : Nat} (hi : i < X.length) : cn X (i + 1) = cn X i + (bif Nat.beq (lx X i).1 2 then 1 else 0) := by
  have el : lx X i = X[i] := by unfold lx; rw [List.getD_eq_getElem?_getD, List.getElem?_eq_getElem hi]; rfl
  unfold cn
  rw [List.take_succ_eq_append_getElem hi, List.filter_append, List.length_append, el]
  cases hb : Nat.beq X[i].1 2 <;> simp [List.filter, hb]
/-- the clauses' names are in order -/
def NMC (X : List Lx) : Prop := ∀ i, i < X.length → (lx X i).1 = 2 → i + 1 < X.length ∧ isN (lx X (i + 1)) 99 (cn X i)
theorem l114 {o : Nat} {Q : Option Value → PH → Prop} (kX : kOK X) (C : CO L xs h) (O : TOKS h) (B : LBO h) (W : TKW X h) (M : NMC X) (hj : j < X.length) (nj : isN (lx X j) 99 o) (ho : o < cn X X.length) (K : Q (some (.int (Int32.ofNat o))) h) :
    ∀ (r i : Nat), i + r = X.length → cn X i ≤ o → wp (d + 2) 114 4 [.val (.ref 1034), .val (.int (Int32.ofNat j)), .val (.int (Int32.ofNat (cn X i))), .val (.int (Int32.ofNat i))] [] h Q := by
  obtain ⟨b1, b2, -⟩ := B
  have w3 := W.2.2.2.1
  have w4 := W.2.2.2.2
  have c2 := (C.en (k := 2) (by decide) (by decide)).1
  intro r
  induction r with
  | zero =>
    intro i e hc
    obtain rfl : i = X.length := by omega
    omega
  | succ r ih =>
    intro i e hc
    have hi : i < X.length := by omega
    have ek : knd (X.drop i) = (lx X i).1 := by
      unfold lx
      rw [List.drop_eq_getElem_cons hi, List.getD_eq_getElem?_getD, List.getElem?_eq_getElem hi]; rfl
    have kk : 1 ≤ knd (X.drop i) ∧ knd (X.drop i) ≤ 43 := kX.knd (pre := X.take i) (List.take_append_drop i X).symm
    have cs := cn_succ hi
    rw [r114_4, b2, w3, if_pos (by rw [i_lt (by omega) (by omega)]; omega)]
    refine ⟨⟨b1, by decide⟩, ⟨O.1, by decide⟩, ⟨b1, by decide⟩, ⟨O.1, by decide⟩, s79w O C W (by omega) kX ⟨⟨Or.inr (C.en kk.1 kk.2).1, Or.inr c2⟩, ?_⟩⟩
    rw [ek] at kk ⊢
    split
    · rename_i z
      obtain ⟨m1, m2⟩ := M i hi z
      rw [b2, i_ofNat1, i_add]
      rw [z] at cs
      have cs : cn X (i + 1) = cn X i + 1 := cs
      refine ⟨⟨b1, by decide⟩, ⟨O.1, by decide⟩, s111 O W m1 hj m2 nj (fun _ y => ?_) (fun y => ?_)⟩
      · rw [if_neg (by decide), y]; exact K
      · rw [if_pos rfl, i_add, r114_26, i_ofNat1, i_add, ← cs]
        refine ih (i + 1) (by omega) ?_
        have : cn X i ≠ o := fun q => y ⟨rfl, q⟩
        omega
    · rename_i z
      rw [beq_no z] at cs
      have cs : cn X (i + 1) = cn X i := cs
      rw [r114_26, i_ofNat1, i_add, ← cs]
      exact ih (i + 1) (by omega) (by omega)
/-- which clause has the name -/
theorem s114 {o : Nat} (kX : kOK X) (C : CO L xs h) (O : TOKS h) (B : LBO h) (W : TKW X h) (M : NMC X) (hj : j < X.length) (nj : isN (lx X j) 99 o) (ho : o < cn X X.length) (K : Q (Int32.ofNat o) h) : CI (d + 3) 114 [.ref 1034, .int (Int32.ofNat j)] h Q := by
  rw [e114]
  exact l114 (d := d) (Q := fun v h1 => onI v (fun x => Q x h1)) kX C O B W M hj nj ho K X.length 0 (by omega) (by show 0 ≤ o; omega)
/-- a token is given a meaning -/
theorem s117 {v : Int32} {Q : PH → Prop} (O : TOKS h) (W : TKW X h) (hi : i ≤ X.length) (K : Q (p_wi h 1041 i v)) : CV (d + 1) 117 [.ref 1036, .int (Int32.ofNat i), .int v] h Q := by
  obtain ⟨o1, -, -, -, o5, -, -, -, -, -, -, o12, o13⟩ := O
  obtain ⟨-, w1, w2, w3, w4⟩ := W
  rw [e117, if_neg (i_neg (by omega)), w3, if_pos (by rw [i_lt (by omega) (by omega)]; omega), o5, o12, o13, i_nat (by omega)]
  exact ⟨⟨o1, by decide⟩, ⟨o1, by decide⟩, ⟨⟨rfl, by decide⟩, i_in (by omega) (by decide)⟩, K⟩
theorem s97w (O : TOKS h) (W : TKW X h) (hi : i ≤ X.length) (K : Q (p_im h 1041 i) h) : CI (d + 1) 97 [.ref 1036, .int (Int32.ofNat i)] h Q := by
  obtain ⟨o1, -, -, -, o5, -, -, -, -, -, -, o12, o13⟩ := O
  obtain ⟨-, w1, w2, w3, w4⟩ := W
  rw [e97, if_neg (i_neg (by omega)), w3, if_pos (by rw [i_lt (by omega) (by omega)]; omega), o5, o12, o13, i_nat (by omega)]
  exact ⟨⟨o1, by decide⟩, ⟨o1, by decide⟩, ⟨⟨by decide, by decide⟩, i_in (by omega) (by decide)⟩, K⟩
end NMS
