/-! The row of tokens. -/
/-- no room is used; numbers change at Wi alone, references at Wr alone -/
def FR (Wi Wr : Nat → Prop) (h h1 : PH) : Prop := p_nx h1 = p_nx h ∧ p_us h1 = p_us h ∧ p_kd h1 = p_kd h ∧ p_ln h1 = p_ln h ∧ (∀ a, ¬ Wi a → ∀ j, p_im h1 a j = p_im h a j) ∧ ∀ a, ¬ Wr a → ∀ j, p_rm h1 a j = p_rm h a j
section FRS
variable {Wi Wr Vi Vr : Nat → Prop} {h h1 h2 : PH}
theorem FR.rf : FR Wi Wr h h := ⟨rfl, rfl, rfl, rfl, fun _ _ _ => rfl, fun _ _ _ => rfl⟩
theorem FR.tr (A : FR Wi Wr h h1) (B : FR Wi Wr h1 h2) : FR Wi Wr h h2 := ⟨B.1.trans A.1, B.2.1.trans A.2.1, B.2.2.1.trans A.2.2.1, B.2.2.2.1.trans A.2.2.2.1, fun a ha j => (B.2.2.2.2.1 a ha j).trans (A.2.2.2.2.1 a ha j), fun a ha j => (B.2.2.2.2.2 a ha j).trans (A.2.2.2.2.2 a ha j)⟩
theorem FR.up (A : FR Wi Wr h h1) (hi : ∀ a, Wi a → Vi a) (hr : ∀ a, Wr a → Vr a) : FR Vi Vr h h1 := ⟨A.1, A.2.1, A.2.2.1, A.2.2.2.1, fun a ha => A.2.2.2.2.1 a (fun q => ha (hi a q)), fun a ha => A.2.2.2.2.2 a (fun q => ha (hr a q))⟩
theorem FR.wi {a i : Nat} (v : Int32) (ha : Wi a) : FR Wi Wr h (p_wi h a i v) := ⟨rfl, rfl, rfl, rfl, fun x hx j => by rw [wi_im, if_neg (fun q : x = a ∧ j = i => hx (by rw [q.1]; exact ha))], fun _ _ _ => rfl⟩
theorem FR.wr {a i : Nat} (v : Nat) (ha : Wr a) : FR Wi Wr h (p_wr h a i v) := ⟨rfl, rfl, rfl, rfl, fun _ _ _ => rfl, fun x hx j => by rw [wr_rm, if_neg (fun q : x = a ∧ j = i => hx (by rw [q.1]; exact ha))]⟩
theorem FR.ext (A : FR Wi Wr h h1) : Ext h h1 (fun a => Wi a ∨ Wr a) := ⟨by rw [A.1]; exact Nat.le_refl _, by rw [A.2.1]; exact Nat.le_refl _, fun a _ => by rw [A.2.2.1, A.2.2.2.1]; exact ⟨rfl, rfl⟩, fun a _ hn => ⟨A.2.2.2.2.1 a (fun q => hn (Or.inl q)), A.2.2.2.2.2 a (fun q => hn (Or.inr q))⟩⟩
theorem FR.kd (A : FR Wi Wr h h1) : p_kd h1 = p_kd h := A.2.2.1
theorem FR.ln (A : FR Wi Wr h h1) : p_ln h1 = p_ln h := A.2.2.2.1
theorem FR.im (A : FR Wi Wr h h1) {a : Nat} (ha : ¬ Wi a) (j : Nat) : p_im h1 a j = p_im h a j := A.2.2.2.2.1 a ha j
theorem FR.rm (A : FR Wi Wr h h1) {a : Nat} (ha : ¬ Wr a) (j : Nat) : p_rm h1 a j = p_rm h a j := A.2.2.2.2.2 a ha j
theorem CO.fr {L : Nat} {xs : Nat → Int32} (C : CO L xs h) (A : FR Wi Wr h h1) (hi : ∀ a, a < 1000 → ¬ Wi a) (hr : ∀ a, a < 1000 → ¬ Wr a) : CO L xs h1 := C.ext A.ext (fun a ha q => q.elim (hi a ha) (hr a ha))
end FRS
theorem TXT.of {tx : List Nat} {h h1 : PH} (T : TXT tx h) (hk : p_kd h1 = p_kd h) (hl : p_ln h1 = p_ln h) (hr : p_rm h1 1036 0 = p_rm h 1036 0) (hi : p_im h1 1036 1 = p_im h 1036 1) (hj : ∀ j, p_im h1 1037 j = p_im h 1037 j) : TXT tx h1 := by
  obtain ⟨t1, t2, t3, t4, t5, t6, t7, t8⟩ := T
  exact ⟨by rw [hk, t1], by rw [hr, t2], by rw [hk, t3], by rw [hl, t4], by rw [hi, t5], t6, t7, fun i h2 => by rw [hj, t8 i h2]⟩
/-- the rows of the tokens -/
def TOKS (h : PH) : Prop := p_kd h 1036 = 4 ∧ p_rm h 1036 2 = 1038 ∧ p_rm h 1036 3 = 1039 ∧ p_rm h 1036 4 = 1040 ∧ p_rm h 1036 5 = 1041 ∧ p_kd h 1038 = 310 ∧ p_ln h 1038 = 601 ∧ p_kd h 1039 = 100 ∧ p_ln h 1039 = 601 ∧ p_kd h 1040 = 100 ∧ p_ln h 1040 = 601 ∧ p_kd h 1041 = 100 ∧ p_ln h 1041 = 601
theorem TOKS.fr {Wi Wr : Nat → Prop} {h h1 : PH} (O : TOKS h) (A : FR Wi Wr h h1) (hr : ¬ Wr 1036) : TOKS h1 := by
  unfold TOKS
  rw [A.kd, A.ln, A.rm hr, A.rm hr, A.rm hr, A.rm hr]
  exact O
/-- what is written while tokens are read -/
def wT (a : Nat) : Prop := a = 1036 ∨ a = 1037 ∨ a = 1039 ∨ a = 1040 ∨ a = 1041
def wTr (a : Nat) : Prop := a = 1038
def tst (h : PH) (i k q l : Nat) (m : Int32) : PH := p_wi (p_wi (p_wi (p_wi (p_wr h 1038 i k) 1039 i (Int32.ofNat q)) 1040 i (Int32.ofNat l)) 1041 i m) 1036 6 (Int32.ofNat (i + 1))
theorem tst_fr (h : PH) (i k q l : Nat) (m : Int32) : FR wT wTr h (tst h i k q l m) :=
  ((((FR.wr (Wi := wT) (Wr := wTr) (a := 1038) k rfl).tr (FR.wi (a := 1039) _ (Or.inr (Or.inr (Or.inl rfl))))).tr (FR.wi (a := 1040) _ (Or.inr (Or.inr (Or.inr (Or.inl rfl)))))).tr (FR.wi (a := 1041) _ (Or.inr (Or.inr (Or.inr (Or.inr rfl)))))).tr (FR.wi (a := 1036) _ (Or.inl rfl))
theorem tst_txt {tx : List Nat} {h : PH} (T : TXT tx h) (i k q l : Nat) (m : Int32) : TXT tx (tst h i k q l m) := by
  have e : ∀ (h : PH) (a i : Nat) (v : Int32) (b j : Nat), b ≠ a ∨ j ≠ i → p_im (p_wi h a i v) b j = p_im h b j := fun h a i v b j hq => by rw [wi_im, if_neg (by omega)]
  refine T.of rfl rfl ?_ ?_ (fun j => ?_)
  · unfold tst
    rw [wi_rm, wi_rm, wi_rm, wi_rm, wr_rm, if_neg (by omega)]
  · unfold tst
    rw [e _ _ _ _ _ _ (Or.inr (by decide)), e _ _ _ _ _ _ (Or.inl (by decide)), e _ _ _ _ _ _ (Or.inl (by decide)), e _ _ _ _ _ _ (Or.inl (by decide)), wr_im]
  · unfold tst
    rw [e _ _ _ _ _ _ (Or.inl (by decide)), e _ _ _ _ _ _ (Or.inl (by decide)), e _ _ _ _ _ _ (Or.inl (by decide)), e _ _ _ _ _ _ (Or.inl (by decide)), wr_im]
theorem tst_rm (h : PH) (i k q l : Nat) (m : Int32) (j : Nat) : p_rm (tst h i k q l m) 1038 j = if j = i then k else p_rm h 1038 j := by
  unfold tst
  rw [wi_rm, wi_rm, wi_rm, wi_rm, wr_rm]
  by_cases hj : j = i
  · rw [if_pos ⟨rfl, hj⟩, if_pos hj]
  · rw [if_neg (fun z => hj z.2), if_neg hj]
theorem tst_im (h : PH) (i k q l : Nat) (m : Int32) (j : Nat) : p_im (tst h i k q l m) 1039 j = (if j = i then Int32.ofNat q else p_im h 1039 j) ∧ p_im (tst h i k q l m) 1040 j = (if j = i then Int32.ofNat l else p_im h 1040 j) ∧ p_im (tst h i k q l m) 1041 j = (if j = i then m else p_im h 1041 j) ∧ p_im (tst h i k q l m) 1036 6 = Int32.ofNat (i + 1) := by
  have e : ∀ (h : PH) (a i : Nat) (v : Int32) (b j : Nat), b ≠ a → p_im (p_wi h a i v) b j = p_im h b j := fun h a i v b j hq => by rw [wi_im, if_neg (fun z => hq z.1)]
  have g : ∀ (h : PH) (a i : Nat) (v : Int32) (j : Nat), p_im (p_wi h a i v) a j = if j = i then v else p_im h a j := fun h a i v j => by
    rw [wi_im]
    by_cases hj : j = i
    · rw [if_pos ⟨rfl, hj⟩, if_pos hj]
    · rw [if_neg (fun z => hj z.2), if_neg hj]
  unfold tst
  refine ⟨?_, ?_, ?_, ?_⟩
  · rw [e _ _ _ _ _ _ (by decide), e _ _ _ _ _ _ (by decide), e _ _ _ _ _ _ (by decide), g, wr_im]
  · rw [e _ _ _ _ _ _ (by decide), e _ _ _ _ _ _ (by decide), g, e _ _ _ _ _ _ (by decide), wr_im]
  · rw [e _ _ _ _ _ _ (by decide), g, e _ _ _ _ _ _ (by decide), e _ _ _ _ _ _ (by decide), wr_im]
  · rw [g, if_pos rfl]
theorem n76 {d L i q l k : Nat} {xs : Nat → Int32} {m : Int32} {tx : List Nat} {h : PH} {Q : Option Value → PH → Prop} (C : CO L xs h) (O : TOKS h) (T : TXT tx h) (hi : i ≤ 600) (hk : 1 ≤ k ∧ k ≤ 43) (hz : k ≠ 39 → m = 0)
    (hv : k = 39 → ∀ (h2 : PH) (Q1 : Int32 → PH → Prop), TXT tx h2 → Q1 m h2 → CI (d + 7) 75 [.ref 1036, .int (Int32.ofNat q), .int (Int32.ofNat l)] h2 Q1)
    (K : wp (d + 7) 76 27 [.val (.ref 1036), .unset, .unset, .val (.int (Int32.ofNat (q + l))), .val (.int (bif Nat.beq k 41 || Nat.beq k 42 then 1 else 0)), .val (.int (Int32.ofNat (i + 1))), .unset, .unset] [] (tst h i k q l m) Q) :
    wp (d + 7) 76 53 [.val (.ref 1036), .unset, .unset, .val (.int (Int32.ofNat q)), .unset, .val (.int (Int32.ofNat i)), .val (.int (Int32.ofNat l)), .unset] [.ref k] h Q := by
  obtain ⟨o1, o2, o3, o4, o5, o6, o7, o8, o9, o10, o11, o12, o13⟩ := O
  have kk : ∀ j, 1 ≤ j → j ≤ 43 → p_kd h j = 16 := fun j h1 h2 => by
    rw [(C.2 j (by omega)).1]
    have := (by decide : ∀ k, k < 43 → c_kd (k + 1) = 16) (j - 1) (by omega)
    rw [show j - 1 + 1 = j from by omega] at this
    exact this
  have hin : p_in (Int32.ofNat i) 601 := i_in (by omega) (by decide)
  have k0 : ¬ k = 0 := by omega
  rw [r76_53, o2, o6, o7, kk k hk.1 hk.2, i_nat (by omega)]
  have f3 : p_rm (p_wr h 1038 i k) 1036 3 = 1039 := by rw [wr_rm, if_neg (by omega), o3]
  have g1 : p_kd (p_wr h 1038 i k) = p_kd h := rfl
  have g2 : p_ln (p_wr h 1038 i k) = p_ln h := rfl
  rw [f3, g1, g2, o1, o8, o9]
  have f4 : p_rm (p_wi (p_wr h 1038 i k) 1039 i (Int32.ofNat q)) 1036 4 = 1040 := by rw [wi_rm, wr_rm, if_neg (by omega), o4]
  have g3 : p_kd (p_wi (p_wr h 1038 i k) 1039 i (Int32.ofNat q)) = p_kd h := rfl
  have g4 : p_ln (p_wi (p_wr h 1038 i k) 1039 i (Int32.ofNat q)) = p_ln h := rfl
  rw [f4, g3, g4, o1, o10, o11]
  refine ⟨⟨rfl, by decide⟩, ⟨⟨⟨by decide, by decide⟩, rfl, k0⟩, hin⟩, ⟨rfl, by decide⟩, ⟨⟨rfl, by decide⟩, hin⟩, ⟨rfl, by decide⟩, ⟨⟨rfl, by decide⟩, hin⟩, ?_⟩
  have f5 : p_rm (p_wi (p_wi (p_wr h 1038 i k) 1039 i (Int32.ofNat q)) 1040 i (Int32.ofNat l)) 1036 5 = 1041 := by rw [wi_rm, wi_rm, wr_rm, if_neg (by omega), o5]
  have g5 : p_kd (p_wi (p_wi (p_wr h 1038 i k) 1039 i (Int32.ofNat q)) 1040 i (Int32.ofNat l)) = p_kd h := rfl
  have g6 : p_ln (p_wi (p_wi (p_wr h 1038 i k) 1039 i (Int32.ofNat q)) 1040 i (Int32.ofNat l)) = p_ln h := rfl
  have T3 : TXT tx (p_wi (p_wi (p_wr h 1038 i k) 1039 i (Int32.ofNat q)) 1040 i (Int32.ofNat l)) := T.of rfl rfl (by rw [wi_rm, wi_rm, wr_rm, if_neg (by omega)]) (by rw [wi_im, if_neg (by omega), wi_im, if_neg (by omega), wr_im]) (fun j => by rw [wi_im, if_neg (by omega), wi_im, if_neg (by omega), wr_im])
  have g7 : p_kd (p_wi (p_wi (p_wi (p_wr h 1038 i k) 1039 i (Int32.ofNat q)) 1040 i (Int32.ofNat l)) 1041 i m) = p_kd h := rfl
  have g8 : p_kd (tst h i k q l m) = p_kd h := rfl
  have fin : wp (d + 7) 76 81 [.val (.ref 1036), .unset, .unset, .val (.int (Int32.ofNat q)), .unset, .val (.int (Int32.ofNat i)), .val (.int (Int32.ofNat l)), .val (.ref k)] [.int m, .int (Int32.ofNat i), .ref 1041] (p_wi (p_wi (p_wr h 1038 i k) 1039 i (Int32.ofNat q)) 1040 i (Int32.ofNat l)) Q := by
    rw [r76_81, g5, g6, o12, o13, i_nat (by omega), g7, o1, i_ofNat1, i_add]
    show ((100 = 100 ∧ 1000 ≤ 1041) ∧ p_in (Int32.ofNat i) 601) ∧ (4 = 4 ∧ 1000 ≤ 1036) ∧ ((k = 0 ∨ p_kd (tst h i k q l m) k = 16) ∧ (41 = 0 ∨ p_kd (tst h i k q l m) 41 = 16)) ∧ (if k = 41 then wp (d + 7) 76 93 _ [] (tst h i k q l m) Q else ((k = 0 ∨ p_kd (tst h i k q l m) k = 16) ∧ (42 = 0 ∨ p_kd (tst h i k q l m) 42 = 16)) ∧ (if k = 42 then wp (d + 7) 76 93 _ [] (tst h i k q l m) Q else wp (d + 7) 76 96 _ _ (tst h i k q l m) Q))
    rw [g8, kk k hk.1 hk.2, kk 41 (by decide) (by decide), kk 42 (by decide) (by decide)]
    have cl : (bif Nat.beq k 41 || Nat.beq k 42 then (1 : Int32) else 0) = 1 → wp (d + 7) 76 93 [.val (.ref 1036), .unset, .unset, .val (.int (Int32.ofNat q)), .unset, .val (.int (Int32.ofNat i)), .val (.int (Int32.ofNat l)), .unset] [] (tst h i k q l m) Q := fun e => by
      rw [e] at K
      rw [r76_93, r76_96, i_add, i_ofNat1, i_add]
      exact K
    refine ⟨⟨⟨rfl, by decide⟩, hin⟩, ⟨rfl, by decide⟩, ⟨Or.inr rfl, Or.inr rfl⟩, ?_⟩
    split
    · rename_i e
      exact cl (by rw [e]; rfl)
    · rename_i e1
      refine ⟨⟨Or.inr rfl, Or.inr rfl⟩, ?_⟩
      split
      · rename_i e
        exact cl (by rw [e]; rfl)
      · rename_i e2
        rw [beq_no e1, beq_no e2] at K
        rw [r76_96, i_add, i_ofNat1, i_add]
        exact K
  rw [r76_69, f5, g5, o1, kk k hk.1 hk.2, kk 39 (by decide) (by decide)]
  refine ⟨⟨rfl, by decide⟩, ⟨Or.inr rfl, Or.inr rfl⟩, ?_⟩
  split
  · rename_i e
    exact ⟨⟨rfl, by decide⟩, hv e _ _ T3 fin⟩
  · rename_i e
    have e0 := hz e
    rw [← e0]
    exact fin
/-- where the lexeme i begins -/
def lst (X : List Lx) (i : Nat) : Nat := (lbn (X.take i)).length
def lnum (x : Lx) : Int32 := bif Nat.beq x.1 39 then Int32.ofNat x.2.1 else 0
/-- what the rows say of the first lexemes -/
def TKP (X : List Lx) (h : PH) : Prop := ∀ i, i < X.length → p_rm h 1038 i = (X.getD i (0, 0, 0)).1 ∧ p_im h 1039 i = Int32.ofNat (lst X i) ∧ p_im h 1040 i = Int32.ofNat (lwn (X.getD i (0, 0, 0))).length ∧ p_im h 1041 i = lnum (X.getD i (0, 0, 0))
theorem lst_app {X Y : List Lx} {i : Nat} (hi : i ≤ X.length) : lst (X ++ Y) i = lst X i := by
  unfold lst
  rw [List.take_append_of_le_length hi]
theorem TKP.snoc {X : List Lx} {x : Lx} {h : PH} (P : TKP X h) : TKP (X ++ [x]) (tst h X.length x.1 (lbn X).length (lwn x).length (lnum x)) := by
  intro i hi
  rw [List.length_append] at hi
  have hi : i < X.length + 1 := hi
  obtain ⟨a1, a2, a3, -⟩ := tst_im h X.length x.1 (lbn X).length (lwn x).length (lnum x) i
  rw [tst_rm, a1, a2, a3]
  by_cases hz : i = X.length
  · subst hz
    have e : (X ++ [x]).getD X.length (0, 0, 0) = x := by
      have := getD_app2 (l := X) (r := [x]) (d := ((0, 0, 0) : Lx)) (j := 0)
      rw [Nat.add_zero] at this
      rw [this]; rfl
    rw [if_pos rfl, if_pos rfl, if_pos rfl, if_pos rfl, e, lst_app (Nat.le_refl _)]
    unfold lst
    rw [List.take_length]
    exact ⟨rfl, rfl, rfl, rfl⟩
  · rw [if_neg hz, if_neg hz, if_neg hz, if_neg hz, getD_app1 (by omega), lst_app (by omega)]
    exact P i (by omega)
/-- the row of tokens of the lexemes X -/
def TKN (X : List Lx) (h : PH) : Prop := TKP X h ∧ p_rm h 1038 X.length = 41 ∧ p_im h 1036 6 = Int32.ofNat (X.length + 1) ∧ X.length ≤ 600
theorem lwn_ne {x : Lx} (h : okx x) : ∃ c w, lwn x = c :: w ∧ c ≠ 32 ∧ c ≠ 10 := by
  rcases okx_cls h with ⟨-, -, -, ⟨c, w, e, c1, c2⟩, -⟩ | ⟨f1, f2, e⟩ | ⟨f1, f2, e⟩ | ⟨-, -, -, -, ⟨c, e, g1, g2, g3, g4, -⟩, -⟩
  · exact ⟨c, w, e, by omega, by omega⟩
  · obtain ⟨d1, d2, -⟩ := dgn_dig f2
    cases hd : dgn x.2.1 with
    | nil => exact absurd hd d1
    | cons c w =>
      have := d2 c (by rw [hd]; exact List.mem_cons_self)
      exact ⟨c, w, by rw [e, hd], by omega, by omega⟩
  · exact ⟨39, _, e, by decide, by decide⟩
  · exact ⟨c, [], e, g3, g4⟩
def blk (b : Nat) : List Nat := bif Nat.beq b 1 then [32] else []
theorem tlok_hd {x : Lx} {r : List Lx} (h : tlok (x :: r)) : okx x ∧ tlok r ∧ nxt x.1 (blk x.2.2 ++ lbn r) := by
  cases r with
  | nil =>
    refine ⟨h.1, trivial, 32, [], ?_, fun _ => rfl, fun _ => by decide⟩
    rw [h.2]; rfl
  | cons y r =>
    obtain ⟨h1, h2, h3⟩ := h
    refine ⟨h1, h3, ?_⟩
    rcases h2 with h2 | ⟨h2, h4⟩
    · exact ⟨32, lbn (y :: r), by rw [h2]; rfl, fun _ => rfl, fun _ => by decide⟩
    · have oy : okx y := by
        cases r with
        | nil => exact h3.1
        | cons z r => exact h3.1
      have sg : ∀ c, (kw1 y.1 = true ∨ ks1 y.1 = true) → ktx (y.1 - 1) = [c] → al c = false → c ≠ 61 → nxt x.1 (blk x.2.2 ++ lbn (y :: r)) := fun c q1 q2 q3 q4 => by
        obtain ⟨t, m, b⟩ := y
        have e : lwn (t, m, b) = [c] := by rw [(lwn_kw (kw1_lt q1).2).1]; exact q2
        refine ⟨c, (bif Nat.beq b 1 then [32] else []) ++ lbn r, ?_, fun _ => q3, fun _ => q4⟩
        rw [h2]
        show (lwn (t, m, b) ++ _) ++ lbn r = _
        rw [e]; rfl
      have nu : y.1 = 39 → fal x.1 = false → nxt x.1 (blk x.2.2 ++ lbn (y :: r)) := fun q1 q2 => by
        rcases okx_cls oy with ⟨-, g, -⟩ | ⟨f1, f2, e⟩ | ⟨g, -⟩ | ⟨-, -, g, -⟩
        · exact absurd q1 g
        · obtain ⟨d1, d2, -⟩ := dgn_dig f2
          cases hd : dgn y.2.1 with
          | nil => exact absurd hd d1
          | cons c w =>
            have := d2 c (by rw [hd]; exact List.mem_cons_self)
            refine ⟨c, w ++ ((bif Nat.beq y.2.2 1 then [32] else []) ++ lbn r), ?_, fun q => (by rw [q2] at q; cases q), fun _ => by omega⟩
            rw [h2]
            show (lwn y ++ _) ++ lbn r = _
            rw [e, hd, List.append_assoc]; rfl
        · rw [q1] at g; cases g
        · exact absurd q1 g
      unfold nxb at h4
      simp only [Bool.or_eq_true, Bool.and_eq_true, Nat.beq_eq] at h4
      rcases h4 with (((⟨a, b | b⟩ | ⟨a, b⟩) | ⟨a, b | b⟩) | ⟨a, b⟩) | ⟨a, b⟩
      · exact sg 42 (by rw [b]; decide) (by rw [b]; decide) rfl (by decide)
      · exact sg 62 (by rw [b]; decide) (by rw [b]; decide) rfl (by decide)
      · exact nu b (by rw [a]; rfl)
      · exact sg 45 (by rw [b]; decide) (by rw [b]; decide) rfl (by decide)
      · exact sg 59 (by rw [b]; decide) (by rw [b]; decide) rfl (by decide)
      · exact nu b (by rw [a]; rfl)
      · exact nu b (by rw [a]; rfl)
theorem okx_rng {x : Lx} (h : okx x) : 1 ≤ x.1 ∧ x.1 ≤ 43 ∧ x.1 ≠ 41 ∧ x.1 ≠ 42 := by
  rcases h with ⟨h, -⟩ | ⟨h, -⟩ | ⟨h, -⟩ | ⟨h, -⟩
  · rw [h]; decide
  · rw [h]; decide
  · rw [h]; decide
  · have q : ∀ t, t < 44 → (kw1 t = true ∨ ks1 t = true) → 1 ≤ t ∧ t ≤ 43 ∧ t ≠ 41 ∧ t ≠ 42 := by decide
    exact q _ (kw1_lt h).1 h
theorem l76 {d L : Nat} {xs : Nat → Int32} {tx : List Nat} {X : List Lx} {Q : Option Value → PH → Prop} (hX : X.length ≤ 600) (htx : tx = lbn X) : ∀ (Y X0 : List Lx) (b p : Nat) (h : PH), X = X0 ++ Y → tlok Y → At tx p (blk b ++ lbn Y) → p + (blk b).length = (lbn X0).length → CO L xs h → TOKS h → TXT tx h → TKP X0 h →
    (∀ h1, FR wT wTr h h1 → TXT tx h1 → TKN X h1 → Q none h1) →
    wp (d + 7) 76 27 [.val (.ref 1036), .unset, .unset, .val (.int (Int32.ofNat p)), .val (.int 0), .val (.int (Int32.ofNat X0.length)), .unset, .unset] [] h Q := by
  intro Y
  induction Y with
  | nil =>
    intro X0 b p h e hY A ep C O T P K
    rw [List.append_nil] at e
    subst e
    have A : At tx p ((bif Nat.beq b 1 then [32] else []) ++ []) := A
    have t1 := T.1
    have t5 := T.2.2.2.2.1
    have t6 := T.2.2.2.2.2.1
    have ep : p + (bif Nat.beq b 1 then 1 else 0) = tx.length := by
      rw [htx, ← ep]
      unfold blk
      cases Nat.beq b 1 <;> rfl
    rw [r76_27, if_neg (by rw [show (600 : Int32) = Int32.ofNat 600 from rfl, i_lt (by decide) (by omega)]; omega), if_pos rfl]
    refine ⟨⟨t1, by decide⟩, s65 T (Nat.beq b 1) A (fun c r q => by cases q) ?_⟩
    rw [ep]
    have fin : wp (d + 7) 76 49 [.val (.ref 1036), .unset, .unset, .val (.int (Int32.ofNat tx.length)), .unset, .val (.int (Int32.ofNat X.length)), .val (.int (Int32.ofNat 1)), .unset] [] h Q := by
      rw [r76_49]
      refine ⟨⟨t1, by decide⟩, ?_⟩
      rw [e74]
      refine ⟨⟨t1, by decide⟩, s64e T (Nat.le_refl _) (by omega) ?_⟩
      rw [if_pos (by decide)]
      refine n76 (m := 0) C O T hX (by decide) (fun _ => rfl) (fun z => by cases z) ?_
      show wp (d + 7) 76 27 [_, _, _, _, .val (.int 1), _, _, _] [] _ Q
      have fr := tst_fr h X.length 41 tx.length 1 0
      have T1 := tst_txt T X.length 41 tx.length 1 0
      obtain ⟨-, -, -, a4⟩ := tst_im h X.length 41 tx.length 1 0 0
      have k := K _ fr T1 ⟨fun i hi => ?_, by rw [tst_rm, if_pos rfl], a4, hX⟩
      · rw [r76_27]
        split
        · exact k
        · rw [if_neg (by decide)]; exact k
      · obtain ⟨a1, a2, a3, -⟩ := tst_im h X.length 41 tx.length 1 0 i
        rw [tst_rm, a1, a2, a3, if_neg (by omega), if_neg (by omega), if_neg (by omega), if_neg (by omega)]
        exact P i hi
    refine ⟨⟨t1, by decide⟩, ?_⟩
    rw [e71]
    refine ⟨⟨t1, by decide⟩, s64e T (Nat.le_refl _) (by omega) ?_⟩
    rw [e66, if_pos (by decide)]
    refine ⟨Or.inl rfl, ?_⟩
    rw [if_pos rfl, e67, if_pos (by decide)]
    refine ⟨Or.inl rfl, ?_⟩
    rw [if_pos rfl, if_neg (by decide), if_neg (by decide), if_neg (by decide), r71_40, r71_41, if_pos rfl]
    show (if _ then _ else wp (d + 7) 76 49 [_, _, _, _, _, _, .val (.int (Int32.ofNat 1)), _] [] h Q)
    split
    · refine ⟨⟨t1, by decide⟩, ?_⟩
      rw [t5, if_neg (by rw [i_lt (by omega) (by omega)]; omega)]
      exact fin
    · exact fin
  | cons x r ih =>
    intro X0 b p h e hY A ep C O T P K
    have A : At tx p ((bif Nat.beq b 1 then [32] else []) ++ lbn (x :: r)) := A
    have t1 := T.1
    have t6 := T.2.2.2.2.2.1
    obtain ⟨ok, tr, N⟩ := tlok_hd hY
    obtain ⟨c, w, ew, w1, w2⟩ := lwn_ne ok
    have hlen : X0.length < 600 := by rw [e, List.length_append, List.length_cons] at hX; omega
    have el : lbn (x :: r) = lwn x ++ (blk x.2.2 ++ lbn r) := by
      show (lwn x ++ _) ++ lbn r = _
      rw [List.append_assoc]; rfl
    have eb : (bif Nat.beq b 1 then [32] else []).length = (bif Nat.beq b 1 then 1 else 0) := by cases Nat.beq b 1 <;> rfl
    have ep2 : p + (bif Nat.beq b 1 then 1 else 0) = (lbn X0).length := by rw [← ep, ← eb]; rfl
    have A2 := A.skip
    rw [eb, ep2, el] at A2
    have hq := A2.le
    rw [List.length_append] at hq
    rw [r76_27, if_neg (by rw [show (600 : Int32) = Int32.ofNat 600 from rfl, i_lt (by decide) (by omega)]; omega), if_pos rfl]
    refine ⟨⟨t1, by decide⟩, s65 T (Nat.beq b 1) A (fun c2 r2 q => ?_) ?_⟩
    · rw [el, ew] at q
      injection q with q1 q2
      rw [← q1]; exact ⟨w1, w2⟩
    rw [ep2]
    refine ⟨⟨t1, by decide⟩, s71 T ok A2 N ?_⟩
    rw [if_neg (by rw [show (600 : Int32) = Int32.ofNat 600 from rfl, i_eq (by omega) (by decide)]; omega), r76_49]
    have rng := okx_rng ok
    refine ⟨⟨t1, by decide⟩, s74 C T ok A2 ?_⟩
    refine n76 (m := lnum x) C O T (by omega) ⟨rng.1, rng.2.1⟩ (fun z => by unfold lnum; rw [beq_no z]; rfl) (fun z h2 Q1 T2 k => ?_) ?_
    · have em : lwn x = dgn x.2.1 := by
        rcases okx_cls ok with ⟨-, g, -⟩ | ⟨-, -, e⟩ | ⟨g, -⟩ | ⟨-, -, g, -⟩
        · exact absurd z g
        · exact e
        · rw [z] at g; cases g
        · exact absurd z g
      have hm : x.2.1 < 100 := by
        rcases okx_cls ok with ⟨-, g, -⟩ | ⟨-, e, -⟩ | ⟨g, -⟩ | ⟨-, -, g, -⟩
        · exact absurd z g
        · exact e
        · rw [z] at g; cases g
        · exact absurd z g
      have en : lnum x = Int32.ofNat x.2.1 := by unfold lnum; rw [z]; rfl
      rw [en] at k
      rw [em]
      rw [em] at A2
      exact s75 T2 hm A2 k
    · rw [show (bif Nat.beq x.1 41 || Nat.beq x.1 42 then (1 : Int32) else 0) = 0 from by rw [beq_no rng.2.2.1, beq_no rng.2.2.2]; rfl]
      have fr := tst_fr h X0.length x.1 (lbn X0).length (lwn x).length (lnum x)
      have hx : ∀ a, a < 1000 → ¬ wT a := fun a ha q => by unfold wT at q; omega
      have hxr : ∀ a, a < 1000 → ¬ wTr a := fun a ha q => by unfold wTr at q; omega
      have z := ih (X0 ++ [x]) x.2.2 ((lbn X0).length + (lwn x).length) _ (by rw [e, List.append_assoc]; rfl) tr A2.skip ?_ (C.fr fr hx hxr) (O.fr fr (by unfold wTr; decide)) (tst_txt T X0.length x.1 (lbn X0).length (lwn x).length (lnum x)) P.snoc (fun h1 F1 T1 N1 => K h1 (fr.tr F1) T1 N1)
      · rw [List.length_append] at z
        exact z
      · rw [lbn_app, List.length_append, show lbn [x] = lwn x ++ blk x.2.2 from by show (lwn x ++ _) ++ [] = _; rw [List.append_nil]; rfl, List.length_append]
        omega
