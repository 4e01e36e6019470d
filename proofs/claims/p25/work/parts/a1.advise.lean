/-! Advice, and the fewest to be gone. -/
def bob (br : Nat → Nat) (m : Nat) : Nat → Nat → Nat → Nat
  | 0, _, a => a
  | k + 1, i, a => bob br m k (i + 1) (if m.testBit i = true ∧ ¬ br i &&& m = 0 then a ||| (br i &&& m ||| 2 ^ i) else a)
def nda (nd : Nat → Nat) (m : Nat) : Nat → Nat → Nat → Nat
  | 0, _, a => a
  | k + 1, i, a => nda nd m k (i + 1) (a ||| (if m.testBit i = true then nd i else 0))
def pcf (nd br : Nat → Nat) (n m : Nat) : Bool := Nat.beq (an (nda nd m n 0 0) m) 0 && Nat.beq (bob br m n 0 0) 0
def fre (om ch dr : Nat) : Nat := an (an om ch) dr
section ADV
variable {d L n nt ch dr om m nf c : Nat} {xs : Nat → Int32} {g h h1 : PH} {nd br af : Nat → Nat} {HX : Nat → List (Nat × Nat)} {fv : Nat → Int32} {Q : Int32 → PH → Prop}
theorem or0 {a b : Nat} (h : a ||| b = 0) : a = 0 ∧ b = 0 := by
  have h1 := @Nat.left_le_or a b
  have h2 := @Nat.right_le_or a b
  omega
theorem bob_lt (hb : ∀ i, i < n → br i < 2 ^ n) (hm : m < 2 ^ n) : ∀ (k i a : Nat), i + k ≤ n → a < 2 ^ n → bob br m k i a < 2 ^ n := by
  intro k
  induction k with
  | zero => intro i a _ ha; exact ha
  | succ k ih =>
    intro i a hk ha
    have hi : i < n := by omega
    refine ih (i + 1) _ (by omega) ?_
    split
    · exact Nat.or_lt_two_pow ha (Nat.or_lt_two_pow (Nat.lt_of_le_of_lt Nat.and_le_right hm) (Nat.pow_lt_pow_right (by decide) hi))
    · exact ha
theorem bob_sub : ∀ (k i a : Nat), Sub a m → Sub (bob br m k i a) m := by
  intro k
  induction k with
  | zero => intro i a ha; exact ha
  | succ k ih =>
    intro i a ha
    refine ih (i + 1) _ ?_
    split
    · rename_i z
      intro j hj
      rw [Nat.testBit_or, Nat.testBit_or, Nat.testBit_and, Nat.testBit_two_pow, Bool.or_eq_true, Bool.or_eq_true, Bool.and_eq_true, decide_eq_true_eq] at hj
      rcases hj with hj | hj | hj
      · exact ha j hj
      · exact hj.2
      · rw [← hj]; exact z.1
    · exact ha
theorem bob_0 : ∀ (k i a : Nat), bob br m k i a = 0 ↔ a = 0 ∧ ∀ j, i ≤ j → j < i + k → m.testBit j = true → br j &&& m = 0 := by
  intro k
  induction k with
  | zero => intro i a; exact ⟨fun h => ⟨h, fun j h1 h2 => by omega⟩, fun h => h.1⟩
  | succ k ih =>
    intro i a
    show bob br m k (i + 1) _ = 0 ↔ _
    rw [ih (i + 1) _]
    by_cases z : m.testBit i = true ∧ ¬ br i &&& m = 0
    · rw [if_pos z]
      constructor
      · intro h
        have := (or0 (or0 h.1).2).2
        have h2 : 0 < 2 ^ i := Nat.two_pow_pos i
        omega
      · intro h
        exact absurd (h.2 i (Nat.le_refl _) (by omega) z.1) z.2
    · rw [if_neg z]
      constructor
      · intro h
        refine ⟨h.1, fun j h1 h2 h3 => ?_⟩
        by_cases y : j = i
        · rw [y] at h3 ⊢
          by_cases q : br i &&& m = 0
          · exact q
          · exact absurd ⟨h3, q⟩ z
        · exact h.2 j (by omega) (by omega) h3
      · intro h
        exact ⟨h.1, fun j h1 h2 h3 => h.2 j (by omega) (by omega) h3⟩
theorem nda_lt (hd : ∀ i, i < n → nd i < 2 ^ n) : ∀ (k i a : Nat), i + k ≤ n → a < 2 ^ n → nda nd m k i a < 2 ^ n := by
  intro k
  induction k with
  | zero => intro i a _ ha; exact ha
  | succ k ih =>
    intro i a hk ha
    have hi : i < n := by omega
    refine ih (i + 1) _ (by omega) (Nat.or_lt_two_pow ha ?_)
    split
    · exact hd i hi
    · exact Nat.two_pow_pos n
theorem nda_sub : ∀ (k i a : Nat), Sub a m → (∀ j, i ≤ j → j < i + k → m.testBit j = true → Sub (nd j) m) → Sub (nda nd m k i a) m := by
  intro k
  induction k with
  | zero => intro i a ha _; exact ha
  | succ k ih =>
    intro i a ha h
    refine ih (i + 1) _ ?_ (fun j h1 h2 h3 => h j (by omega) (by omega) h3)
    intro j hj
    rw [Nat.testBit_or, Bool.or_eq_true] at hj
    rcases hj with hj | hj
    · exact ha j hj
    · by_cases z : m.testBit i = true
      · rw [if_pos z] at hj; exact h i (Nat.le_refl _) (by omega) z j hj
      · rw [if_neg z] at hj; simp at hj
theorem an_sub0 {a b : Nat} (ha : a < 128) (h : Sub a b) : an a b = 0 := by
  apply Nat.eq_of_testBit_eq
  intro i
  rw [an_bit ha, Nat.zero_testBit]
  by_cases z : a.testBit i = true
  · rw [z, h i z]; rfl
  · rw [Bool.not_eq_true] at z; rw [z]; rfl
theorem sub_an0 {a b : Nat} (ha : a < 128) (h : an a b = 0) : Sub a b := by
  intro i hi
  have := an_bit (b := b) (i := i) ha
  rw [h, Nat.zero_testBit, hi] at this
  cases hb : b.testBit i with
  | true => rfl
  | false => rw [hb] at this; exact absurd this (by decide)
theorem zs {a : Nat} : Sub 0 a := fun i hi => by simp at hi
/-- where all needs are in and no bars are, it is peaceful -/
theorem pcf_of (V : LD g n nd br af om) (h1 : ∀ j, j < n → m.testBit j = true → Sub (nd j) m) (h2 : ∀ j, j < n → m.testBit j = true → br j &&& m = 0) : pcf nd br n m = true := by
  have a1 : nda nd m n 0 0 < 2 ^ n := nda_lt (fun i hi => (V.2.2.2.2.2 i hi).1.2) n 0 0 (by omega) (Nat.two_pow_pos n)
  have a2 : an (nda nd m n 0 0) m = 0 := an_sub0 (p128 V.1 a1) (nda_sub n 0 0 zs (fun j _ hj hb => h1 j (by omega) hb))
  have a3 : bob br m n 0 0 = 0 := (bob_0 n 0 0).mpr ⟨rfl, fun j _ hj hb => h2 j (by omega) hb⟩
  unfold pcf
  rw [a2, a3]; rfl
theorem l185 {Q : Option Value → PH → Prop} (B : LIB L xs g h) (V : LD g n nd br af om) (hm : m < 2 ^ n) : ∀ (k i a : Nat), i + k = n → a < 2 ^ n → Q (some (.int (Int32.ofNat (bob br m k i a)))) h →
    wp (d + 1) 185 4 [.val (.ref 1034), .val (.int (Int32.ofNat m)), .val (.int (Int32.ofNat a)), .val (.int (Int32.ofNat i)), .unset] [] h Q := by
  obtain ⟨v1, v2, v3, v4, v5, v6⟩ := V
  intro k
  induction k with
  | zero =>
    intro i a hi ha K
    have e : i = n := by omega
    have n31 : n < 2147483648 := by omega
    have nn : ¬ n < n := by omega
    rw [r185_4, B.im 1034 (by decide) (by decide), v3, e, if_neg (by rw [i_lt n31 n31]; exact nn)]
    exact ⟨B.lb, K⟩
  | succ k ih =>
    intro i a hi ha K
    have i31 : i < 2147483648 := by omega
    have n31 : n < 2147483648 := by omega
    have i16 : i < 16 := by omega
    have hin : i < n := by omega
    have xa : 1034 ≤ 1047 + i := by omega
    have xb : 1047 + i < 1066 := by omega
    have ml := p128 v1 hm
    have K : Q (some (.int (Int32.ofNat (bob br m k (i + 1) (if m.testBit i = true ∧ ¬ br i &&& m = 0 then a ||| (br i &&& m ||| 2 ^ i) else a))))) h := K
    obtain ⟨c1, c2, c3⟩ := B.cl i16
    obtain ⟨-, ⟨b1, b2⟩, -⟩ := v6 i hin
    have go : ∀ a2, a2 < 2 ^ n → Q (some (.int (Int32.ofNat (bob br m k (i + 1) a2)))) h → wp (d + 1) 185 32 [.val (.ref 1034), .val (.int (Int32.ofNat m)), .val (.int (Int32.ofNat a2)), .val (.int (Int32.ofNat i)), .unset] [] h Q := fun a2 q1 q2 => by
      rw [r185_32, i_inc]
      exact ih (i + 1) a2 (by omega) q1 q2
    rw [r185_4, B.im 1034 (by decide) (by decide), v3, if_pos (by rw [i_lt i31 n31]; exact hin)]
    refine ⟨B.lb, s144 (d := d) ml i16 ?_⟩
    cases hb : m.testBit i with
    | false =>
      rw [hb, if_neg (fun q => absurd q.1 (by decide))] at K
      rw [if_pos (by decide), r185_21, if_pos rfl]
      exact go a ha K
    | true =>
      rw [hb] at K
      have bl : br i &&& m < 2 ^ n := Nat.lt_of_le_of_lt Nat.and_le_right hm
      have bl7 := p128 v1 bl
      have b31 : br i &&& m < 2147483648 := by omega
      rw [if_neg (by decide), c2, B.im _ xa xb, b1, i_and, r185_21]
      refine ⟨B.lb, c1, c3, ?_⟩
      have ez : (Int32.ofNat (br i &&& m) = 0) = (br i &&& m = 0) := i_eq b31 (by decide)
      by_cases y : br i &&& m = 0
      · rw [if_neg (fun q => q.2 y)] at K
        rw [if_pos (by rw [ez]; exact y)]
        exact go a ha K
      · rw [if_pos ⟨rfl, y⟩] at K
        rw [if_neg (by rw [ez]; exact y), sh1 i i16, i_or, i_or]
        exact go _ (Nat.or_lt_two_pow ha (Nat.or_lt_two_pow bl (Nat.pow_lt_pow_right (by decide) hin))) K
theorem s185 (B : LIB L xs g h) (V : LD g n nd br af om) (hm : m < 2 ^ n) (K : Q (Int32.ofNat (bob br m n 0 0)) h) : CI (d + 2) 185 [.ref 1034, .int (Int32.ofNat m)] h Q := by
  rw [e185]
  exact l185 (d := d) (Q := fun v h1 => onI v (fun x => Q x h1)) B V hm n 0 0 (Nat.zero_add _) (Nat.two_pow_pos n) K
theorem l186 {Q : Option Value → PH → Prop} (B : LIB L xs g h) (V : LD g n nd br af om) (hm : m < 2 ^ n) : ∀ (k i a : Nat), i + k = n → a < 2 ^ n → Q (some (.int (bi (Nat.beq (an (nda nd m k i a) m) 0 && Nat.beq (bob br m n 0 0) 0)))) h →
    wp (d + 3) 186 4 [.val (.ref 1034), .val (.int (Int32.ofNat m)), .val (.int (Int32.ofNat a)), .val (.int (Int32.ofNat i))] [] h Q := by
  obtain ⟨v1, v2, v3, v4, v5, v6⟩ := id V
  have ml := p128 v1 hm
  intro k
  induction k with
  | zero =>
    intro i a hi ha K
    have e : i = n := by omega
    have n31 : n < 2147483648 := by omega
    have nn : ¬ n < n := by omega
    have al := p128 v1 ha
    have al2 : an a m < 2 ^ 7 := an_lt (k := 7) al
    have a31 : an a m < 2147483648 := by omega
    have ez : (Int32.ofNat (an a m) = 0) = (an a m = 0) := i_eq a31 (by decide)
    have K : Q (some (.int (bi (Nat.beq (an a m) 0 && Nat.beq (bob br m n 0 0) 0)))) h := K
    rw [r186_4, B.im 1034 (by decide) (by decide), v3, e, if_neg (by rw [i_lt n31 n31]; exact nn), i_an al]
    refine ⟨B.lb, ?_⟩
    by_cases z : an a m = 0
    · rw [if_pos (by rw [ez]; exact z)]
      rw [z] at K
      refine ⟨B.lb, s185 (d := d + 1) B V hm ?_⟩
      have bl := p128 v1 (bob_lt (br := br) (fun i hi => (v6 i hi).2.1.2) hm n 0 0 (by omega) (Nat.two_pow_pos n))
      have b31 : bob br m n 0 0 < 2147483648 := by omega
      have ey : (Int32.ofNat (bob br m n 0 0) = 0) = (bob br m n 0 0 = 0) := i_eq b31 (by decide)
      by_cases y : bob br m n 0 0 = 0
      · rw [if_pos (by rw [ey]; exact y)]
        rw [y] at K
        exact ⟨Or.inr rfl, K⟩
      · rw [if_neg (by rw [ey]; exact y)]
        rw [show Nat.beq (bob br m n 0 0) 0 = false from Bool.eq_false_iff.mpr (fun q => y (Nat.eq_of_beq_eq_true q)), Bool.and_false] at K
        exact ⟨Or.inl rfl, K⟩
    · rw [if_neg (by rw [ez]; exact z)]
      rw [show Nat.beq (an a m) 0 = false from Bool.eq_false_iff.mpr (fun q => z (Nat.eq_of_beq_eq_true q)), Bool.false_and] at K
      exact ⟨Or.inl rfl, K⟩
  | succ k ih =>
    intro i a hi ha K
    have i31 : i < 2147483648 := by omega
    have n31 : n < 2147483648 := by omega
    have i16 : i < 16 := by omega
    have hin : i < n := by omega
    have xa : 1034 ≤ 1047 + i := by omega
    have xb : 1047 + i < 1066 := by omega
    have K : Q (some (.int (bi (Nat.beq (an (nda nd m k (i + 1) (a ||| (if m.testBit i = true then nd i else 0))) m) 0 && Nat.beq (bob br m n 0 0) 0)))) h := K
    obtain ⟨c1, c2, c3⟩ := B.cl i16
    obtain ⟨⟨b1, b2⟩, -⟩ := v6 i hin
    have go : ∀ a2, a ||| a2 < 2 ^ n → Q (some (.int (bi (Nat.beq (an (nda nd m k (i + 1) (a ||| a2)) m) 0 && Nat.beq (bob br m n 0 0) 0)))) h → wp (d + 3) 186 20 [.val (.ref 1034), .val (.int (Int32.ofNat m)), .unset, .val (.int (Int32.ofNat i))] [.int (Int32.ofNat a2), .int (Int32.ofNat a)] h Q := fun a2 q1 q2 => by
      rw [r186_20, i_inc, i_or]
      exact ih (i + 1) _ (by omega) q1 q2
    rw [r186_4, B.im 1034 (by decide) (by decide), v3, if_pos (by rw [i_lt i31 n31]; exact hin)]
    refine ⟨B.lb, s144 (d := d + 2) ml i16 ?_⟩
    cases hb : m.testBit i with
    | false =>
      rw [hb, if_neg (by decide)] at K
      rw [if_pos (by decide)]
      exact go 0 (by rw [Nat.or_zero]; exact ha) K
    | true =>
      rw [hb, if_pos rfl] at K
      rw [if_neg (by decide), c2, B.im _ xa xb, b1]
      exact ⟨B.lb, c1, c3, go _ (Nat.or_lt_two_pow ha b2) K⟩
theorem s186 (B : LIB L xs g h) (V : LD g n nd br af om) (hm : m < 2 ^ n) (K : Q (bi (pcf nd br n m)) h) : CI (d + 4) 186 [.ref 1034, .int (Int32.ofNat m)] h Q := by
  rw [e186]
  exact l186 (d := d) (Q := fun v h1 => onI v (fun x => Q x h1)) B V hm n 0 0 (Nat.zero_add _) (Nat.two_pow_pos n) K
theorem fre_lt (h : om < 2 ^ n) : fre om ch dr < 2 ^ n := an_lt (an_lt h)
theorem l187 {Q : Option Value → PH → Prop} (K0 : KNO g nf n nd br af om nt HX) (D : DES L xs g n nd af om nt HX fv ch dr h) (K : ∀ v, (v = -1 ∧ pcf nd br n (inM g n nd om fv ch dr) = false) ∨ (∃ q, v = Int32.ofNat q ∧ q < 2 ^ n ∧ Sub q (fre om ch dr)) → Q (some (.int v)) h) :
    ∀ (k p : Nat) (best w : Int32), p + k = fre om ch dr + 1 → ((best = -1 ∧ (0 < p → pcf nd br n (inM g n nd om fv ch dr) = false)) ∨ (∃ q, best = Int32.ofNat q ∧ q < 2 ^ n ∧ Sub q (fre om ch dr))) →
    wp (d + 5) 187 20 [.val (.ref 1000), .val (.int (Int32.ofNat (fre om ch dr))), .val (.int best), .val (.int w), .val (.int (Int32.ofNat p)), .unset, .unset] [] h Q := by
  have V := K0.1
  have fl := fre_lt (ch := ch) (dr := dr) V.2.2.2.2.1
  have fl7 : fre om ch dr < 128 := p128 V.1 fl
  have f31 : fre om ch dr < 2147483648 := by omega
  intro k
  induction k with
  | zero =>
    intro p best w hp I
    have e : p = fre om ch dr + 1 := by omega
    have p31 : p < 2147483648 := by omega
    have lt : fre om ch dr < p := by omega
    rw [r187_20, if_pos (by rw [i_lt f31 p31]; exact lt)]
    refine K best ?_
    rcases I with ⟨a, b⟩ | a
    · exact Or.inl ⟨a, b (by omega)⟩
    · exact Or.inr a
  | succ k ih =>
    intro p best w hp I
    have p31 : p < 2147483648 := by omega
    have nlt : ¬ fre om ch dr < p := by omega
    have p7 : p < 128 := by omega
    have go : ∀ best w, ((best = -1 ∧ (0 < p + 1 → pcf nd br n (inM g n nd om fv ch dr) = false)) ∨ (∃ q, best = Int32.ofNat q ∧ q < 2 ^ n ∧ Sub q (fre om ch dr))) → wp (d + 5) 187 59 [.val (.ref 1000), .val (.int (Int32.ofNat (fre om ch dr))), .val (.int best), .val (.int w), .val (.int (Int32.ofNat p)), .unset, .unset] [] h Q := fun b w q => by
      rw [r187_59, i_inc]
      exact ih (p + 1) b w (by omega) q
    have al2 : an p (fre om ch dr) < 2 ^ 7 := an_lt (k := 7) p7
    have a31 : an p (fre om ch dr) < 2147483648 := by omega
    have ez : (Int32.ofNat (an p (fre om ch dr)) = 0) = (an p (fre om ch dr) = 0) := i_eq a31 (by decide)
    have pn : p < 2 ^ n := by omega
    have k1 := D.k1
    rw [r187_20, if_neg (by rw [i_lt f31 p31]; exact nlt), i_an p7]
    by_cases z : an p (fre om ch dr) = 0
    · have sb := sub_an0 p7 z
      have wl : wnt ch dr om (hld g fv n) < 2 ^ n := wnt_lt D.2.2.2.1.1 (hld_lt g fv n)
      have wl2 : wnt ch dr om (hld g fv n) ||| p < 2 ^ n := Nat.or_lt_two_pow wl pn
      have il : clo nd dr n 16 (wnt ch dr om (hld g fv n) ||| p) < 2 ^ n := clo_lt (fun i hi => (V.2.2.2.2.2 i hi).1.2) 16 _ wl2
      rw [if_pos (by rw [ez]; exact z), D.r3, D.r8, D.dn.2.1, i_or, D.2.2.1.2]
      refine ⟨k1, k1, ⟨D.ct.1, by decide⟩, k1, D.1.1.lb, s145 (d := d + 3) D.1.1 V wl2 ⟨k1, ?_⟩⟩
      rw [D.r3]
      refine ⟨D.1.1.lb, s173 (d := d + 3) D.1.1 V il ⟨k1, ?_⟩⟩
      rw [D.r3]
      refine ⟨D.1.1.lb, s186 (d := d + 1) D.1.1 V il ?_⟩
      have take : wp (d + 5) 187 55 [.val (.ref 1000), .val (.int (Int32.ofNat (fre om ch dr))), .unset, .unset, .val (.int (Int32.ofNat p)), .unset, .val (.int (bsum (wof g) (clo nd dr n 16 (wnt ch dr om (hld g fv n) ||| p) &&& om) n))] [] h Q := by
        rw [r187_55]
        exact go _ _ (Or.inr ⟨p, rfl, pn, sb⟩)
      cases hb : pcf nd br n (clo nd dr n 16 (wnt ch dr om (hld g fv n) ||| p)) with
      | false =>
        rw [if_pos (by decide)]
        refine go _ _ ?_
        rcases I with ⟨a, b⟩ | a
        · refine Or.inl ⟨a, fun _ => ?_⟩
          by_cases y : p = 0
          · rw [y, Nat.or_zero] at hb
            exact hb
          · exact b (by omega)
        · exact Or.inr a
      | true =>
        rw [if_neg (by decide)]
        by_cases y : best < 0
        · rw [if_pos y]; exact take
        · rw [if_neg y]
          split
          · exact take
          · refine go _ _ ?_
            rcases I with ⟨a, b⟩ | a
            · rw [a] at y; exact absurd (by decide) y
            · exact Or.inr a
    · rw [if_neg (by rw [ez]; exact z)]
      refine go _ _ ?_
      have p0 : 0 < p := by
        rcases Nat.eq_zero_or_pos p with q | q
        · rw [q] at z
          exact absurd (an_sub0 (by decide) zs) z
        · exact q
      rcases I with ⟨a, b⟩ | a
      · exact Or.inl ⟨a, fun _ => b p0⟩
      · exact Or.inr a
theorem s187 (K0 : KNO g nf n nd br af om nt HX) (D : DES L xs g n nd af om nt HX fv ch dr h) (K : ∀ v, (v = -1 ∧ pcf nd br n (inM g n nd om fv ch dr) = false) ∨ (∃ q, v = Int32.ofNat q ∧ q < 2 ^ n ∧ Sub q (fre om ch dr)) → Q v h) : CI (d + 6) 187 [.ref 1000] h Q := by
  have V := K0.1
  have ol : om < 128 := p128 V.1 V.2.2.2.2.1
  have ol2 : an om ch < 128 := an_lt (k := 7) ol
  have k1 := D.k1
  rw [e187, D.r3, D.1.1.im 1034 (by decide) (by decide), V.2.2.2.1, D.2.2.1.1, D.2.2.1.2, i_an ol, i_an ol2]
  exact ⟨k1, D.1.1.lb, k1, k1, l187 (d := d) (Q := fun v h1 => onI v (fun x => Q x h1)) K0 D K _ 0 (-1) 0 (Nat.zero_add _) (Or.inl ⟨rfl, fun q => absurd q (by decide)⟩)⟩
theorem l188 {b0 : Nat} {Q : Option Value → PH → Prop} (K0 : KNO g nf n nd br af om nt HX) (D : DES L xs g n nd af om nt HX fv ch dr h) (eb : b0 = bob br (inM g n nd om fv ch dr) n 0 0) (K : ∀ v, Sub v b0 → (v = 0 ↔ b0 = 0) → Q (some (.int (Int32.ofNat v))) h) :
    ∀ (k p b : Nat), p + k = b0 + 1 → Sub b b0 → (b = 0 ↔ b0 = 0) → b < 128 →
    wp (d + 3) 188 14 [.val (.ref 1000), .val (.int (Int32.ofNat (inM g n nd om fv ch dr))), .val (.int (Int32.ofNat b)), .val (.int (Int32.ofNat b0)), .val (.int (Int32.ofNat p)), .unset] [] h Q := by
  have V := K0.1
  have iL := DES.im_lt K0 D
  have il7 := p128 V.1 iL
  have bl7 : b0 < 128 := by rw [eb]; exact p128 V.1 (bob_lt (fun i hi => (V.2.2.2.2.2 i hi).2.1.2) iL n 0 0 (by omega) (Nat.two_pow_pos n))
  have b31 : b0 < 2147483648 := by omega
  intro k
  induction k with
  | zero =>
    intro p b hp sb zb _
    have p31 : p < 2147483648 := by omega
    have lt : b0 < p := by omega
    rw [r188_14, if_pos (by rw [i_lt b31 p31]; exact lt)]
    exact K b sb zb
  | succ k ih =>
    intro p b hp sb zb b7
    have p31 : p < 2147483648 := by omega
    have nlt : ¬ b0 < p := by omega
    have p7 : p < 128 := by omega
    have go : ∀ b, Sub b b0 → (b = 0 ↔ b0 = 0) → b < 128 → wp (d + 3) 188 45 [.val (.ref 1000), .val (.int (Int32.ofNat (inM g n nd om fv ch dr))), .val (.int (Int32.ofNat b)), .val (.int (Int32.ofNat b0)), .val (.int (Int32.ofNat p)), .unset] [] h Q := fun b q1 q2 q3 => by
      rw [r188_45, i_inc]
      exact ih (p + 1) b (by omega) q1 q2 q3
    have al2 : an p b0 < 2 ^ 7 := an_lt (k := 7) p7
    have a31 : an p b0 < 2147483648 := by omega
    have ez : (Int32.ofNat (an p b0) = 0) = (an p b0 = 0) := i_eq a31 (by decide)
    obtain ⟨pp1, pp2⟩ := pop_all p p7
    obtain ⟨bb1, bb2⟩ := pop_all b b7
    have pp31 : pop p < 2147483648 := by omega
    have bb31 : pop b < 2147483648 := by omega
    have no : wp (d + 3) 188 30 [.val (.ref 1000), .val (.int (Int32.ofNat (inM g n nd om fv ch dr))), .val (.int (Int32.ofNat b)), .val (.int (Int32.ofNat b0)), .val (.int (Int32.ofNat p)), .unset] [] h Q := by
      rw [r188_30, r188_31, if_pos rfl]
      exact go b sb zb b7
    rw [r188_14, if_neg (by rw [i_lt b31 p31]; exact nlt), i_an p7]
    by_cases z : an p b0 = 0
    · rw [if_pos (by rw [ez]; exact z)]
      refine s115 (d := d + 2) (s115 (d := d + 2) ?_)
      rw [pp1, bb1]
      by_cases y : pop p < pop b
      · have al : an (inM g n nd om fv ch dr) p < 2 ^ n := an_lt iL
        rw [if_pos (by rw [i_lt pp31 bb31]; exact y), r188_31, if_neg (by decide), D.r3, i_an il7]
        refine ⟨D.k1, D.1.1.lb, s185 (d := d + 1) D.1.1 V al ?_⟩
        have xl := p128 V.1 (bob_lt (br := br) (fun i hi => (V.2.2.2.2.2 i hi).2.1.2) al n 0 0 (by omega) (Nat.two_pow_pos n))
        have x31 : bob br (an (inM g n nd om fv ch dr) p) n 0 0 < 2147483648 := by omega
        have ex : (Int32.ofNat (bob br (an (inM g n nd om fv ch dr) p) n 0 0) = 0) = (bob br (an (inM g n nd om fv ch dr) p) n 0 0 = 0) := i_eq x31 (by decide)
        by_cases u : bob br (an (inM g n nd om fv ch dr) p) n 0 0 = 0
        · rw [if_pos (by rw [ex]; exact u)]
          refine go p (sub_an0 p7 z) ⟨fun q => ?_, fun q => ?_⟩ p7
          · rw [q] at u
            have e0 : an (inM g n nd om fv ch dr) 0 = inM g n nd om fv ch dr := by
              apply Nat.eq_of_testBit_eq
              intro i
              rw [an_bit il7, Nat.zero_testBit]
              simp
            rw [e0, ← eb] at u
            exact u
          · omega
        · rw [if_neg (by rw [ex]; exact u)]
          exact go b sb zb b7
      · rw [if_neg (by rw [i_lt pp31 bb31]; exact y)]
        exact no
    · rw [if_neg (by rw [ez]; exact z)]
      exact no
theorem s188 (K0 : KNO g nf n nd br af om nt HX) (D : DES L xs g n nd af om nt HX fv ch dr h) (K : ∀ v, Sub v (inM g n nd om fv ch dr) → (v = 0 ↔ ∀ j, j < n → (inM g n nd om fv ch dr).testBit j = true → br j &&& inM g n nd om fv ch dr = 0) → Q (Int32.ofNat v) h) : CI (d + 4) 188 [.ref 1000] h Q := by
  have V := K0.1
  have iL := DES.im_lt K0 D
  have bl7 : bob br (inM g n nd om fv ch dr) n 0 0 < 128 := p128 V.1 (bob_lt (fun i hi => (V.2.2.2.2.2 i hi).2.1.2) iL n 0 0 (by omega) (Nat.two_pow_pos n))
  have sb : Sub (bob br (inM g n nd om fv ch dr) n 0 0) (inM g n nd om fv ch dr) := bob_sub n 0 0 zs
  have k1 := D.k1
  rw [e188, D.r80, D.r3, D.dn.2.2.1.1]
  have kd : p_kd h (1067 + 13) = 10 ∧ ¬ 1067 + 13 = 0 := ⟨D.dd.1, by decide⟩
  refine ⟨k1, D.k7, kd, k1, D.1.1.lb, s185 (d := d + 1) D.1.1 V iL ?_⟩
  refine l188 (d := d) (Q := fun v h1 => onI v (fun x => Q x h1)) K0 D rfl (fun v h1 h2 => K v (h1.tr sb) (h2.trans ?_)) _ 0 _ (Nat.zero_add _) Sub.rf Iff.rfl bl7
  rw [bob_0]
  exact ⟨fun q j hj hb => q.2 j (Nat.zero_le _) (by omega) hb, fun q => ⟨rfl, fun j _ hj hb => q j (by omega) hb⟩⟩
end ADV
