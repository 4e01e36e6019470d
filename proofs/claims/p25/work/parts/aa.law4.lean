/-! The law: what is in is counted; kinds are counted; the desk is asked to change. -/
section LAW4
variable {d L nf n om nt ch dr sm p N x u m a c : Nat} {xs : Nat → Int32} {g h h1 : PH} {Ds : List CLD} {fv : Nat → Int32} {ord KL : List Nat} {TT : (Nat → Nat) × (Nat → Nat) × (Nat → Int32)} {Q : Option Value → PH → Prop} {x5 x6 : Int32}
theorem FX.wi {a j : Nat} {v : Int32} (ha : 1120 ≤ a) : FX h (p_wi h a j v) := ⟨by rw [wi_nx]; exact Nat.le_refl _, fun b hb => ⟨⟨by rw [wi_kd], by rw [wi_ln]⟩, fun i => by rw [wi_im, if_neg (fun z => by omega)], fun i => by rw [wi_rm]⟩⟩
theorem FX.pn {k l v : Nat} (hx : 1120 ≤ p_nx h) : FX h (p_new h k l v) := ⟨by rw [pn_nx]; omega, fun b hb => by
  have ne : b ≠ p_nx h := by omega
  exact ⟨⟨by rw [pn_kd, if_neg ne], by rw [pn_ln, if_neg ne]⟩, fun i => by rw [pn_im, if_neg ne], fun i => by rw [pn_rm, if_neg ne]⟩⟩
theorem ST.wi {j : Nat} {v : Int32} (S : ST L xs g nf n Ds om nt fv ch dr sm p N x u h) (ha : N ≤ a) : ST L xs g nf n Ds om nt fv ch dr sm p N x u (p_wi h a j v) := by
  have h0 := S.2.1.1
  exact ⟨S.1.fx (FX.wi (by omega)), S.2.1.ex (EXn.wi ha), by rw [wi_nx]; exact S.2.2.1, by rw [wi_us]; exact S.2.2.2⟩
theorem l154 (W : LWK g nf n Ds om nt) (C : CON g n Ds om nt fv ch dr m ord KL TT) (hN : N ≤ a) (KK : ∀ h1, ST L xs g nf n Ds om nt fv ch dr sm p N x u h1 → wp (d + 8) 189 30 (lo30 sm (Int32.ofNat n) (x5 + 1)) [] h1 Q) :
    ∀ (k i : Nat) (h : PH), i + k = min KL.length 60 → ST L xs g nf n Ds om nt fv ch dr sm p N x u h → KR a (fun j => cK j (KL.take i)) h →
    wp (d + 8) 189 154 (lo154 sm (Int32.ofNat n) x5 x6 (Int32.ofNat m) (Int32.ofNat ord.length) (bsum (WFN Ds) m n) a (Int32.ofNat i)) [] h Q := by
  have l31 : min KL.length 60 < 2147483648 := by omega
  intro k
  induction k with
  | zero =>
    intro i h hi S R
    have e : i = min KL.length 60 := by omega
    have nn : ¬ min KL.length 60 < min KL.length 60 := by omega
    have et : KL.take (min KL.length 60) = KL.take 60 := by
      by_cases z : KL.length ≤ 60
      · rw [show min KL.length 60 = KL.length from by omega, List.take_length, List.take_of_length_le z]
      · rw [show min KL.length 60 = 60 from by omega]
    rw [e, et] at R
    have K0 := l181c (d := d) (Q := Q) (x5 := x5) (x6 := x6) W C KK n 0 h (Nat.zero_add _) S R
    rw [r189_154, e]
    refine ⟨S.k1, lc6 (d := d) C S ?_⟩
    rw [if_neg (by rw [i_lt l31 l31]; exact nn)]
    exact K0
  | succ k ih =>
    intro i h hi S R
    have il : i < KL.length := by omega
    have i6 : i < 60 := by omega
    have i31 : i < 2147483648 := by omega
    have im : i < min KL.length 60 := by omega
    have hK := (C.told W S.1.2.2.2.1.1).1 _ (gDn_mem il)
    have q9 : KL.getD i 0 < 9 := by omega
    have q31 : KL.getD i 0 < 2147483648 := by omega
    have hin : p_in (Int32.ofNat (KL.getD i 0)) 9 := i_in q9 (by decide)
    have rk := R.k
    have rb := R.2.1
    rw [r189_154]
    refine ⟨S.k1, lc6 (d := d) C S ?_⟩
    rw [if_pos (by rw [i_lt i31 l31]; exact im)]
    refine ⟨S.k1, lco (d := d) C S il i6 ?_⟩
    rw [R.2.2.1, R.1, i_nat q31, R.2.2.2 _ q9, i_inc, i_inc]
    have rk2 := rk
    rw [R.1] at rk2
    refine ⟨⟨rk2, hin⟩, ⟨⟨rfl, by omega⟩, hin⟩, ih (i + 1) _ (by omega) (S.wi hN) ⟨by rw [wi_kd]; exact R.1, rb, by rw [wi_ln]; exact R.2.2.1, fun j hj => ?_⟩⟩
    rw [wi_im]
    show _ = Int32.ofNat (cK j (KL.take (i + 1)))
    rw [cK_succ il]
    by_cases z : KL.getD i 0 = j
    · rw [if_pos ⟨rfl, z.symm⟩, if_pos z, z]
    · rw [if_neg (fun q => z q.2.symm), if_neg z, Nat.add_zero]
      exact R.2.2.2 j hj
theorem mod_s {i : Nat} : m % 2 ^ (i + 1) = if m.testBit i = true then m % 2 ^ i ||| 2 ^ i else m % 2 ^ i := by
  apply Nat.eq_of_testBit_eq
  intro j
  rw [Nat.testBit_mod_two_pow]
  by_cases z : m.testBit i = true
  · rw [if_pos z, Nat.testBit_or, Nat.testBit_mod_two_pow, Nat.testBit_two_pow]
    by_cases y : i = j
    · rw [← y, z, decide_eq_true (show i < i + 1 by omega), decide_eq_true rfl]; simp
    · rw [decide_eq_false y, Bool.or_false, decide_eq_decide.mpr (show j < i + 1 ↔ j < i by omega)]
  · rw [if_neg z, Nat.testBit_mod_two_pow]
    rw [Bool.not_eq_true] at z
    by_cases y : i = j
    · rw [← y, z, Bool.and_false, Bool.and_false]
    · rw [decide_eq_decide.mpr (show j < i + 1 ↔ j < i by omega)]
theorem sh0z : ∀ o, o < 16 → (0 : Int32) <<< (Int32.ofNat o &&& 31) = 0 := by decide +kernel
theorem l78 (W : LWK g nf n Ds om nt) (C : CON g n Ds om nt fv ch dr m ord KL TT) (S : ST L xs g nf n Ds om nt fv ch dr sm p N x u h) (hx : x + 1 ≤ 601086) (hu : u + 9 ≤ 7301442) (hNx : N ≤ x) (KK : ∀ h1, ST L xs g nf n Ds om nt fv ch dr sm p N (x + 1) (u + 9) h1 → wp (d + 8) 189 30 (lo30 sm (Int32.ofNat n) (x5 + 1)) [] h1 Q) :
    ∀ (k i : Nat), i + k = n → wp (d + 8) 189 78 (lo78 sm (Int32.ofNat n) x5 x6 (Int32.ofNat (m % 2 ^ i)) (bsum (fun _ => (1 : Int32)) m i) (bsum (WFN Ds) m i) (Int32.ofNat i)) [] h Q := by
  have n7 := W.n7
  have n0 := W.1.1.2.1
  have hch := S.1.2.2.2.1.1
  have m7 := p128 n7 (C.lt W hch)
  have n31 : n < 2147483648 := by omega
  intro k
  induction k with
  | zero =>
    intro i hi
    have e : i = n := by omega
    have nn : ¬ n < n := by omega
    obtain ⟨o1, o2⟩ := S.2.1.o6 n0 n7
    have o2 : p_im h (p_rm h sm 6) 0 = Int32.ofNat (cl_o (Ds.getD 0 D0)) := o2
    have o1' : (((p_kB (p_kd h (p_rm h sm 6)) = true ∨ p_kZ (p_kd h (p_rm h sm 6)) = true) ∧ ¬ p_rm h sm 6 = 0) ∧ p_in (0 : Int32) (p_ln h (p_rm h sm 6))) := o1
    have c1 := (W.ok n0).2.2.1
    have e1 : p_CN = 601086 := rfl
    have e2 : p_CS = 7301442 := rfl
    have sx := S.2.2.1
    have su := S.2.2.2
    have s0 := S.2.1.1
    have x1120 : 1120 ≤ p_nx h := by omega
    have Nx : N ≤ p_nx h := by omega
    have K0 : wp (d + 8) 189 154 (lo154 sm (Int32.ofNat n) x5 x6 (Int32.ofNat m) (Int32.ofNat ord.length) (bsum (WFN Ds) m n) (p_nx h) (Int32.ofNat 0)) [] (p_new h 100 9 9) Q :=
      l154 (d := d) (Q := Q) (x5 := x5) (x6 := x6) W C Nx KK _ 0 _ (Nat.zero_add _) ⟨S.1.fx (FX.pn x1120), S.2.1.ex (EXn.pn Nx), by rw [pn_nx, sx], by rw [pn_us, su]⟩ ⟨by rw [pn_kd, if_pos rfl], x1120, by rw [pn_ln, if_pos rfl], fun j _ => by rw [pn_im, if_pos rfl]; rfl⟩
    rw [r189_78, e, if_neg (by rw [i_lt n31 n31]; exact nn), Nat.mod_eq_of_lt (C.lt W hch), C.len W hch]
    refine ⟨S.k1, lc5 (d := d) C S ?_⟩
    rw [if_pos rfl]
    refine ⟨S.k1, lc8 (d := d) W C S ?_⟩
    rw [if_pos rfl]
    refine ⟨S.k1, lq4 (d := d) (c := 0) W S n0 ⟨S.ks, o1', ?_⟩⟩
    rw [o2, r189_142]
    have fin : ∀ y, wp (d + 8) 189 146 (lo142 sm (Int32.ofNat n) x5 x6 (Int32.ofNat m) (Int32.ofNat ord.length) (bsum (WFN Ds) m n)) [.int y, .int y] h Q := fun y => by
      rw [r189_146, if_pos rfl]
      exact ⟨⟨by decide, by omega, by omega⟩, K0⟩
    by_cases z : Int32.ofNat (cl_o (Ds.getD 0 D0)) = 0
    · rw [if_pos z, if_pos z]; exact fin 0
    · rw [if_neg z, if_neg z]; exact fin 1
  | succ k ih =>
    intro i hi
    have hin : i < n := by omega
    have i31 : i < 2147483648 := by omega
    have i16 : i < 16 := by omega
    have K1 := ih (i + 1) (by omega)
    have f1 : bsum (fun _ => (1 : Int32)) m (i + 1) = bsum (fun _ => (1 : Int32)) m i + (if m.testBit i = true then 1 else 0) := rfl
    have f2 : bsum (WFN Ds) m (i + 1) = bsum (WFN Ds) m i + (if m.testBit i = true then WFN Ds i else 0) := rfl
    rw [f1, f2, mod_s] at K1
    rw [r189_78, if_pos (by rw [i_lt i31 n31]; exact hin)]
    refine ⟨S.k1, lq2 (d := d) W C S hin ⟨S.k1, lq2 (d := d) W C S hin ?_⟩⟩
    rw [r189_99]
    refine ⟨S.k1, lq2 (d := d) W C S hin ?_⟩
    cases hb : m.testBit i with
    | false =>
      rw [hb, if_neg (by decide), if_neg (by decide), if_neg (by decide)] at K1
      rw [if_neg (by decide), show bi false = 0 from rfl, sh0z i i16, Int32.or_zero, r189_119, r189_120, i_inc]
      exact K1
    | true =>
      rw [hb, if_pos rfl, if_pos rfl, if_pos rfl] at K1
      obtain ⟨o1, o2⟩ := S.2.1.o6 hin n7
      obtain ⟨g1, g2⟩ := S.2.1.g7 hin n7
      obtain ⟨b1, b2⟩ := S.2.1.b8 hin n7
      have c1 := (W.ok hin).2.2.1
      have c31 : cl_o (Ds.getD i D0) < 2147483648 := by omega
      have ez : (Int32.ofNat (cl_o (Ds.getD i D0)) = 0) = (cl_o (Ds.getD i D0) = 0) := i_eq c31 (by decide)
      rw [if_pos (by decide), show bi true = 1 from rfl, sh1 i i16, i_or, o2]
      refine ⟨S.ks, o1, ?_⟩
      by_cases z : cl_o (Ds.getD i D0) = 0
      · have ew : WFN Ds i = 0 := by unfold WFN; rw [z]; rfl
        rw [ew] at K1
        rw [if_pos (by rw [ez]; exact z), r189_119, r189_120, i_inc]
        exact K1
      · have ew : WFN Ds i = Int32.ofNat (cl_g (Ds.getD i D0)) - Int32.ofNat (cl_b (Ds.getD i D0)) := by
          unfold WFN
          rw [show Nat.beq (cl_o (Ds.getD i D0)) 0 = false from Bool.eq_false_iff.mpr (fun q => z (Nat.eq_of_beq_eq_true q))]; rfl
        rw [ew] at K1
        rw [if_neg (by rw [ez]; exact z), g2, b2, r189_120, i_inc]
        exact ⟨S.ks, g1, S.ks, b1, K1⟩
theorem v24 : ∀ q, q < 24 → ¬ Int32.ofNat q - 2 < -99999 ∧ ¬ 99999 < Int32.ofNat q - 2 := by decide
theorem v3 : ∀ q, q < 3 → ¬ Int32.ofNat q - 1 < -1 ∧ ¬ 1 < Int32.ofNat q - 1 := by decide
theorem l30 {X U : Nat} (hL : L ≤ 260) (W : LWK g nf n Ds om nt) (K : ∀ h1, p_nx h1 ≤ X → p_us h1 ≤ U → Q (some (.int 1)) h1) (hX : X ≤ 601000) (hU : U ≤ 7300000) : ∀ (k t : Nat) (fv : Nat → Int32) (ch dr x u : Nat) (h : PH), t + k = 14 → N ≤ x → x + k ≤ X → u + 9 * k ≤ U → ST L xs g nf n Ds om nt fv ch dr sm p N x u h →
    wp (d + 8) 189 30 (lo30 sm (Int32.ofNat n) (Int32.ofNat t)) [] h Q := by
  have n7 := W.n7
  have n0 := W.1.1.2.1
  have nf0 := W.1.2.2.2.2.2.1
  have nf3 := W.1.2.2.2.2.2.2
  intro k
  induction k with
  | zero =>
    intro t fv ch dr x u h ht hN hx hu S
    have e : t = 14 := by omega
    have sx := S.2.2.1
    have su := S.2.2.2
    rw [r189_30, e, if_neg (by decide)]
    exact ⟨Or.inr rfl, K h (by omega) (by omega)⟩
  | succ k ih =>
    intro t fv ch dr x u h ht hN hx hu S
    have t14 : t < 14 := by omega
    have t31 : t < 2147483648 := by omega
    rw [r189_30, if_pos (by rw [show (14 : Int32) = Int32.ofNat 14 from rfl, i_lt t31 (by decide)]; exact t14)]
    refine s14 (d := d + 7) S.1.1.1.1 hL (by omega) (fun z1 => ⟨S.ks, ?_⟩)
    rw [S.2.1.2.1.2.1]
    refine s15 (d := d + 7) nf0 (by omega) (fun f hf => s15 (d := d + 7) (n := 24) (by decide) (by decide) (fun q hq => ?_))
    obtain ⟨v1, v2⟩ := v24 q hq
    rw [r189_51]
    refine ⟨S.k1, s165 (d := d) W.1 S.1 hf v1 v2 (fun z h2 x2 u2 E2 D2 => s15 (d := d + 7) n0 (by omega) (fun c hc => s15 (d := d + 7) (n := 3) (by decide) (by decide) (fun w hw => ⟨D2.k1, ?_⟩)))⟩
    obtain ⟨w1, w2⟩ := v3 w hw
    refine s168 (d := d) W.1 D2 hc w1 w2 (fun z3 h3 x3 u3 E3 D3 => ?_)
    have sx := S.2.2.1
    have su := S.2.2.2
    have S3 : ST L xs g nf n Ds om nt (fun j => if j = f then Int32.ofNat q - 2 else fv j) (set1 ch c (Int32.ofNat w - 1)) (set0 dr c (Int32.ofNat w - 1)) sm p N x u h3 :=
      ⟨D3, (S.2.1.ex (EXn.ext E2 (by omega))).ex (EXn.ext E3 (by omega)), by omega, by omega⟩
    rw [r189_72]
    have C : CON g n Ds om nt (fun j => if j = f then Int32.ofNat q - 2 else fv j) (set1 ch c (Int32.ofNat w - 1)) (set0 dr c (Int32.ofNat w - 1)) _ _ _ _ := ⟨rfl, rfl, rfl, rfl⟩
    have K0 := l78 (d := d) (Q := Q) (x5 := Int32.ofNat t) (x6 := z1 + (17 : Int32) * Int32.ofNat t) W C S3 (by omega) (by omega) hN (fun h1 S1 => by rw [i_inc]; exact ih (t + 1) _ _ _ _ _ h1 (by omega) (by omega) (by omega) (by omega) S1) n 0 (Nat.zero_add _)
    rw [Nat.pow_zero, Nat.mod_one] at K0
    exact K0
end LAW4
