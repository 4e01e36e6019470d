/-! Clauses, counts, conflicts and terms are asked for. -/
def wof (g : PH) : Nat → Int32 := fun i => p_im g (1047 + i) 1
section ASK2
variable {d L n nt ch dr om m nf c : Nat} {xs : Nat → Int32} {g h h1 : PH} {nd br af : Nat → Nat} {HX : Nat → List (Nat × Nat)} {fv : Nat → Int32} {Q : Int32 → PH → Prop}
theorem s171 {w : Int32} (K0 : KNO g nf n nd br af om nt HX) (D : DES L xs g n nd af om nt HX fv ch dr h) (hc : c < n) (h0 : ¬ w < 0) (h9 : w < 9) (K : CI (d + 7) 170 [.ref 1000, .int (Int32.ofNat c), .int w] h Q) : CI (d + 8) 171 [.ref 1000, .int (Int32.ofNat c), .int w] h Q := by
  rw [e171]
  refine ⟨D.k1, s166 (d := d + 6) K0 D hc ?_⟩
  rw [if_neg (by decide), if_neg h0, if_pos h9]
  exact ⟨D.k1, K⟩
theorem DES.k2 (D : DES L xs g n nd af om nt HX fv ch dr h) : p_kd h (p_rm h 1000 3) = 2 ∧ ¬ p_rm h 1000 3 = 0 := by rw [D.r3]; exact D.1.1.lb
theorem DES.k7 (D : DES L xs g n nd af om nt HX fv ch dr h) : p_kd h (p_rm h 1000 8) = 7 ∧ ¬ p_rm h 1000 8 = 0 := by rw [D.r8]; exact ⟨D.ct.1, by decide⟩
theorem DES.r80 (D : DES L xs g n nd af om nt HX fv ch dr h) : p_rm h (p_rm h 1000 8) 0 = 1067 + 13 := by rw [D.r8]; exact D.ct.2.2.1
theorem DES.r81 (D : DES L xs g n nd af om nt HX fv ch dr h) : p_rm h (p_rm h 1000 8) 1 = 1067 + 1 := by rw [D.r8]; exact D.ct.2.2.2.1
theorem DES.k10 (D : DES L xs g n nd af om nt HX fv ch dr h) : p_kd h (p_rm h (p_rm h 1000 8) 0) = 10 ∧ ¬ p_rm h (p_rm h 1000 8) 0 = 0 := by rw [D.r80]; exact ⟨D.dd.1, by decide⟩
theorem DES.k8 (D : DES L xs g n nd af om nt HX fv ch dr h) : p_kd h (p_rm h (p_rm h 1000 8) 1) = 8 ∧ ¬ p_rm h (p_rm h 1000 8) 1 = 0 := by rw [D.r81]; exact ⟨D.ct.2.2.2.2.2.2.2.2.2.2.2.2.2.2.2.1.1, by decide⟩
theorem DES.cl (D : DES L xs g n nd af om nt HX fv ch dr h) (hc : c < 16) : ((p_kR (p_kd h (p_rm h (p_rm h 1000 3) 3)) = true ∧ ¬ p_rm h (p_rm h 1000 3) 3 = 0) ∧ p_in (Int32.ofNat c) (p_ln h (p_rm h (p_rm h 1000 3) 3))) ∧ p_rm h (p_rm h (p_rm h 1000 3) 3) (Int32.ofNat c).toNatClampNeg = 1047 + c ∧ (p_kd h (1047 + c) = 6 ∧ ¬ 1047 + c = 0) := by rw [D.r3]; exact D.1.1.cl hc
theorem ac0 (K0 : KNO g nf n nd br af om nt HX) (D : DES L xs g n nd af om nt HX fv ch dr h) (hc : c < n) (K : Q (cho ch dr c) h) : CI (d + 8) 171 [.ref 1000, .int (Int32.ofNat c), .int 0] h Q := by
  have c16 : c < 16 := by have := K0.1.1; omega
  refine s171 K0 D hc (by decide) (by decide) ?_
  rw [e170, if_pos rfl]
  exact ⟨D.k1, D.k2, (D.cl c16).1, D.k1, s167 (d := d + 4) K0 D hc K⟩
theorem ac1 (K0 : KNO g nf n nd br af om nt HX) (D : DES L xs g n nd af om nt HX fv ch dr h) (hc : c < n) (K : Q (bi ((hld g fv n).testBit c)) h) : CI (d + 8) 171 [.ref 1000, .int (Int32.ofNat c), .int 1] h Q := by
  have c16 : c < 16 := by have := K0.1.1; omega
  refine s171 K0 D hc (by decide) (by decide) ?_
  rw [e170, if_neg (by decide), if_pos (by decide)]
  refine ⟨D.k1, D.k2, (D.cl c16).1, D.k1, D.k7, ?_⟩
  rw [D.r8, D.dn.1]
  refine s144 (d := d + 5) (p128 K0.1.1 (hld_lt g fv n)) c16 ?_
  cases hb : (hld g fv n).testBit c with
  | true => rw [hb] at K; rw [if_neg (by decide)]; exact K
  | false => rw [hb] at K; rw [if_pos (by decide)]; exact K
theorem ac2 (K0 : KNO g nf n nd br af om nt HX) (D : DES L xs g n nd af om nt HX fv ch dr h) (hc : c < n) (K : Q (bi ((inM g n nd om fv ch dr).testBit c)) h) : CI (d + 8) 171 [.ref 1000, .int (Int32.ofNat c), .int 2] h Q := by
  have c16 : c < 16 := by have := K0.1.1; omega
  refine s171 K0 D hc (by decide) (by decide) ?_
  rw [e170, if_neg (by decide), if_neg (by decide), if_pos (by decide)]
  refine ⟨D.k1, D.k2, (D.cl c16).1, D.k1, D.k7, D.k10, ?_⟩
  rw [D.r80, D.dn.2.2.1.1]
  refine s144 (d := d + 5) (p128 K0.1.1 (DES.im_lt K0 D)) c16 ?_
  cases hb : (inM g n nd om fv ch dr).testBit c with
  | true => rw [hb] at K; rw [if_neg (by decide)]; exact K
  | false => rw [hb] at K; rw [if_pos (by decide)]; exact K
theorem ac3 (K0 : KNO g nf n nd br af om nt HX) (D : DES L xs g n nd af om nt HX fv ch dr h) (hc : c < n) (K : Q (Int32.ofNat (plc (orM g n nd af om fv ch dr) c)) h) : CI (d + 8) 171 [.ref 1000, .int (Int32.ofNat c), .int 3] h Q := by
  have c16 : c < 16 := by have := K0.1.1; omega
  have c31 : c < 2147483648 := by omega
  have dd := D.dd
  refine s171 K0 D hc (by decide) (by decide) ?_
  rw [e170, if_neg (by decide), if_neg (by decide), if_neg (by decide), if_pos (by decide)]
  refine ⟨D.k1, D.k2, (D.cl c16).1, D.k1, D.k7, D.k10, ?_⟩
  rw [D.r80, dd.2.2.2.1, dd.2.2.2.2.2.2.2.2.1.1, dd.2.2.2.2.2.2.2.2.1.2, i_nat c31, D.dn.2.2.1.2.2.2 c c16]
  exact ⟨⟨⟨by decide, by decide⟩, i_in c16 (by decide)⟩, K⟩
theorem ac4 (K0 : KNO g nf n nd br af om nt HX) (D : DES L xs g n nd af om nt HX fv ch dr h) (hc : c < n) (K : Q (if p_im g (1047 + c) 0 = 0 then 0 else 1) h) : CI (d + 8) 171 [.ref 1000, .int (Int32.ofNat c), .int 4] h Q := by
  have c16 : c < 16 := by have := K0.1.1; omega
  have xa : 1034 ≤ 1047 + c := by omega
  have xb : 1047 + c < 1066 := by omega
  refine s171 K0 D hc (by decide) (by decide) ?_
  rw [e170, if_neg (by decide), if_neg (by decide), if_neg (by decide), if_neg (by decide), if_pos (by decide), (D.cl c16).2.1, D.1.1.im _ xa xb]
  exact ⟨D.k1, D.k2, (D.cl c16).1, (D.cl c16).2.2, q_if (P := fun v => Q v h) K (fun K => K) (fun K => K)⟩
theorem ac5 (K0 : KNO g nf n nd br af om nt HX) (D : DES L xs g n nd af om nt HX fv ch dr h) (hc : c < n) (K : Q (Int32.ofNat (nd c)) h) : CI (d + 8) 171 [.ref 1000, .int (Int32.ofNat c), .int 5] h Q := by
  have c16 : c < 16 := by have := K0.1.1; omega
  have xa : 1034 ≤ 1047 + c := by omega
  have xb : 1047 + c < 1066 := by omega
  refine s171 K0 D hc (by decide) (by decide) ?_
  rw [e170, if_neg (by decide), if_neg (by decide), if_neg (by decide), if_neg (by decide), if_neg (by decide), if_pos (by decide), (D.cl c16).2.1, D.1.1.im _ xa xb, (K0.1.2.2.2.2.2 c hc).1.1]
  exact ⟨D.k1, D.k2, (D.cl c16).1, (D.cl c16).2.2, K⟩
theorem ac8 (K0 : KNO g nf n nd br af om nt HX) (D : DES L xs g n nd af om nt HX fv ch dr h) (hc : c < n) (K : ∀ h1, DES L xs g n nd af om nt HX fv ch dr h1 → FR wA wAs h h1 → Q (itd g fv (plI (orM g n nd af om fv ch dr)) c) h1) : CI (d + 8) 171 [.ref 1000, .int (Int32.ofNat c), .int 8] h Q := by
  have c16 : c < 16 := by have := K0.1.1; omega
  refine s171 K0 D hc (by decide) (by decide) ?_
  rw [e170, if_neg (by decide), if_neg (by decide), if_neg (by decide), if_neg (by decide), if_neg (by decide), if_neg (by decide), if_neg (by decide), if_neg (by decide), (D.cl c16).2.1]
  exact ⟨D.k1, D.k2, (D.cl c16).1, D.k1, s169 (d := d) D c16 K⟩
theorem l173 {Q : Option Value → PH → Prop} (B : LIB L xs g h) (V : LD g n nd br af om) (hm : m < 2 ^ n) : ∀ (k i : Nat), i + k = n → Q (some (.int (bsum (wof g) (m &&& om) n))) h → wp (d + 1) 173 4 [.val (.ref 1034), .val (.int (Int32.ofNat m)), .val (.int (bsum (wof g) (m &&& om) i)), .val (.int (Int32.ofNat i))] [] h Q := by
  intro k
  obtain ⟨v1, v2, v3, v4, v5, v6⟩ := V
  induction k with
  | zero =>
    intro i hi K
    have e : i = n := by omega
    have n31 : n < 2147483648 := by omega
    rw [r173_4, e, B.im 1034 (by decide) (by decide), v3, if_neg (by rw [i_lt n31 n31]; omega)]
    exact ⟨B.lb, K⟩
  | succ k ih =>
    intro i hi K
    have i31 : i < 2147483648 := by omega
    have n31 : n < 2147483648 := by omega
    have i16 : i < 16 := by omega
    have xa : 1034 ≤ 1047 + i := by omega
    have xb : 1047 + i < 1066 := by omega
    have hl : m &&& om < 128 := Nat.lt_of_le_of_lt Nat.and_le_left (p128 v1 hm)
    have K1 := ih (i + 1) (by omega) K
    obtain ⟨c1, c2, c3⟩ := B.cl i16
    rw [r173_4, B.im 1034 (by decide) (by decide), v3, if_pos (by rw [i_lt i31 n31]; omega), B.im 1034 (by decide) (by decide), v4, i_and]
    refine ⟨B.lb, B.lb, s144 (d := d) hl i16 ?_⟩
    unfold bsum at K1
    cases hb : (m &&& om).testBit i with
    | true =>
      rw [hb, if_pos rfl] at K1
      rw [if_neg (by decide), c2, B.im _ xa xb, r173_23, i_inc]
      exact ⟨B.lb, c1, c3, K1⟩
    | false =>
      rw [hb, if_neg (by decide)] at K1
      rw [if_pos (by decide), r173_23, i_inc]
      exact K1
theorem s173 (B : LIB L xs g h) (V : LD g n nd br af om) (hm : m < 2 ^ n) (K : Q (bsum (wof g) (m &&& om) n) h) : CI (d + 2) 173 [.ref 1034, .int (Int32.ofNat m)] h Q := by
  rw [e173]
  exact l173 (d := d) (Q := fun v h1 => onI v (fun x => Q x h1)) B V hm n 0 (Nat.zero_add _) K
theorem s175 {w : Int32} (D : DES L xs g n nd af om nt HX fv ch dr h) (h0 : ¬ w < 0) (h9 : w < 10) (K : CI (d + 3) 174 [.ref 1000, .int w] h Q) : CI (d + 4) 175 [.ref 1000, .int w] h Q := by
  rw [e175, if_neg h0, if_pos h9]
  exact ⟨D.k1, K⟩
theorem aq5 (D : DES L xs g n nd af om nt HX fv ch dr h) (K : Q (Int32.ofNat (orM g n nd af om fv ch dr).length) h) : CI (d + 4) 175 [.ref 1000, .int 5] h Q := by
  refine s175 D (by decide) (by decide) ?_
  rw [e174, if_neg (by decide), if_neg (by decide), if_neg (by decide), if_neg (by decide), if_neg (by decide), if_pos (by decide)]
  refine ⟨D.k1, D.k7, D.k10, ?_⟩
  rw [D.r80, D.dn.2.2.1.2.1]
  exact K
theorem aq6 (D : DES L xs g n nd af om nt HX fv ch dr h) (K : Q (Int32.ofNat (min (klM g n HX nt fv (orM g n nd af om fv ch dr)).length 60)) h) : CI (d + 4) 175 [.ref 1000, .int 6] h Q := by
  refine s175 D (by decide) (by decide) ?_
  rw [e174, if_neg (by decide), if_neg (by decide), if_neg (by decide), if_neg (by decide), if_neg (by decide), if_neg (by decide), if_pos (by decide)]
  refine ⟨D.k1, D.k7, D.k8, ?_⟩
  rw [D.r81, D.dn.2.2.2.2.1.1]
  exact K
theorem aq7 (D : DES L xs g n nd af om nt HX fv ch dr h) (K : Q (mnI (leM g fv (orM g n nd af om fv ch dr)) 6000) h) : CI (d + 4) 175 [.ref 1000, .int 7] h Q := by
  have dd := D.dd
  refine s175 D (by decide) (by decide) ?_
  rw [e174, if_neg (by decide), if_neg (by decide), if_neg (by decide), if_neg (by decide), if_neg (by decide), if_neg (by decide), if_neg (by decide), if_pos (by decide)]
  refine ⟨D.k1, D.k7, ?_⟩
  rw [e172]
  refine ⟨D.k7, D.k10, ?_⟩
  rw [D.r80, dd.2.2.2.2.2.2.1, e21]
  refine ⟨⟨dd.2.2.2.2.2.2.2.2.2.2.2.1, by decide⟩, ?_⟩
  rw [D.dn.2.2.2.2.2]
  unfold mnI at K
  exact q_if (P := fun v => Q v h) K (fun K => K) (fun K => K)
theorem aq8 (K0 : KNO g nf n nd br af om nt HX) (D : DES L xs g n nd af om nt HX fv ch dr h) (K : Q (bsum (wof g) (inM g n nd om fv ch dr &&& om) n) h) : CI (d + 4) 175 [.ref 1000, .int 8] h Q := by
  refine s175 D (by decide) (by decide) ?_
  rw [e174, if_neg (by decide), if_neg (by decide), if_neg (by decide), if_neg (by decide), if_neg (by decide), if_neg (by decide), if_neg (by decide), if_neg (by decide), if_pos (by decide)]
  refine ⟨D.k1, D.k1, D.k7, D.k10, D.k2, ?_⟩
  rw [D.r80, D.r3, D.dn.2.2.1.1]
  exact s173 (d := d) D.1.1 K0.1 (DES.im_lt K0 D) K
theorem aco {k : Nat} (D : DES L xs g n nd af om nt HX fv ch dr h) (hk : k < (klM g n HX nt fv (orM g n nd af om fv ch dr)).length) (hk6 : k < 60) (K : Q (Int32.ofNat ((klM g n HX nt fv (orM g n nd af om fv ch dr)).getD k 0)) h) : CI (d + 2) 177 [.ref 1000, .int (Int32.ofNat k), .int 0] h Q := by
  have k31 : k < 2147483648 := by omega
  have m31 : min (klM g n HX nt fv (orM g n nd af om fv ch dr)).length 60 < 2147483648 := by omega
  have hm : k < min (klM g n HX nt fv (orM g n nd af om fv ch dr)).length 60 := by omega
  have N := D.dn.2.2.2.2.1
  have f := D.ct.2.2.2.2.2.2.2.2.2.2.2.2.2.2.2.1
  rw [e177, if_neg (i_neg k31), D.r81, N.1, if_pos (by rw [i_lt k31 m31]; exact hm), if_neg (by decide), if_pos (by decide)]
  refine ⟨D.k1, D.k7, ⟨f.1, by decide⟩, D.k1, D.k7, ⟨f.1, by decide⟩, ?_⟩
  rw [e176, if_neg (i_neg k31), N.1, if_pos (by rw [i_lt k31 m31]; exact hm), if_pos rfl, f.2.1, f.2.2.2.2.1.1, f.2.2.2.2.1.2, i_nat k31, N.2 k hk6 hk]
  exact ⟨⟨f.1, by decide⟩, ⟨f.1, by decide⟩, ⟨⟨by decide, by decide⟩, i_in hk6 (by decide)⟩, K⟩
theorem apl {p : Nat} (D : DES L xs g n nd af om nt HX fv ch dr h) (h1p : 1 ≤ p) (hp : p ≤ (orM g n nd af om fv ch dr).length) (h7 : (orM g n nd af om fv ch dr).length ≤ 7) (K : Q (Int32.ofNat ((orM g n nd af om fv ch dr).getD (p - 1) 0)) h) : CI (d + 1) 178 [.ref 1000, .int (Int32.ofNat p)] h Q := by
  have p31 : p < 2147483648 := by omega
  have o31 : (orM g n nd af om fv ch dr).length < 2147483648 := by omega
  have np : ¬ p < 1 := by omega
  have nq : ¬ (orM g n nd af om fv ch dr).length < p := by omega
  have q16 : p - 1 < 16 := by omega
  have q31 : p - 1 < 2147483648 := by omega
  have ql : p - 1 < (orM g n nd af om fv ch dr).length := by omega
  have dd := D.dd
  rw [e178, if_neg (by rw [show (1 : Int32) = Int32.ofNat 1 from rfl, i_lt p31 (by decide)]; exact np), D.r80, D.dn.2.2.1.2.1, if_neg (by rw [i_lt o31 p31]; exact nq), dd.2.2.1, dd.2.2.2.2.2.2.2.1.1, dd.2.2.2.2.2.2.2.1.2, show (1 : Int32) = Int32.ofNat 1 from rfl, i_sub h1p, i_nat q31, D.dn.2.2.1.2.2.1 _ ql]
  exact ⟨D.k1, D.k7, ⟨dd.1, by decide⟩, D.k1, D.k7, ⟨dd.1, by decide⟩, ⟨⟨by decide, by decide⟩, i_in q16 (by decide)⟩, K⟩
theorem s180 {t : Nat} {w : Int32} (K0 : KNO g nf n nd br af om nt HX) (D : DES L xs g n nd af om nt HX fv ch dr h) (ht : t < nt) (h0 : ¬ w < 0) (h3 : w < 3) (K : CI (d + 1) 179 [.ref 1067, .int (Int32.ofNat t), .int w] h Q) : CI (d + 2) 180 [.ref 1000, .int (Int32.ofNat t), .int w] h Q := by
  have n24 := K0.2.2.1
  have t31 : t < 2147483648 := by omega
  have n31 : nt < 2147483648 := by omega
  rw [e180, if_neg (i_neg t31), D.r3, D.1.1.im 1034 (by decide) (by decide), K0.2.1, if_pos (by rw [i_lt t31 n31]; exact ht), if_neg h0, if_pos h3, D.r8]
  exact ⟨D.k1, D.1.1.lb, D.k1, ⟨D.ct.1, by decide⟩, K⟩
theorem atm0 {t : Nat} (K0 : KNO g nf n nd br af om nt HX) (D : DES L xs g n nd af om nt HX fv ch dr h) (ht : t < nt) (K : Q (Int32.ofNat ((ttM g n fv (orM g n nd af om fv ch dr)).1 t)) h) : CI (d + 2) 180 [.ref 1000, .int (Int32.ofNat t), .int 0] h Q := by
  have t24 : t < 24 := by have := K0.2.2.1; omega
  have t31 : t < 2147483648 := by omega
  have S := D.ct
  refine s180 (d := d) K0 D ht (by decide) (by decide) ?_
  rw [e179, if_neg (i_neg t31), if_pos (by rw [show (24 : Int32) = Int32.ofNat 24 from rfl, i_lt t31 (by decide)]; exact t24), if_pos rfl, S.2.2.2.2.2.2.1, S.2.2.2.2.2.2.2.2.2.2.2.1.1, S.2.2.2.2.2.2.2.2.2.2.2.1.2, i_nat t31, (D.dn.2.2.2.1 t t24).1]
  exact ⟨⟨S.1, by decide⟩, ⟨⟨by decide, by decide⟩, i_in t24 (by decide)⟩, K⟩
theorem atm1 {t : Nat} (K0 : KNO g nf n nd br af om nt HX) (D : DES L xs g n nd af om nt HX fv ch dr h) (ht : t < nt) (K : Q (Int32.ofNat ((ttM g n fv (orM g n nd af om fv ch dr)).2.1 t)) h) : CI (d + 2) 180 [.ref 1000, .int (Int32.ofNat t), .int 1] h Q := by
  have t24 : t < 24 := by have := K0.2.2.1; omega
  have t31 : t < 2147483648 := by omega
  have S := D.ct
  refine s180 (d := d) K0 D ht (by decide) (by decide) ?_
  rw [e179, if_neg (i_neg t31), if_pos (by rw [show (24 : Int32) = Int32.ofNat 24 from rfl, i_lt t31 (by decide)]; exact t24), if_neg (by decide), if_pos rfl, S.2.2.2.2.2.2.2.1, S.2.2.2.2.2.2.2.2.2.2.2.2.1.1, S.2.2.2.2.2.2.2.2.2.2.2.2.1.2, i_nat t31, (D.dn.2.2.2.1 t t24).2.1]
  exact ⟨⟨S.1, by decide⟩, ⟨⟨by decide, by decide⟩, i_in t24 (by decide)⟩, K⟩
theorem atm2 {t : Nat} (K0 : KNO g nf n nd br af om nt HX) (D : DES L xs g n nd af om nt HX fv ch dr h) (ht : t < nt) (K : Q ((ttM g n fv (orM g n nd af om fv ch dr)).2.2 t) h) : CI (d + 2) 180 [.ref 1000, .int (Int32.ofNat t), .int 2] h Q := by
  have t24 : t < 24 := by have := K0.2.2.1; omega
  have t31 : t < 2147483648 := by omega
  have S := D.ct
  refine s180 (d := d) K0 D ht (by decide) (by decide) ?_
  rw [e179, if_neg (i_neg t31), if_pos (by rw [show (24 : Int32) = Int32.ofNat 24 from rfl, i_lt t31 (by decide)]; exact t24), if_neg (by decide), if_neg (by decide), S.2.2.2.2.2.2.2.2.1, S.2.2.2.2.2.2.2.2.2.2.2.2.2.1.1, S.2.2.2.2.2.2.2.2.2.2.2.2.2.1.2, i_nat t31, (D.dn.2.2.2.1 t t24).2.2]
  exact ⟨⟨S.1, by decide⟩, ⟨⟨by decide, by decide⟩, i_in t24 (by decide)⟩, K⟩
end ASK2
