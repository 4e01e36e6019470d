/-! The law: all kinds together; terms. -/
def LNN (TT : (Nat → Nat) × (Nat → Nat) × (Nat → Int32)) (y : Nat) : Nat := if TT.1 y = 0 then TT.2.1 y else 0
section LAW2
variable {d L nf n om nt ch dr sm p N x u m a : Nat} {xs : Nat → Int32} {g h h1 : PH} {Ds : List CLD} {fv : Nat → Int32} {ord KL : List Nat} {TT : (Nat → Nat) × (Nat → Nat) × (Nat → Int32)} {Q : Option Value → PH → Prop} {x5 x6 : Int32}
theorem KR.k {kk : Nat → Nat} (R : KR a kk h) : p_kI (p_kd h a) = true ∧ ¬ a = 0 := by
  have := R.2.1
  rw [R.1]
  exact ⟨by decide, by omega⟩
theorem tk_60 (hl : KL.length < 60) : KL.take 60 = KL := List.take_of_length_le (by omega)
theorem l529 (W : LWK g nf n Ds om nt) (C : CON g n Ds om nt fv ch dr m ord KL TT) (S : ST L xs g nf n Ds om nt fv ch dr sm p N x u h) (R : KR a (fun j => cK j (KL.take 60)) h) (KK : ∀ h1, ST L xs g nf n Ds om nt fv ch dr sm p N x u h1 → wp (d + 8) 189 30 (lo30 sm (Int32.ofNat n) (x5 + 1)) [] h1 Q) :
    ∀ (k i : Nat), i + k = 8 → wp (d + 8) 189 529 (lo529 sm (Int32.ofNat n) x5 x6 (Int32.ofNat m) (Int32.ofNat ord.length) (bsum (WFN Ds) m n) a (Int32.ofNat (bnN (FBN m Ds) m n)) (Int32.ofNat (bnN (FNN m Ds) m n)) (Int32.ofNat (nsum (fun j => cK (j + 1) (KL.take 60)) i)) (Int32.ofNat (i + 1))) [] h Q := by
  have o7 := (C.plc W S.1.2.2.2.1.1 0).2.2
  have hK := (C.told W S.1.2.2.2.1.1).1
  intro k
  induction k with
  | zero =>
    intro i hi
    have e : i = 8 := by omega
    have hs : nsum (fun j => cK (j + 1) (KL.take 60)) 8 = min KL.length 60 := by
      have := cK_sum (l := KL.take 60) (fun z hz => hK z (List.mem_of_mem_take hz))
      rw [List.length_take] at this
      show 0 + cK 1 (KL.take 60) + cK 2 (KL.take 60) + cK 3 (KL.take 60) + cK 4 (KL.take 60) + cK 5 (KL.take 60) + cK 6 (KL.take 60) + cK 7 (KL.take 60) + cK 8 (KL.take 60) = _
      omega
    rw [r189_529, e, hs, if_neg (by decide)]
    refine ⟨S.k1, lc6 (d := d) C S ?_⟩
    rw [if_pos rfl]
    refine ⟨S.k1, lfr (d := d) W C S ?_⟩
    have o31 : ord.length < 2147483648 := by omega
    have ez : (Int32.ofNat ord.length = 0) = (ord.length = 0) := i_eq o31 (by decide)
    by_cases z : ord.length = 0
    · have z1 : Int32.ofNat ord.length = 0 := by rw [ez]; exact z
      rw [if_pos z1, if_pos z1]
      exact l565 (d := d) W C S fr_0 KK
    · have z1 : ¬ Int32.ofNat ord.length = 0 := by rw [ez]; exact z
      have m61 : min KL.length 60 < 61 := by omega
      have o8 : ord.length < 8 := by omega
      obtain ⟨q1, q2⟩ := fr_all _ m61 _ o8 z
      rw [if_neg z1, if_neg z1]
      exact ⟨q1, l565 (d := d) W C S q2 KK⟩
  | succ k ih =>
    intro i hi
    have i9 : i + 1 < 9 := by omega
    have i31 : i + 1 < 2147483648 := by omega
    have hin : p_in (Int32.ofNat (i + 1)) 9 := i_in i9 (by decide)
    have K1 := ih (i + 1) (by omega)
    have e2 : nsum (fun j => cK (j + 1) (KL.take 60)) (i + 1) = nsum (fun j => cK (j + 1) (KL.take 60)) i + cK (i + 1) (KL.take 60) := rfl
    have rk := R.k
    rw [r189_529, if_pos (by rw [show (9 : Int32) = Int32.ofNat 9 from rfl, i_lt i31 (by decide)]; exact i9)]
    refine ⟨S.k1, lcf (d := d) W C S (by omega) (by omega) ?_⟩
    rw [R.2.2.1, i_nat i31, R.2.2.2 _ i9, if_pos rfl, i_add, i_inc, ← e2]
    exact ⟨⟨rk, hin⟩, ⟨rk, hin⟩, K1⟩
theorem l443 (W : LWK g nf n Ds om nt) (C : CON g n Ds om nt fv ch dr m ord KL TT) (S : ST L xs g nf n Ds om nt fv ch dr sm p N x u h) (R : KR a (fun j => cK j (KL.take 60)) h) (KK : ∀ h1, ST L xs g nf n Ds om nt fv ch dr sm p N x u h1 → wp (d + 8) 189 30 (lo30 sm (Int32.ofNat n) (x5 + 1)) [] h1 Q) :
    ∀ (k t : Nat), t + k = nt → wp (d + 8) 189 443 (lo443 sm (Int32.ofNat n) x5 x6 (Int32.ofNat m) (Int32.ofNat ord.length) (bsum (WFN Ds) m n) a (Int32.ofNat (bnN (FBN m Ds) m n)) (Int32.ofNat (bnN (FNN m Ds) m n)) (Int32.ofNat (nsum (LNN TT) t)) (Int32.ofNat (nsum (idl TT) t)) (Int32.ofNat t)) [] h Q := by
  have n7 := W.n7
  have m7 := p128 n7 (C.lt W S.1.2.2.2.1.1)
  have nt24 := W.1.2.2.1
  have hmem := C.mem W S.1.2.2.2.1.1
  obtain ⟨-, TI, -, c6, c8⟩ := C.told W S.1.2.2.2.1.1
  have c6 : cK 6 KL = nsum (LNN TT) nt := c6
  have n31 : nt < 2147483648 := by omega
  have rk := R.k
  intro k
  induction k with
  | zero =>
    intro t ht
    have e : t = nt := by omega
    have nn : ¬ nt < nt := by omega
    have l31 : min KL.length 60 < 2147483648 := by omega
    have K0 := l529 (d := d) (Q := Q) (x5 := x5) (x6 := x6) W C S R KK 8 0 rfl
    have go : wp (d + 8) 189 525 (lo437 sm (Int32.ofNat n) x5 x6 (Int32.ofNat m) (Int32.ofNat ord.length) (bsum (WFN Ds) m n) a (Int32.ofNat (bnN (FBN m Ds) m n)) (Int32.ofNat (bnN (FNN m Ds) m n))) [] h Q := by
      rw [r189_525]
      exact K0
    rw [r189_443, S.2.1.2.1.2.2.2, e, if_neg (by rw [i_lt n31 n31]; exact nn)]
    refine ⟨S.ks, S.k1, lc6 (d := d) C S ?_⟩
    by_cases z : KL.length < 60
    · have z1 : min KL.length 60 < 60 := by omega
      have h6 : p_im h a 6 = Int32.ofNat (cK 6 (KL.take 60)) := R.2.2.2 6 (by decide)
      have h8 : p_im h a 8 = Int32.ofNat (cK 8 (KL.take 60)) := R.2.2.2 8 (by decide)
      rw [tk_60 z] at h6 h8
      rw [if_pos (by rw [show (60 : Int32) = Int32.ofNat 60 from rfl, i_lt l31 (by decide)]; exact z1), R.2.2.1, h6, if_pos (by rw [c6]), h8, if_pos (by rw [c8])]
      exact ⟨⟨rk, by decide, by decide⟩, ⟨rk, by decide, by decide⟩, go⟩
    · have z1 : ¬ min KL.length 60 < 60 := by omega
      rw [if_neg (by rw [show (60 : Int32) = Int32.ofNat 60 from rfl, i_lt l31 (by decide)]; exact z1)]
      exact go
  | succ k ih =>
    intro t ht
    have t31 : t < 2147483648 := by omega
    have tn : t < nt := by omega
    have K1 := ih (t + 1) (by omega)
    obtain ⟨⟨d1, d2⟩, d3⟩ := TI t
    have d31 : TT.1 t < 2147483648 := by omega
    have u31 : TT.2.1 t < 2147483648 := by omega
    have ed : (Int32.ofNat (TT.1 t) = 0) = (TT.1 t = 0) := i_eq d31 (by decide)
    have eu : (Int32.ofNat (TT.2.1 t) = 0) = (TT.2.1 t = 0) := i_eq u31 (by decide)
    have ep : (0 < Int32.ofNat (TT.1 t)) = (0 < TT.1 t) := i_lt (by decide) d31
    have s1 : nsum (LNN TT) (t + 1) = nsum (LNN TT) t + LNN TT t := rfl
    have s2 : nsum (idl TT) (t + 1) = nsum (idl TT) t + idl TT t := rfl
    rw [s1, s2] at K1
    unfold LNN idl at K1
    rw [r189_443, S.2.1.2.1.2.2.2, if_pos (by rw [i_lt t31 n31]; exact tn)]
    refine ⟨S.ks, S.k1, lt0 (d := d) W C S tn ⟨S.k1, lt1 (d := d) W C S tn ?_⟩⟩
    rw [if_neg (i_neg d31), if_neg (i_neg u31)]
    rcases d3 with ⟨d4, d5⟩ | ⟨d4, y, y1, y2, y3⟩
    · have nz : ¬ (0 < TT.1 t) := by omega
      rw [if_pos d4, if_neg (fun q => nz q.1), Nat.add_zero] at K1
      rw [if_pos (by rw [ed]; exact d4), r189_464, r189_466]
      refine ⟨S.k1, lt2 (d := d) W C S tn ?_⟩
      rw [d5, if_pos (by decide), r189_474, if_pos rfl, if_neg (by rw [ep]; exact nz), r189_488, if_pos (by rw [ed]; exact d4), r189_494, if_neg (by rw [ep]; exact nz), r189_503, r189_504, i_add, Int32.add_zero, i_inc]
      exact K1
    · have nz : ¬ TT.1 t = 0 := by omega
      have y16 : y < 16 := by omega
      have y31 : y < 2147483648 := by omega
      have yb := (hmem y y1).1
      rw [if_neg nz, Nat.add_zero] at K1
      rw [if_neg (by rw [ed]; exact nz), r189_466]
      refine ⟨S.k1, lt2 (d := d) W C S tn ?_⟩
      rw [y3, if_neg (i_neg y31), r189_474, if_pos rfl, if_pos (by rw [ep]; exact d4)]
      refine ⟨S.k1, lt2 (d := d) W C S tn ?_⟩
      rw [y3, hb_bi m m7 y y16, yb, if_neg (by decide), r189_488, if_neg (by rw [ed]; exact nz), r189_494, if_pos (by rw [ep]; exact d4), Int32.add_zero]
      by_cases z : TT.2.1 t = 0
      · rw [if_pos ⟨d4, z⟩] at K1
        rw [if_pos (by rw [eu]; exact z), r189_504, i_inc, i_inc]
        exact K1
      · rw [if_neg (fun q => z q.2), Nat.add_zero] at K1
        rw [if_neg (by rw [eu]; exact z), r189_503, r189_504, Int32.add_zero, i_inc]
        exact K1
theorem l437 (W : LWK g nf n Ds om nt) (C : CON g n Ds om nt fv ch dr m ord KL TT) (S : ST L xs g nf n Ds om nt fv ch dr sm p N x u h) (R : KR a (fun j => cK j (KL.take 60)) h) (KK : ∀ h1, ST L xs g nf n Ds om nt fv ch dr sm p N x u h1 → wp (d + 8) 189 30 (lo30 sm (Int32.ofNat n) (x5 + 1)) [] h1 Q) :
    wp (d + 8) 189 437 (lo437 sm (Int32.ofNat n) x5 x6 (Int32.ofNat m) (Int32.ofNat ord.length) (bsum (WFN Ds) m n) a (Int32.ofNat (bnN (FBN m Ds) m n)) (Int32.ofNat (bnN (FNN m Ds) m n))) [] h Q := by
  rw [r189_437]
  exact l443 (d := d) W C S R KK nt 0 (Nat.zero_add _)
end LAW2
