/-! The law: each clause. -/
/-- needed by one of the first o that are in -/
def nqd (Ds : List CLD) (m c : Nat) : Nat → Bool
  | 0 => false
  | o + 1 => nqd Ds m c o || (decide (o ≠ c) && (m.testBit o && (ndD Ds o).testBit c))
theorem bi_t : bi true = 1 := rfl
theorem bi_f : bi false = 0 := rfl
theorem nqd_iff (Ds : List CLD) (m c : Nat) : ∀ k, nqd Ds m c k = true ↔ ∃ o, o < k ∧ o ≠ c ∧ m.testBit o = true ∧ (ndD Ds o).testBit c = true := by
  intro k
  induction k with
  | zero => exact ⟨fun q => absurd q Bool.false_ne_true, fun ⟨o, q, _⟩ => absurd q (Nat.not_lt_zero _)⟩
  | succ k ih =>
    show (nqd Ds m c k || (decide (k ≠ c) && (m.testBit k && (ndD Ds k).testBit c))) = true ↔ _
    rw [Bool.or_eq_true, Bool.and_eq_true, Bool.and_eq_true, decide_eq_true_eq, ih]
    constructor
    · rintro (⟨o, a1, a2⟩ | ⟨a1, a2, a3⟩)
      · exact ⟨o, by omega, a2⟩
      · exact ⟨k, by omega, a1, a2, a3⟩
    · rintro ⟨o, a1, a2, a3, a4⟩
      by_cases z : o = k
      · right; rw [z] at a2 a3 a4; exact ⟨a2, a3, a4⟩
      · left; exact ⟨o, by omega, a2, a3, a4⟩
theorem drop_c {l : List Nat} {j : Nat} (hj : j < l.length) : l.drop j = l.getD j 0 :: l.drop (j + 1) := by
  rw [List.drop_eq_getElem_cons hj, List.getD_eq_getElem?_getD, List.getElem?_eq_getElem hj]; rfl
theorem getD_in {l : List Nat} {j : Nat} (hj : j < l.length) : l.getD j 0 ∈ l := by
  rw [List.getD_eq_getElem?_getD, List.getElem?_eq_getElem hj]
  exact List.getElem_mem _
/-- wanted -/
def wtd (hd ch dr om c : Nat) : Bool := ch.testBit c || (hd.testBit c && !dr.testBit c && !om.testBit c)
section LAW3
variable {d L nf n om nt ch dr sm p N x u m a c : Nat} {xs : Nat → Int32} {g h h1 : PH} {Ds : List CLD} {fv : Nat → Int32} {ord KL : List Nat} {TT : (Nat → Nat) × (Nat → Nat) × (Nat → Int32)} {Q : Option Value → PH → Prop} {x5 x6 x8 x9 x14 : Int32} {A B E : Nat}
theorem l385 {b : Nat} {l : List Nat} (W : LWK g nf n Ds om nt) (C : CON g n Ds om nt fv ch dr m ord KL TT) (S : ST L xs g nf n Ds om nt fv ch dr sm p N x u h) (R : ROW h b l N) (hl : ∀ o ∈ l, o < n) (l2 : l.length ≤ 2) :
    ∀ (k j e : Nat), j + k = l.length → wp (d + 8) 189 406 (lo181 sm (Int32.ofNat n) x5 x6 (Int32.ofNat m) x8 x9 a (Int32.ofNat A) (Int32.ofNat B) (Int32.ofNat (e + sumN (fun o => if plI ord c < plI ord o then 1 else 0) (l.drop j))) x14 (Int32.ofNat c)) [] h Q →
    wp (d + 8) 189 385 (lo329 sm (Int32.ofNat n) x5 x6 (Int32.ofNat m) x8 x9 a (Int32.ofNat A) (Int32.ofNat B) (Int32.ofNat e) x14 (Int32.ofNat c) (plI ord c) b (Int32.ofNat l.length) (Int32.ofNat j)) [] h Q := by
  have l31 : l.length < 2147483648 := by omega
  intro k
  induction k with
  | zero =>
    intro j e hj K
    have ej : j = l.length := by omega
    have nn : ¬ l.length < l.length := by omega
    rw [ej, List.drop_length] at K
    have K : wp (d + 8) 189 406 (lo181 sm (Int32.ofNat n) x5 x6 (Int32.ofNat m) x8 x9 a (Int32.ofNat A) (Int32.ofNat B) (Int32.ofNat (e + 0)) x14 (Int32.ofNat c)) [] h Q := K
    rw [Nat.add_zero] at K
    rw [r189_385, ej, if_neg (by rw [i_lt l31 l31]; exact nn)]
    exact K
  | succ k ih =>
    intro j e hj K
    have jl : j < l.length := by omega
    have j31 : j < 2147483648 := by omega
    have hin : p_in (Int32.ofNat j) l.length := i_in jl (by omega)
    have rk : p_kI (p_kd h b) = true ∧ ¬ b = 0 := by have := R.2.1; rw [R.1]; exact ⟨by decide, by omega⟩
    rw [drop_c jl] at K
    have K : wp (d + 8) 189 406 (lo181 sm (Int32.ofNat n) x5 x6 (Int32.ofNat m) x8 x9 a (Int32.ofNat A) (Int32.ofNat B) (Int32.ofNat (e + ((if plI ord c < plI ord (l.getD j 0) then 1 else 0) + sumN (fun o => if plI ord c < plI ord o then 1 else 0) (l.drop (j + 1))))) x14 (Int32.ofNat c)) [] h Q := K
    rw [← Nat.add_assoc] at K
    have K1 := ih (j + 1) _ (by omega) K
    rw [r189_385, if_pos (by rw [i_lt j31 l31]; exact jl), R.2.2.2.1, i_nat j31, R.2.2.2.2 j jl]
    refine ⟨⟨rk, hin⟩, S.k1, lq3 (d := d) W C S (hl _ (getD_in jl)) ?_⟩
    by_cases z : plI ord c < plI ord (l.getD j 0)
    · rw [if_pos z] at K1
      rw [if_pos z, r189_402, i_inc, i_inc]
      exact K1
    · rw [if_neg z, Nat.add_zero] at K1
      rw [if_neg z, r189_402, Int32.add_zero, i_inc]
      exact K1
theorem l356 {b : Nat} {l : List Nat} (W : LWK g nf n Ds om nt) (C : CON g n Ds om nt fv ch dr m ord KL TT) (S : ST L xs g nf n Ds om nt fv ch dr sm p N x u h) (hc : c < n) (R : ROW h b l N) (hl : ∀ o ∈ l, o < n) (l2 : l.length ≤ 2) :
    ∀ (k j e : Nat), j + k = l.length → wp (d + 8) 189 406 (lo181 sm (Int32.ofNat n) x5 x6 (Int32.ofNat m) x8 x9 a (Int32.ofNat A) (Int32.ofNat (e + sumN (fun o => if m.testBit o = true then 0 else 1) (l.drop j))) (Int32.ofNat (E + FAN ord Ds c)) x14 (Int32.ofNat c)) [] h Q →
    wp (d + 8) 189 356 (lo329 sm (Int32.ofNat n) x5 x6 (Int32.ofNat m) x8 x9 a (Int32.ofNat A) (Int32.ofNat e) (Int32.ofNat E) x14 (Int32.ofNat c) (plI ord c) b (Int32.ofNat l.length) (Int32.ofNat j)) [] h Q := by
  have n7 := W.n7
  have m7 := p128 n7 (C.lt W S.1.2.2.2.1.1)
  have l31 : l.length < 2147483648 := by omega
  intro k
  induction k with
  | zero =>
    intro j e hj K
    have ej : j = l.length := by omega
    have nn : ¬ l.length < l.length := by omega
    rw [ej, List.drop_length] at K
    have K : wp (d + 8) 189 406 (lo181 sm (Int32.ofNat n) x5 x6 (Int32.ofNat m) x8 x9 a (Int32.ofNat A) (Int32.ofNat (e + 0)) (Int32.ofNat (E + FAN ord Ds c)) x14 (Int32.ofNat c)) [] h Q := K
    rw [Nat.add_zero] at K
    obtain ⟨q1, b2, q2, q3⟩ := S.2.1.r11 hc n7
    have ok := W.ok hc
    rw [r189_356, ej, if_neg (by rw [i_lt l31 l31]; exact nn), q2, q3.2.2.2.1]
    exact ⟨S.ks, q1, q3.k, l385 (d := d) W C S q3 (fun o ho => (ok.2.2.2.2.2.2.2.2.2.2 o ho).1) ok.2.2.2.2.2.2.2.1 _ 0 E (Nat.zero_add _) K⟩
  | succ k ih =>
    intro j e hj K
    have jl : j < l.length := by omega
    have j31 : j < 2147483648 := by omega
    have hin : p_in (Int32.ofNat j) l.length := i_in jl (by omega)
    have rk : p_kI (p_kd h b) = true ∧ ¬ b = 0 := by have := R.2.1; rw [R.1]; exact ⟨by decide, by omega⟩
    have o16 : l.getD j 0 < 16 := by have := hl _ (getD_in jl); omega
    rw [drop_c jl] at K
    have K : wp (d + 8) 189 406 (lo181 sm (Int32.ofNat n) x5 x6 (Int32.ofNat m) x8 x9 a (Int32.ofNat A) (Int32.ofNat (e + ((if m.testBit (l.getD j 0) = true then 0 else 1) + sumN (fun o => if m.testBit o = true then 0 else 1) (l.drop (j + 1))))) (Int32.ofNat (E + FAN ord Ds c)) x14 (Int32.ofNat c)) [] h Q := K
    rw [← Nat.add_assoc] at K
    have K1 := ih (j + 1) _ (by omega) K
    rw [r189_356, if_pos (by rw [i_lt j31 l31]; exact jl), R.2.2.2.1, i_nat j31, R.2.2.2.2 j jl, hb_bi m m7 _ o16, i_inc]
    refine ⟨⟨rk, hin⟩, ?_⟩
    cases hb : m.testBit (l.getD j 0) with
    | true =>
      rw [hb, if_pos rfl, Nat.add_zero] at K1
      rw [show (1 : Int32) - bi true = 0 from by decide, Int32.add_zero]
      exact K1
    | false =>
      rw [hb, if_neg (by decide)] at K1
      rw [show (1 : Int32) - bi false = 1 from by decide, i_inc]
      exact K1
theorem l329 {b : Nat} {l : List Nat} (W : LWK g nf n Ds om nt) (C : CON g n Ds om nt fv ch dr m ord KL TT) (S : ST L xs g nf n Ds om nt fv ch dr sm p N x u h) (hc : c < n) (R : ROW h b l N) (hl : ∀ o ∈ l, o < n) (l2 : l.length ≤ 2) :
    ∀ (k j e : Nat), j + k = l.length → wp (d + 8) 189 406 (lo181 sm (Int32.ofNat n) x5 x6 (Int32.ofNat m) x8 x9 a (Int32.ofNat (e + sumN (fun o => if m.testBit o = true then 1 else 0) (l.drop j))) (Int32.ofNat (B + FNN m Ds c)) (Int32.ofNat (E + FAN ord Ds c)) x14 (Int32.ofNat c)) [] h Q →
    wp (d + 8) 189 329 (lo329 sm (Int32.ofNat n) x5 x6 (Int32.ofNat m) x8 x9 a (Int32.ofNat e) (Int32.ofNat B) (Int32.ofNat E) x14 (Int32.ofNat c) (plI ord c) b (Int32.ofNat l.length) (Int32.ofNat j)) [] h Q := by
  have n7 := W.n7
  have m7 := p128 n7 (C.lt W S.1.2.2.2.1.1)
  have l31 : l.length < 2147483648 := by omega
  intro k
  induction k with
  | zero =>
    intro j e hj K
    have ej : j = l.length := by omega
    have nn : ¬ l.length < l.length := by omega
    rw [ej, List.drop_length] at K
    have K : wp (d + 8) 189 406 (lo181 sm (Int32.ofNat n) x5 x6 (Int32.ofNat m) x8 x9 a (Int32.ofNat (e + 0)) (Int32.ofNat (B + FNN m Ds c)) (Int32.ofNat (E + FAN ord Ds c)) x14 (Int32.ofNat c)) [] h Q := K
    rw [Nat.add_zero] at K
    obtain ⟨q1, b2, q2, q3⟩ := S.2.1.r9 hc n7
    have ok := W.ok hc
    rw [r189_329, ej, if_neg (by rw [i_lt l31 l31]; exact nn), q2, q3.2.2.2.1]
    exact ⟨S.ks, q1, q3.k, l356 (d := d) W C S hc q3 (fun o ho => (ok.2.2.2.2.2.2.2.2.1 o ho).1) ok.2.2.2.2.2.1 _ 0 B (Nat.zero_add _) K⟩
  | succ k ih =>
    intro j e hj K
    have jl : j < l.length := by omega
    have j31 : j < 2147483648 := by omega
    have hin : p_in (Int32.ofNat j) l.length := i_in jl (by omega)
    have rk : p_kI (p_kd h b) = true ∧ ¬ b = 0 := by have := R.2.1; rw [R.1]; exact ⟨by decide, by omega⟩
    have o16 : l.getD j 0 < 16 := by have := hl _ (getD_in jl); omega
    rw [drop_c jl] at K
    have K : wp (d + 8) 189 406 (lo181 sm (Int32.ofNat n) x5 x6 (Int32.ofNat m) x8 x9 a (Int32.ofNat (e + ((if m.testBit (l.getD j 0) = true then 1 else 0) + sumN (fun o => if m.testBit o = true then 1 else 0) (l.drop (j + 1))))) (Int32.ofNat (B + FNN m Ds c)) (Int32.ofNat (E + FAN ord Ds c)) x14 (Int32.ofNat c)) [] h Q := K
    rw [← Nat.add_assoc] at K
    have K1 := ih (j + 1) _ (by omega) K
    rw [r189_329, if_pos (by rw [i_lt j31 l31]; exact jl), R.2.2.2.1, i_nat j31, R.2.2.2.2 j jl, hb_bi m m7 _ o16, i_inc]
    refine ⟨⟨rk, hin⟩, ?_⟩
    cases hb : m.testBit (l.getD j 0) with
    | true =>
      rw [hb, if_pos rfl] at K1
      rw [show bi true = 1 from rfl, i_inc]
      exact K1
    | false =>
      rw [hb, if_neg (by decide), Nat.add_zero] at K1
      rw [show bi false = 0 from rfl, Int32.add_zero]
      exact K1
/-- a clause's number, what it holds -/
theorem l276 (W : LWK g nf n Ds om nt) (C : CON g n Ds om nt fv ch dr m ord KL TT) (S : ST L xs g nf n Ds om nt fv ch dr sm p N x u h) (hc : c < n)
    (K0 : m.testBit c = false → wp (d + 8) 189 406 (lo181 sm (Int32.ofNat n) x5 x6 (Int32.ofNat m) (Int32.ofNat ord.length) x9 a (Int32.ofNat A) (Int32.ofNat B) (Int32.ofNat E) x14 (Int32.ofNat c)) [] h Q)
    (K1 : m.testBit c = true → ∀ h1, ST L xs g nf n Ds om nt fv ch dr sm p N x u h1 → FR wA wAs h h1 → wp (d + 8) 189 406 (lo181 sm (Int32.ofNat n) x5 x6 (Int32.ofNat m) (Int32.ofNat ord.length) x9 a (Int32.ofNat (A + FBN m Ds c)) (Int32.ofNat (B + FNN m Ds c)) (Int32.ofNat (E + FAN ord Ds c)) (x14 + BYN g fv ord c) (Int32.ofNat c)) [] h1 Q) :
    wp (d + 8) 189 276 (lo276 sm (Int32.ofNat n) x5 x6 (Int32.ofNat m) (Int32.ofNat ord.length) x9 a (Int32.ofNat A) (Int32.ofNat B) (Int32.ofNat E) x14 (Int32.ofNat c) (bi (m.testBit c))) [] h Q := by
  have n7 := W.n7
  have m7 := p128 n7 (C.lt W S.1.2.2.2.1.1)
  obtain ⟨q1, q2, q3⟩ := C.plc W S.1.2.2.2.1.1 c
  have c31 : c < 2147483648 := by omega
  have o31 : ord.length < 2147483648 := by omega
  have p31 : plc ord c < 2147483648 := by omega
  have ep : (0 < plI ord c) = (0 < plc ord c) := i_lt (by decide) p31
  rw [r189_276]
  refine ⟨S.k1, lq3 (d := d) W C S hc ?_⟩
  cases hb : m.testBit c with
  | false =>
    have z : plc ord c = 0 := q1.mpr hb
    have nz : ¬ 0 < plc ord c := by omega
    have ez : plI ord c = 0 := by unfold plI; rw [z]; rfl
    have nl : ¬ ord.length < 0 := by omega
    rw [if_neg (by rw [ep]; exact nz), r189_287, if_pos bi_f, ez, if_neg (by rw [show (0 : Int32) = Int32.ofNat 0 from rfl, i_lt o31 (by decide)]; exact nl), if_pos bi_f, r189_300, if_pos bi_f]
    exact K0 hb
  | true =>
    have nz : ¬ plc ord c = 0 := fun z => by rw [q1.mp z] at hb; exact absurd hb (by decide)
    have pz : 0 < plc ord c := by omega
    have hmem : c ∈ ord := by
      by_cases y : c ∈ ord
      · exact y
      · exact absurd (plc_not y) nz
    obtain ⟨g1, g2, g3⟩ := plc_mem hmem
    have nl : ¬ ord.length < plc ord c := by omega
    have n9 : ¬ 9 < plc ord c := by omega
    rw [if_pos (by rw [ep]; exact pz), r189_287, if_pos bi_t, if_neg (by show ¬ Int32.ofNat ord.length < Int32.ofNat (plc ord c); rw [i_lt o31 p31]; exact nl), if_neg (by decide)]
    refine ⟨S.k1, lpl (d := d) W C S g1 g2 ?_⟩
    rw [g3, if_pos rfl, r189_300, if_neg (by decide)]
    refine ⟨S.k1, lq8 (d := d) W C S hc (fun h1 S1 F => ?_)⟩
    obtain ⟨t1, b2, t2, t3⟩ := S1.2.1.r10 hc n7
    have ok := W.ok hc
    have K2 := K1 hb h1 S1 F
    have e14 : x14 + ((itd g fv (plI ord) c + 3) + 1) = x14 + BYN g fv ord c := by
      unfold BYN
      rw [Int32.add_assoc (itd g fv (plI ord) c), show (3 : Int32) + 1 = 4 from by decide, Int32.add_comm (itd g fv (plI ord) c) 4]
    rw [if_neg (by show ¬ (9 : Int32) < Int32.ofNat (plc ord c); rw [show (9 : Int32) = Int32.ofNat 9 from rfl, i_lt (by decide) p31]; exact n9), r189_316, t2, t3.2.2.2.1, e14]
    exact ⟨S1.ks, t1, t3.k, l329 (d := d) W C S1 hc t3 (fun o ho => (ok.2.2.2.2.2.2.2.2.2.1 o ho).1) (by have := ok.2.2.2.2.2.2.1; omega) _ 0 A (Nat.zero_add _) K2⟩
/-- whether it is wanted or needed -/
theorem l224 (W : LWK g nf n Ds om nt) (C : CON g n Ds om nt fv ch dr m ord KL TT) (S : ST L xs g nf n Ds om nt fv ch dr sm p N x u h) (hc : c < n)
    (K : wp (d + 8) 189 276 (lo276 sm (Int32.ofNat n) x5 x6 (Int32.ofNat m) x8 x9 a (Int32.ofNat A) (Int32.ofNat B) (Int32.ofNat E) x14 (Int32.ofNat c) (bi (m.testBit c))) [] h Q) :
    ∀ (k o : Nat), o + k = n → wp (d + 8) 189 224 (lo224 sm (Int32.ofNat n) x5 x6 (Int32.ofNat m) x8 x9 a (Int32.ofNat A) (Int32.ofNat B) (Int32.ofNat E) x14 (Int32.ofNat c) (bi (m.testBit c)) (cho ch dr c) (bi (wtd (hld g fv n) ch dr om c)) (bi (nqd Ds m c o)) (Int32.ofNat o)) [] h Q := by
  have n7 := W.n7
  have m7 := p128 n7 (C.lt W S.1.2.2.2.1.1)
  have n31 : n < 2147483648 := by omega
  have c31 : c < 2147483648 := by omega
  have c16 : c < 16 := by omega
  intro k
  induction k with
  | zero =>
    intro o ho
    have e : o = n := by omega
    have nn : ¬ n < n := by omega
    obtain ⟨f1, f2, f3⟩ := C.isin W S.1.2.2.2.1.1 hc
    have dis := S.1.2.2.2.2.1 c
    have nq := nqd_iff Ds m c n
    rw [r189_224, e, if_neg (by rw [i_lt n31 n31]; exact nn)]
    have f1 : wtd (hld g fv n) ch dr om c = true → m.testBit c = true := f1
    have f2 : m.testBit c = true → wtd (hld g fv n) ch dr om c = true ∨ ∃ o, o < n ∧ o ≠ c ∧ m.testBit o = true ∧ (ndD Ds o).testBit c = true ∧ dr.testBit c = false := f2
    have cz : ch.testBit c = false → (cho ch dr c = 0 ↔ dr.testBit c = true) := fun q => by
      unfold cho
      rw [if_neg (by rw [q]; decide)]
      cases hd : dr.testBit c with
      | true => rw [if_pos rfl]; exact ⟨fun _ => rfl, fun _ => rfl⟩
      | false => rw [if_neg (by decide)]; exact ⟨fun z => absurd z (by decide), fun z => absurd z (by decide)⟩
    have cw : wtd (hld g fv n) ch dr om c = false → ch.testBit c = false := fun q => by
      unfold wtd at q
      rw [Bool.or_eq_false_iff] at q
      exact q.1
    cases hw : wtd (hld g fv n) ch dr om c with
    | true =>
      have hb := f1 hw
      rw [hb] at K
      rw [hb, if_neg (by decide), r189_264, r189_267, if_pos bi_t, if_neg (by decide)]
      exact K
    | false =>
      rw [if_pos (by decide)]
      have hch := cw hw
      cases hb : m.testBit c with
      | true =>
        rw [hb] at K
        rcases f2 hb with q | ⟨o, o1, o2, o3, o4, o5⟩
        · rw [hw] at q; exact absurd q (by decide)
        · have hn : nqd Ds m c n = true := nq.mpr ⟨o, o1, o2, o3, o4⟩
          have nz : ¬ cho ch dr c = 0 := fun z => by rw [(cz hch).mp z] at o5; exact absurd o5 (by decide)
          rw [hn, if_neg (by decide), if_neg (by decide), if_neg nz, r189_264, r189_267, if_pos bi_t, if_neg (by decide)]
          exact K
      | false =>
        rw [hb] at K
        rw [if_pos (by decide), r189_266, r189_267, if_pos bi_f, if_pos bi_f]
        cases hn : nqd Ds m c n with
        | false => rw [if_pos (by decide)]; exact K
        | true =>
          obtain ⟨o, o1, o2, o3, o4⟩ := nq.mp hn
          have hd : dr.testBit c = true := by
            cases hd : dr.testBit c with
            | true => rfl
            | false => have := f3 o o1 o3 o4 hd; rw [this] at hb; exact absurd hb (by decide)
          rw [if_neg (by decide), if_pos ((cz hch).mpr hd)]
          exact K
  | succ k ih =>
    intro o ho
    have oln : o < n := by omega
    have o31 : o < 2147483648 := by omega
    have o16 : o < 16 := by omega
    have K1 := ih (o + 1) (by omega)
    have go : ∀ b, nqd Ds m c (o + 1) = b → wp (d + 8) 189 252 (lo249 sm (Int32.ofNat n) x5 x6 (Int32.ofNat m) x8 x9 a (Int32.ofNat A) (Int32.ofNat B) (Int32.ofNat E) x14 (Int32.ofNat c) (bi (m.testBit c)) (cho ch dr c) (bi (wtd (hld g fv n) ch dr om c)) (Int32.ofNat o)) [.int (bi b)] h Q := fun b hb => by
      rw [hb] at K1
      rw [r189_252, i_inc]
      exact K1
    have eq1 : nqd Ds m c (o + 1) = (nqd Ds m c o || (decide (o ≠ c) && (m.testBit o && (ndD Ds o).testBit c))) := rfl
    rw [r189_224, if_pos (by rw [i_lt o31 n31]; exact oln)]
    cases h0 : nqd Ds m c o with
    | true =>
      rw [h0, Bool.true_or] at eq1
      rw [if_neg (by decide), r189_249]
      exact go true eq1
    | false =>
      rw [h0, Bool.false_or] at eq1
      rw [if_pos (by decide)]
      by_cases z : o = c
      · rw [decide_eq_false (fun q => q z), Bool.false_and] at eq1
        rw [if_pos (by rw [z]), r189_251]
        exact go false eq1
      · have ec : ¬ Int32.ofNat o = Int32.ofNat c := by rw [i_eq o31 c31]; exact z
        rw [decide_eq_true z, Bool.true_and] at eq1
        rw [if_neg ec, hb_bi m m7 o o16]
        cases hb : m.testBit o with
        | false =>
          rw [hb, Bool.false_and] at eq1
          rw [if_neg (by decide), r189_251]
          exact go false eq1
        | true =>
          rw [hb, Bool.true_and] at eq1
          have nl : ndD Ds o < 128 := p128 n7 (W.1.1.2.2.2.2.2 o oln).1.2
          rw [if_pos (by decide)]
          refine ⟨S.k1, lq5 (d := d) W S oln ?_⟩
          rw [r189_245, hb_bi _ nl c c16]
          cases hd : (ndD Ds o).testBit c with
          | false =>
            rw [hd] at eq1
            rw [if_neg (by decide), r189_251]
            exact go false eq1
          | true =>
            rw [hd] at eq1
            rw [if_pos (by decide), r189_249]
            exact go true eq1
theorem l194 (W : LWK g nf n Ds om nt) (C : CON g n Ds om nt fv ch dr m ord KL TT) (S : ST L xs g nf n Ds om nt fv ch dr sm p N x u h) (hc : c < n)
    (K : wp (d + 8) 189 276 (lo276 sm (Int32.ofNat n) x5 x6 (Int32.ofNat m) x8 x9 a (Int32.ofNat A) (Int32.ofNat B) (Int32.ofNat E) x14 (Int32.ofNat c) (bi (m.testBit c))) [] h Q) :
    wp (d + 8) 189 194 (lo181 sm (Int32.ofNat n) x5 x6 (Int32.ofNat m) x8 x9 a (Int32.ofNat A) (Int32.ofNat B) (Int32.ofNat E) x14 (Int32.ofNat c)) [.int (bi (m.testBit c))] h Q := by
  have n7 := W.n7
  have K1 := l224 (d := d) (Q := Q) W C S hc K n 0 (Nat.zero_add _)
  have go : ∀ b, wtd (hld g fv n) ch dr om c = b → wp (d + 8) 189 219 (lo215 sm (Int32.ofNat n) x5 x6 (Int32.ofNat m) x8 x9 a (Int32.ofNat A) (Int32.ofNat B) (Int32.ofNat E) x14 (Int32.ofNat c) (bi (m.testBit c)) (cho ch dr c)) [.int (bi b)] h Q := fun b hb => by
    rw [hb] at K1
    rw [r189_219]
    exact K1
  rw [r189_194]
  refine ⟨S.k1, lq0 (d := d) W S hc ?_⟩
  have dis := S.1.2.2.2.2.1 c
  have hD := W.2.2.1.1
  have ho := W.2.2.2.2.2 c (by omega)
  have o1 := (W.ok hc).2.2.1
  cases h1 : ch.testBit c with
  | true =>
    have ec : cho ch dr c = 1 := by unfold cho; rw [if_pos h1]
    have ew : wtd (hld g fv n) ch dr om c = true := by unfold wtd; rw [h1]; rfl
    have G := go true ew
    rw [ec] at G ⊢
    rw [if_pos rfl, r189_216]
    exact G
  | false =>
    cases h2 : dr.testBit c with
    | true =>
      have ec : cho ch dr c = 0 := by unfold cho; rw [if_neg (by rw [h1]; decide), if_pos h2]
      have ew : wtd (hld g fv n) ch dr om c = false := by unfold wtd; rw [h1, h2]; simp
      have G := go false ew
      rw [ec] at G ⊢
      rw [if_neg (by decide), if_neg (by decide), r189_218]
      exact G
    | false =>
      have ec : cho ch dr c = -1 := by unfold cho; rw [if_neg (by rw [h1]; decide), if_neg (by rw [h2]; decide)]
      obtain ⟨s1, s2⟩ := S.2.1.o6 hc n7
      have o31 : cl_o (Ds.getD c D0) < 2147483648 := by omega
      have eo : (Int32.ofNat (cl_o (Ds.getD c D0)) = 0) = (cl_o (Ds.getD c D0) = 0) := i_eq o31 (by decide)
      rw [ec] at go
      rw [ec, if_neg (by decide), if_pos (by decide), s2]
      refine ⟨S.ks, s1, ?_⟩
      by_cases z : cl_o (Ds.getD c D0) = 0
      · have om0 : om.testBit c = false := by rw [ho]; exact decide_eq_false (by omega)
        have ew : wtd (hld g fv n) ch dr om c = (hld g fv n).testBit c := by unfold wtd; rw [h1, h2, om0]; simp
        rw [if_pos (by rw [eo]; exact z)]
        refine ⟨S.k1, lq1 (d := d) W S hc ?_⟩
        rw [r189_215]
        cases hh : (hld g fv n).testBit c with
        | true =>
          rw [if_pos bi_t, r189_216]
          exact go true (ew.trans hh)
        | false =>
          rw [if_neg (by decide), r189_218]
          exact go false (ew.trans hh)
      · have om1 : om.testBit c = true := by rw [ho]; exact decide_eq_true (by omega)
        have ew : wtd (hld g fv n) ch dr om c = false := by unfold wtd; rw [h1, h2, om1]; simp
        rw [if_neg (by rw [eo]; exact z), r189_218]
        exact go false ew
theorem l181c (W : LWK g nf n Ds om nt) (C : CON g n Ds om nt fv ch dr m ord KL TT) (KK : ∀ h1, ST L xs g nf n Ds om nt fv ch dr sm p N x u h1 → wp (d + 8) 189 30 (lo30 sm (Int32.ofNat n) (x5 + 1)) [] h1 Q) :
    ∀ (k c : Nat) (h : PH), c + k = n → ST L xs g nf n Ds om nt fv ch dr sm p N x u h → KR a (fun j => cK j (KL.take 60)) h →
    wp (d + 8) 189 181 (lo181 sm (Int32.ofNat n) x5 x6 (Int32.ofNat m) (Int32.ofNat ord.length) (bsum (WFN Ds) m n) a (Int32.ofNat (bnN (FBN m Ds) m c)) (Int32.ofNat (bnN (FNN m Ds) m c)) (Int32.ofNat (bnN (FAN ord Ds) m c)) (bsum (BYN g fv ord) m c) (Int32.ofNat c)) [] h Q := by
  have n7 := W.n7
  have n31 : n < 2147483648 := by omega
  intro k
  induction k with
  | zero =>
    intro c h hk S R
    have e : c = n := by omega
    have nn : ¬ n < n := by omega
    have hch := S.1.2.2.2.1.1
    obtain ⟨-, -, ⟨t1, t2, t3⟩, -⟩ := C.told W hch
    have l31 : min KL.length 60 < 2147483648 := by omega
    have rk := R.k
    have fin := l437 (d := d) (Q := Q) (x5 := x5) (x6 := x6) W C S R KK
    rw [r189_181, e, if_neg (by rw [i_lt n31 n31]; exact nn)]
    refine ⟨S.k1, lc7 (d := d) C S ?_⟩
    rw [C.bytes W hch, e21]
    generalize bsum (BYN g fv ord) m n = y
    have tail : ∀ z, z = mnI y 6000 → (if mnI y 6000 = z then ((p_kd h 1000 = 1 ∧ ¬ 1000 = 0) ∧ CI (d + 8) 175 [.ref 1000, .int (6 : Int32)] h (fun z3 h3 => (if z3 < (60 : Int32) then (((p_kI (p_kd h3 a) = true ∧ ¬ a = 0) ∧ p_in (1 : Int32) (p_ln h3 a)) ∧ (if (p_im h3 a 1) = Int32.ofNat (bnN (FBN m Ds) m n) then wp (d + 8) 189 426 (lo426 sm (Int32.ofNat n) x5 x6 (Int32.ofNat m) (Int32.ofNat ord.length) (bsum (WFN Ds) m n) a (Int32.ofNat (bnN (FBN m Ds) m n)) (Int32.ofNat (bnN (FNN m Ds) m n)) (Int32.ofNat (bnN (FAN ord Ds) m n)) y) [.ref a] h3 Q else wp (d + 8) 189 436 lo436 [.int (0 : Int32)] h3 Q)) else wp (d + 8) 189 437 (lo437 sm (Int32.ofNat n) x5 x6 (Int32.ofNat m) (Int32.ofNat ord.length) (bsum (WFN Ds) m n) a (Int32.ofNat (bnN (FBN m Ds) m n)) (Int32.ofNat (bnN (FNN m Ds) m n))) [] h3 Q))) else wp (d + 8) 189 436 lo436 [.int (0 : Int32)] h Q) := fun z hz => by
      rw [if_pos hz.symm]
      refine ⟨S.k1, lc6 (d := d) C S ?_⟩
      by_cases y : KL.length < 60
      · have z1 : min KL.length 60 < 60 := by omega
        have h1 : p_im h a 1 = Int32.ofNat (cK 1 (KL.take 60)) := R.2.2.2 1 (by decide)
        have h2 : p_im h a 2 = Int32.ofNat (cK 2 (KL.take 60)) := R.2.2.2 2 (by decide)
        have h3 : p_im h a 3 = Int32.ofNat (cK 3 (KL.take 60)) := R.2.2.2 3 (by decide)
        rw [tk_60 y] at h1 h2 h3
        rw [if_pos (by rw [show (60 : Int32) = Int32.ofNat 60 from rfl, i_lt l31 (by decide)]; exact z1), R.2.2.1, h1, if_pos t1, r189_426, R.2.2.1, h2, if_pos t2, h3, if_pos t3]
        exact ⟨⟨rk, by decide, by decide⟩, ⟨rk, by decide, by decide⟩, ⟨rk, by decide, by decide⟩, fin⟩
      · have z1 : ¬ min KL.length 60 < 60 := by omega
        rw [if_neg (by rw [show (60 : Int32) = Int32.ofNat 60 from rfl, i_lt l31 (by decide)]; exact z1)]
        exact fin
    by_cases z : y < 6000
    · rw [if_pos z]
      refine tail y ?_
      unfold mnI
      rw [if_neg (fun q => by rw [Int32.lt_iff_toInt_lt] at z q; omega)]
    · rw [if_neg z]
      refine tail 6000 ?_
      unfold mnI
      by_cases q : 6000 < y
      · rw [if_pos q]
      · rw [if_neg q]
        apply Int32.toInt_inj.mp
        rw [Int32.lt_iff_toInt_lt] at z q
        omega
  | succ k ih =>
    intro c h hk S R
    have hc : c < n := by omega
    have c31 : c < 2147483648 := by omega
    have c16 : c < 16 := by omega
    have hch := S.1.2.2.2.1.1
    have m7 := p128 n7 (C.lt W hch)
    have K1 := fun h1 S1 R1 => ih (c + 1) h1 (by omega) S1 R1
    have f1 : bnN (FBN m Ds) m (c + 1) = bnN (FBN m Ds) m c + (if m.testBit c = true then FBN m Ds c else 0) := rfl
    have f2 : bnN (FNN m Ds) m (c + 1) = bnN (FNN m Ds) m c + (if m.testBit c = true then FNN m Ds c else 0) := rfl
    have f3 : bnN (FAN ord Ds) m (c + 1) = bnN (FAN ord Ds) m c + (if m.testBit c = true then FAN ord Ds c else 0) := rfl
    have f4 : bsum (BYN g fv ord) m (c + 1) = bsum (BYN g fv ord) m c + (if m.testBit c = true then BYN g fv ord c else 0) := rfl
    rw [f1, f2, f3, f4] at K1
    have N1 := l276 (d := d) (Q := Q) (x5 := x5) (x6 := x6) (x9 := bsum (WFN Ds) m n) (a := a) (A := bnN (FBN m Ds) m c) (B := bnN (FNN m Ds) m c) (E := bnN (FAN ord Ds) m c) (x14 := bsum (BYN g fv ord) m c) W C S hc (fun hb => by
      rw [if_neg (by rw [hb]; decide), if_neg (by rw [hb]; decide), if_neg (by rw [hb]; decide), if_neg (by rw [hb]; decide), Nat.add_zero, Nat.add_zero, Nat.add_zero, Int32.add_zero] at K1
      rw [r189_406, i_inc]
      exact K1 h S R) (fun hb h1 S1 F => by
      rw [if_pos hb, if_pos hb, if_pos hb, if_pos hb] at K1
      rw [r189_406, i_inc]
      exact K1 h1 S1 (R.fa F))
    have N2 := l194 (d := d) (Q := Q) W C S hc N1
    rw [r189_181, if_pos (by rw [i_lt c31 n31]; exact hc), hb_bi m m7 c c16]
    cases hb : m.testBit c with
    | true =>
      rw [hb] at N2
      rw [if_pos (by decide)]
      exact N2
    | false =>
      rw [hb] at N2
      rw [if_neg (by decide)]
      exact N2
end LAW3
