section GATH2
variable {d L n om c m s q p : Nat} {xs : Nat → Int32} {g h : PH} {nd br af : Nat → Nat} {sh : List Int32}
/-- the first loop -/
theorem l148 {ch dr : Nat} {fv : Nat → Int32} {Q : Option Value → PH → Prop} (V : LD g n nd br af om) : ∀ (k i : Nat) (h : PH), i + k = n → LIB L xs g h → CTS h c m → SCO h (c + 5) (c + 15) (c + 18) m → SSH h (c + 5) (shT g fv i) → p_im h 1066 = fv → p_im h c 3 = Int32.ofNat (hld g fv i) →
    (∀ h1, FR (wCt c) (wCs c) h h1 → CTS h1 c m → SCO h1 (c + 5) (c + 15) (c + 18) m → SSH h1 (c + 5) (shT g fv n) → p_im h1 c 3 = Int32.ofNat (hld g fv n) →
      wp (d + 5) 148 16 [.val (.ref c), .val (.ref 1034), .unset, .val (.int (Int32.ofNat ch)), .val (.int (Int32.ofNat dr)), .val (.int (Int32.ofNat n)), .unset] [] h1 Q) →
    wp (d + 5) 148 16 [.val (.ref c), .val (.ref 1034), .unset, .val (.int (Int32.ofNat ch)), .val (.int (Int32.ofNat dr)), .val (.int (Int32.ofNat i)), .unset] [] h Q := by
  obtain ⟨v1, v2, v3, v4, v5, v6⟩ := V
  intro k
  induction k with
  | zero =>
    intro i h hi B S O T ef eh K
    rw [show i = n from by omega] at T eh ⊢
    exact K h FR.rf S O T eh
  | succ k ih =>
    intro i h hi B S O T ef eh K
    have D := S.sdj
    obtain ⟨c1, c2, c3⟩ := B.cl (i := i) (by omega)
    have hc := S.2.1
    have hl := hld_lt g fv i
    have h128 : hld g fv i < 128 := Nat.lt_of_lt_of_le hl (Nat.pow_le_pow_right (n := 2) (by decide) (show i ≤ 7 by omega))
    rw [r148_16, B.im 1034 (by decide) (by decide), v3, if_pos (by rw [i_lt (by omega) (by omega)]; omega), c2, S.2.2.2.2.1, B.im (1047 + i) (by omega) (by omega), B.im (1047 + i) (by omega) (by omega)]
    refine ⟨B.lb, B.lb, c1, ⟨S.1, by omega⟩, c3, c3, ⟨O.1, by omega⟩, s141h B O D T (fun h3 R => ?_)⟩
    rw [ef] at R
    have B3 := R.lib B D
    have F3 : FR (wCt c) (wCs c) h h3 := R.ct
    have S3 : CTS h3 c m := S.fr0 R.1
    obtain ⟨-, -, e3⟩ := B3.cl (i := i) (by omega)
    rw [B3.im (1047 + i) (by omega) (by omega), B3.im (1047 + i) (by omega) (by omega), S3.2.2.2.2.1]
    have ic : p_im h3 c 3 = Int32.ofNat (hld g fv i) := by rw [R.1.im (by unfold wSP wS wP; omega), eh]
    rw [ic]
    refine ⟨⟨S3.1, by omega⟩, e3, e3, ?_⟩
    have fin : ∀ (b : Bool) (h4 : PH), b = tstf g fv i → FR (wS (c + 5)) w0 h3 h4 → SSH h4 (c + 5) (shT g fv (i + 1)) → wp (d + 5) 148 48 [.val (.ref c), .val (.ref 1034), .unset, .val (.int (Int32.ofNat ch)), .val (.int (Int32.ofNat dr)), .val (.int (Int32.ofNat i)), .unset] [.int (bi b), .int (Int32.ofNat i), .int (Int32.ofNat (hld g fv i)), .ref c] h4 Q := fun b h4 hb F4 T4 => by
      rw [r148_48]
      refine s143 h128 (by omega) ?_
      have S4 : CTS h4 c m := S3.fr0 F4
      have F5 : FR (wCt c) (wCs c) h4 (p_wi h4 c 3 (Int32.ofNat (bif b then hld g fv i ||| 2 ^ i else an (hld g fv i) (2 ^ i)))) := FR.wi _ (by unfold wCt; omega)
      have F4' : FR (wCt c) (wCs c) h3 h4 := F4.up (fun a z => by unfold wS at z; unfold wCt; omega) (fun _ z => z.elim)
      have F6 := (F3.tr F4').tr F5
      rw [i_ofNat1, i_add]
      refine ⟨⟨S4.1, by omega⟩, ih (i + 1) _ (by omega) (B.ct hc F6) (S4.fr0 (FR.wi (Wi := fun _ => True) _ trivial)) ?_ ?_ ?_ ?_ (fun h1 G => K h1 (F6.tr G))⟩
      · exact ((R.sco O).fr F4 (fun z => z) (fun z => z)).fr (FR.wi (Wi := fun _ => True) (Wr := w0) (a := c) (i := 3) _ trivial) (fun z => z) (fun z => z)
      · exact T4.fr (FR.wi (Wi := fun a => a = c) (Wr := w0) _ rfl) (by omega) (by omega)
      · funext j
        rw [F6.im (by unfold wCt; omega), ef]
      · rw [wi_im, if_pos ⟨rfl, rfl⟩, hb]; rfl
    have T3 : SSH h3 (c + 5) (shT g fv (i + 1)) := R.2.1.ssh
    by_cases z : p_im g (1047 + i) 7 = p_im g (1047 + i) 8
    · rw [if_pos z, r148_45]
      exact fin true h3 (by unfold tstf; rw [decide_eq_true z]; rfl) FR.rf T3
    · rw [if_neg z]
      refine ⟨⟨S3.1, by omega⟩, ⟨(R.sco O).1, by omega⟩, ?_⟩
      rw [e142]
      refine ⟨⟨(R.sco O).1, by omega⟩, s131 (R.sco O) D R.2.1 (fun h4 F4 T4 => ?_)⟩
      by_cases y : ppv (fS g fv (p_im g (1047 + i) 8) 600 (p_im g (1047 + i) 7) []) = 0
      · rw [if_pos y]
        refine ⟨Or.inl rfl, ?_⟩
        rw [if_pos rfl]
        exact fin false h4 (by unfold tstf; rw [decide_eq_false z, decide_eq_true y]; rfl) F4 T4.ssh
      · rw [if_neg y]
        refine ⟨Or.inr rfl, ?_⟩
        rw [if_neg (by decide), r148_45]
        exact fin true h4 (by unfold tstf; rw [decide_eq_false z, decide_eq_false y]; rfl) F4 T4.ssh
/-- what is wanted, and what is in -/
def wnt (ch dr om hd : Nat) : Nat := ch ||| an (an hd dr) om
theorem wnt_lt {ch dr om hd n : Nat} (h1 : ch < 2 ^ n) (h2 : hd < 2 ^ n) : wnt ch dr om hd < 2 ^ n := Nat.or_lt_two_pow h1 (an_lt (an_lt h2))
theorem s148 {ch dr : Nat} {Q : PH → Prop} (V : LD g n nd br af om) (B : LIB L xs g h) (S : CTS h c m) (hch : ch < 2 ^ n)
    (K : ∀ h1, FR (wCt c) (wCs c) h h1 → CTS h1 c m → SCO h1 (c + 5) (c + 15) (c + 18) m → SSH h1 (c + 5) (shT g (p_im h 1066) n) → p_im h1 c 3 = Int32.ofNat (hld g (p_im h 1066) n) → p_im h1 c 4 = Int32.ofNat (wnt ch dr om (hld g (p_im h 1066) n)) →
      DRO h1 (c + 13) (clo nd dr n 16 (wnt ch dr om (hld g (p_im h 1066) n))) (arr af 16 (clo nd dr n 16 (wnt ch dr om (hld g (p_im h 1066) n)))) → p_im h1 (c + 18) 1 = 0 → Q h1) :
    CV (d + 6) 148 [.ref c, .ref 1034, .ref 1066, .int (Int32.ofNat ch), .int (Int32.ofNat dr)] h Q := by
  have D := S.sdj
  have hc0 : ¬ c = 0 := by have := S.2.1; omega
  have hd0 : ¬ c + 13 = 0 := by omega
  have hs0 : ¬ c + 5 = 0 := by omega
  have hs6 : 1067 ≤ c + 5 := by have := S.2.1; omega
  have hps : c + 18 ≠ c + 5 := by omega
  have hc1 : 1000 ≤ c := by have := S.2.1; omega
  have w66 : ¬ wCt c 1066 := by have := S.2.1; unfold wCt; omega
  have wup : ∀ a, a = c + 5 → wCt c a := fun a z => by unfold wCt; omega
  have wcc : wCt c c := by unfold wCt; omega
  have wdc : ∀ a, wD (c + 13) a → wCt c a := fun a z => by unfold wD at z; unfold wCt; omega
  have n6 : ∀ a, a < c + 13 → ¬ wD (c + 13) a := fun a q1 q2 => by unfold wD at q2; omega
  have nn : ¬ n < n := by omega
  have n31 : n < 2147483648 := by have := V.1; omega
  have l0 : c < c + 13 := by omega
  have l5 : c + 5 < c + 13 := by omega
  have l7 : c + 5 + 2 < c + 13 := by omega
  have x5 : ¬ c + 5 = c := by omega
  have x7 : ¬ c + 5 + 2 = c := by omega
  obtain ⟨a1, a2, a3, a4, a5, a6, a7, a8, a9, b1, b2, b4, b6, b8, c1, f1, s1, dr1, q1⟩ := id S
  have hd := dr1
  obtain ⟨d1, d2, d3, d4, d5, d6, d7, d8, d9, e1, e2, pg⟩ := dr1
  rw [e148, a3, d4, d7, a5]
  refine ⟨⟨a1, hc0⟩, ⟨a1, hc0⟩, ⟨d1, hd0⟩, ⟨a1, hc0⟩, ⟨d1, hd0⟩, ⟨s1.1, hs0⟩, s128 (q := c + 15) (p := c + 18) (m := m) s1 hs6 pg q1 d9 hps (fun h1 F ej e4 e6 O T => ?_)⟩
  have F1 : FR (wCt c) (wCs c) h h1 := F.up wup (fun _ z => z)
  have F2 : FR (wCt c) (wCs c) h (p_wi h1 c 3 0) := F1.tr (FR.wi _ wcc)
  have S1 : CTS h1 c m := S.fr F (fun a z => Or.inl z) (fun _ => ⟨e4, e6⟩)
  have S2 : CTS (p_wi h1 c 3 0) c m := S1.fr0 (FR.wi (Wi := fun _ => True) _ trivial)
  have hf : p_im (p_wi h1 c 3 0) 1066 = p_im h 1066 := funext (fun j => F2.im w66 j)
  refine ⟨⟨S1.1, hc1⟩, l148 (d := d) (fv := p_im h 1066) (Q := fun v h1 => onV v (Q h1)) V n 0 _ (Nat.zero_add _) (B.ct a2 F2) S2 (O.fr (FR.wi (Wi := fun _ => True) (Wr := w0) _ trivial) (fun z => z) (fun z => z)) (T.fr (FR.wi (Wi := fun a => a = c) (Wr := w0) _ rfl) x5 x7) hf (by rw [wi_im, if_pos ⟨rfl, rfl⟩]; rfl) (fun h3 F3 S3 O3 T3 i3 => ?_)⟩
  have F4 := F2.tr F3
  have B3 := B.ct a2 F4
  have hl := hld_lt g (p_im h 1066) n
  have h128 := p128 V.1 hl
  have hw : wnt ch dr om (hld g (p_im h 1066) n) < 2 ^ n := wnt_lt hch hl
  have hV := V
  obtain ⟨v1, v2, v3, v4, v5, v6⟩ := V
  rw [r148_16, B3.im 1034 (by decide) (by decide), v3, if_neg (by rw [i_lt n31 n31]; exact nn), i3, B3.im 1034 (by decide) (by decide), v4, i_an h128, i_an (show an (hld g (p_im h 1066) n) dr < 128 from Nat.lt_of_le_of_lt Nat.and_le_left h128), i_or]
  have iw : p_im (p_wi h3 c 4 (Int32.ofNat (ch ||| an (an (hld g (p_im h 1066) n) dr) om))) c 4 = Int32.ofNat (ch ||| an (an (hld g (p_im h 1066) n) dr) om) := by rw [wi_im, if_pos ⟨rfl, rfl⟩]
  have rw0 : p_rm (p_wi h3 c 4 (Int32.ofNat (ch ||| an (an (hld g (p_im h 1066) n) dr) om))) c 0 = c + 13 := by rw [wi_rm]; exact S3.2.2.1
  rw [iw, rw0]
  have F5 : FR (wCt c) (wCs c) h (p_wi h3 c 4 (Int32.ofNat (ch ||| an (an (hld g (p_im h 1066) n) dr) om))) := F4.tr (FR.wi _ wcc)
  have B5 := B.ct a2 F5
  have S5 : CTS (p_wi h3 c 4 (Int32.ofNat (ch ||| an (an (hld g (p_im h 1066) n) dr) om))) c m := S3.fr0 (FR.wi (Wi := fun _ => True) _ trivial)
  refine ⟨B3.lb, ⟨S3.1, hc0⟩, B3.lb, ⟨S3.1, hc1⟩, ⟨S5.1, hc0⟩, ⟨S5.1, hc0⟩, B5.lb, ?_⟩
  refine s145 (d := d + 3) B5 hV hw ?_
  have D5 := S5.2.2.2.2.2.2.2.2.2.2.2.2.2.2.2.2.2.1
  refine ⟨⟨D5.1, hd0⟩, s147 (d := d + 2) B5 hV D5 (clo_lt (fun i hi => (v6 i hi).1.2) 16 _ hw) (fun h6 F6 R6 z6 => ?_)⟩
  have F7 : FR (wCt c) (wCs c) h h6 := F5.tr (F6.up wdc (fun _ z => z.elim))
  refine K h6 F7 (S5.fr0 F6) ?_ ?_ ?_ ?_ R6 z6
  · exact (O3.fr (FR.wi (Wi := fun _ => True) (Wr := w0) (a := c) (i := 4) (Int32.ofNat (ch ||| an (an (hld g (p_im h 1066) n) dr) om)) trivial) (fun z => z) (fun z => z)).fr F6 (fun z => z) (fun z => z)
  · exact (T3.fr (FR.wi (Wi := fun a => a = c) (Wr := w0) (a := c) (i := 4) (Int32.ofNat (ch ||| an (an (hld g (p_im h 1066) n) dr) om)) rfl) x5 x7).fr F6 (n6 _ l5) (n6 _ l7)
  · rw [F6.im (n6 _ l0), wi_im, if_neg (fun q => absurd q.2 (by decide)), i3]
  · rw [F6.im (n6 _ l0), iw]; rfl
end GATH2
