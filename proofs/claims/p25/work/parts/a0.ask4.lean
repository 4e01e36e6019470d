/-! Clauses are chosen; what would be. -/
section ASK4
variable {d L n nt ch dr om m nf c : Nat} {xs : Nat → Int32} {g h h1 : PH} {nd br af : Nat → Nat} {HX : Nat → List (Nat × Nat)} {fv : Nat → Int32} {Q : Int32 → PH → Prop}
theorem bi_w1 {w : Int32} : (bif decide (w = 1) then ch ||| 2 ^ c else an ch (2 ^ c)) = set1 ch c w := by
  unfold set1
  by_cases z : w = 1
  · rw [decide_eq_true z, if_pos z]; rfl
  · rw [decide_eq_false z, if_neg z]; rfl
theorem bi_w0 {w : Int32} : (bif decide (w = 0) then ch ||| 2 ^ c else an ch (2 ^ c)) = set0 ch c w := by
  unfold set0
  by_cases z : w = 0
  · rw [decide_eq_true z, if_pos z]; rfl
  · rw [decide_eq_false z, if_neg z]; rfl
theorem l168 {z : Int32} {b : Bool} {c1 d1 : Nat} {Q : Option Value → PH → Prop} (K0 : KNO g nf n nd br af om nt HX) (D : DES L xs g n nd af om nt HX fv ch dr h) (hc : c < 16) (l1 : c1 < 2 ^ n) (l2 : d1 < 2 ^ n) (dj : ∀ i, c1.testBit i = true → d1.testBit i = false) (eb : (bif b then dr ||| 2 ^ c else an dr (2 ^ c)) = d1)
    (K : ∀ h1, p_nx h1 = p_nx h → p_us h1 = p_us h → Ext h h1 (fun a => 1000 ≤ a ∧ a < 1120) → DES L xs g n nd af om nt HX fv c1 d1 h1 → Q (some (.int z)) h1) :
    wp (d + 7) 168 43 [.val (.ref 1000), .unset, .unset, .val (.int z)] [.int (bi b), .int (Int32.ofNat c), .int (p_im (p_wi h 1000 6 (Int32.ofNat c1)) 1000 7), .ref 1000] (p_wi h 1000 6 (Int32.ofNat c1)) Q := by
  obtain ⟨V, ent, hnt, hHX, enf, nf0, nf3⟩ := K0
  have e7 : p_im (p_wi h 1000 6 (Int32.ofNat c1)) 1000 7 = Int32.ofNat dr := by rw [wi_im, if_neg (fun z => absurd z.2 (by decide)), D.2.2.1.2]
  have D2 : DKS (p_wi (p_wi h 1000 6 (Int32.ofNat c1)) 1000 7 (Int32.ofNat d1)) := D.1.2.wi.wi
  have F1 : FR (fun a => a = 1000) w0 h (p_wi (p_wi h 1000 6 (Int32.ofNat c1)) 1000 7 (Int32.ofNat d1)) := FR.tr (FR.wi (Wi := fun a => a = 1000) (Wr := w0) (a := 1000) _ rfl) (FR.wi (a := 1000) _ rfl)
  have B2 : LIB L xs g (p_wi (p_wi h 1000 6 (Int32.ofNat c1)) 1000 7 (Int32.ofNat d1)) := D.1.1.fr F1 (fun a q z => by have z : a = 1000 := z; unfold wL at q; omega) (fun _ _ z => z)
  have i6 : p_im (p_wi (p_wi h 1000 6 (Int32.ofNat c1)) 1000 7 (Int32.ofNat d1)) 1000 6 = Int32.ofNat c1 := by rw [wi_im, if_neg (fun z => absurd z.2 (by decide)), wi_im, if_pos ⟨rfl, rfl⟩]
  have i7 : p_im (p_wi (p_wi h 1000 6 (Int32.ofNat c1)) 1000 7 (Int32.ofNat d1)) 1000 7 = Int32.ofNat d1 := by rw [wi_im, if_pos ⟨rfl, rfl⟩]
  have e66 : p_im (p_wi (p_wi h 1000 6 (Int32.ofNat c1)) 1000 7 (Int32.ofNat d1)) 1066 = fv := by
    rw [← D.2.1]
    funext j
    rw [wi_im, if_neg (fun z => absurd z.1 (by decide)), wi_im, if_neg (fun z => absurd z.1 (by decide))]
  have dl : dr < 128 := p128 V.1 D.2.2.2.1.2
  have w66 : ¬ wCt 1067 1066 := by unfold wCt; decide
  have w10 : ¬ wCt 1067 1000 := by unfold wCt; decide
  have kk : p_kd (p_wi h 1000 6 (Int32.ofNat c1)) 1000 = 1 ∧ 1000 ≤ 1000 := by rw [wi_kd]; exact ⟨D.k1.1, Nat.le_refl _⟩
  rw [r168_43, e7]
  refine s143 (d := d + 6) dl hc ?_
  rw [eb]
  refine ⟨kk, ?_⟩
  generalize p_wi (p_wi h 1000 6 (Int32.ofNat c1)) 1000 7 (Int32.ofNat d1) = H2 at *
  obtain ⟨q0, ⟨q1, q2, q3, q4, q5, q6, q7⟩, q8, q9, q10, q11⟩ := id D2
  have k1 : p_kd H2 1000 = 1 ∧ ¬ 1000 = 0 := ⟨q0, by decide⟩
  rw [q4, q2, q3, i6, i7]
  refine ⟨k1, k1, k1, k1, k1, ⟨q10.1, by decide⟩, s161 (d := d) V B2 q10 l1 ent hnt hHX (fun h2 F2 C2 N2 => ?_)⟩
  rw [e66] at N2
  refine K h2 (by rw [F2.1, F1.1]) (by rw [F2.2.1, F1.2.1]) ?_ ⟨DES.rd B2 D2 F2 C2, (funext (fun j => F2.im w66 j)).trans e66, ⟨(F2.im w10 6).trans i6, (F2.im w10 7).trans i7⟩, ⟨l1, l2⟩, dj, N2⟩
  refine (F1.ext.up (W1 := fun a => 1000 ≤ a ∧ a < 1120) (fun a _ q => ?_)).tr F2.ext (fun a _ q => ?_)
  · rcases q with q | q
    · have q : a = 1000 := q
      omega
    · exact q.elim
  · unfold wCt wCs at q
    omega
theorem s168 {w : Int32} (K0 : KNO g nf n nd br af om nt HX) (D : DES L xs g n nd af om nt HX fv ch dr h) (hc : c < n) (hw1 : ¬ w < -1) (hw2 : ¬ 1 < w) (K : ∀ z h1, p_nx h1 = p_nx h → p_us h1 = p_us h → Ext h h1 (fun a => 1000 ≤ a ∧ a < 1120) → DES L xs g n nd af om nt HX fv (set1 ch c w) (set0 dr c w) h1 → Q z h1) : CI (d + 8) 168 [.ref 1000, .int (Int32.ofNat c), .int w] h Q := by
  have v1 := K0.1.1
  have c16 : c < 16 := by omega
  have cl : ch < 128 := p128 v1 D.2.2.2.1.1
  have dl : dr < 128 := p128 v1 D.2.2.2.1.2
  have l1 : set1 ch c w < 2 ^ n := set1_lt hc D.2.2.2.1.1
  have l2 : set0 dr c w < 2 ^ n := set0_lt hc D.2.2.2.1.2
  have dj := set_dis (c := c) (w := w) cl dl D.2.2.2.2.1
  rw [e168]
  refine ⟨D.k1, s166 (d := d + 6) K0 D hc ?_⟩
  rw [if_neg (by decide), if_neg hw1, if_neg hw2]
  refine ⟨D.k1, s167 (d := d + 5) K0 D hc ⟨D.k1, ?_⟩⟩
  have go1 : ∀ b : Bool, b = decide (w = 1) → wp (d + 7) 168 32 [.val (.ref 1000), .val (.int (Int32.ofNat c)), .val (.int w), .val (.int (cho ch dr c))] [.int (bi b), .int (Int32.ofNat c), .int (p_im h 1000 6), .ref 1000] h (fun v h1 => onI v (fun x => Q x h1)) := fun b eb => by
    rw [r168_32, D.2.2.1.1]
    refine s143 (d := d + 6) cl c16 ?_
    rw [eb, bi_w1]
    have kk : p_kd (p_wi h 1000 6 (Int32.ofNat (set1 ch c w))) 1000 = 1 ∧ ¬ 1000 = 0 := by rw [wi_kd]; exact D.k1
    refine ⟨⟨D.k1.1, Nat.le_refl _⟩, kk, ?_⟩
    have go2 : ∀ b : Bool, b = decide (w = 0) → wp (d + 7) 168 43 [.val (.ref 1000), .unset, .unset, .val (.int (cho ch dr c))] [.int (bi b), .int (Int32.ofNat c), .int (p_im (p_wi h 1000 6 (Int32.ofNat (set1 ch c w))) 1000 7), .ref 1000] (p_wi h 1000 6 (Int32.ofNat (set1 ch c w))) (fun v h1 => onI v (fun x => Q x h1)) := fun b eb =>
      l168 (d := d) (Q := fun v h1 => onI v (fun x => Q x h1)) K0 D c16 l1 l2 dj (by rw [eb, bi_w0]) (fun h1 a b c d => K _ h1 a b c d)
    by_cases z : w = 0
    · rw [if_pos z]; exact go2 true (decide_eq_true z).symm
    · rw [if_neg z]; exact go2 false (decide_eq_false z).symm
  by_cases z : w = 1
  · rw [if_pos z]; exact go1 true (decide_eq_true z).symm
  · rw [if_neg z]; exact go1 false (decide_eq_false z).symm
/-- what would be answered -/
def wdR (g : PH) (n : Nat) (nd af : Nat → Nat) (om nt : Nat) (HX : Nat → List (Nat × Nat)) (fv : Nat → Int32) (ch dr : Nat) (x : Int32) : Int32 :=
  if x = 0 then Int32.ofNat (orM g n nd af om fv ch dr).length else if x = 1 then Int32.ofNat (min (klM g n HX nt fv (orM g n nd af om fv ch dr)).length 60) else bsum (wof g) (inM g n nd om fv ch dr &&& om) n
theorem l184 {b : Bool} {x : Int32} {c1 d1 : Nat} {Q : Option Value → PH → Prop} (K0 : KNO g nf n nd br af om nt HX) (D : DES L xs g n nd af om nt HX fv ch dr h) (hc : c < 16) (hx : x = 0 ∨ x = 1 ∨ x = 2) (l1 : c1 < 2 ^ n) (eb : (bif b then dr ||| 2 ^ c else an dr (2 ^ c)) = d1)
    (K : ∀ h1, FR wA wAs h h1 → DES L xs g n nd af om nt HX fv ch dr h1 → Q (some (.int (wdR g n nd af om nt HX fv c1 d1 x))) h1) :
    wp (d + 7) 184 47 [.val (.ref 1000), .unset, .unset, .val (.int x)] [.int (bi b), .int (Int32.ofNat c), .int (Int32.ofNat dr), .int (Int32.ofNat c1), .ref 1066, .ref 1034, .ref 1087] h Q := by
  obtain ⟨V, ent, hnt, hHX, enf, nf0, nf3⟩ := id K0
  have dl : dr < 128 := p128 V.1 D.2.2.2.1.2
  have T := D.1.2.2.2.2.2.2
  have S0 := D.1.2.2.2.1
  have lt2 : inM g n nd om fv c1 d1 < 2 ^ n := inM_lt V l1
  rw [r184_47]
  refine s143 (d := d + 6) dl hc ?_
  rw [eb]
  refine ⟨⟨T.1, by decide⟩, s161 (d := d) V D.1.1 T l1 ent hnt hHX (fun h2 F2 C2 N2 => ?_)⟩
  have F : FR wA wAs h h2 := F2.up (fun a q => by unfold wCt at q; unfold wA; omega) (fun a q => by have q : a = 1092 := q; unfold wAs; omega)
  have S2 : SCB h2 1107 := ⟨by rw [F2.kd]; exact S0.1, by rw [F2.rm (by unfold wCs; decide)]; exact S0.2.1, by rw [F2.rm (by unfold wCs; decide)]; exact S0.2.2.1, by rw [F2.kd]; exact S0.2.2.2.1, by rw [F2.ln]; exact S0.2.2.2.2.1, by rw [F2.kd]; exact S0.2.2.2.2.2.1, by rw [F2.ln]; exact S0.2.2.2.2.2.2⟩
  have D2 : DES L xs g n nd af om nt HX fv ch dr h2 := D.fa F C2 S2
  have r9 := D2.r9
  have r3 := D2.r3
  rw [D.2.1] at N2
  have c0 := C2.2.2.1
  have c1' := C2.2.2.2.1
  have dd := C2.2.2.2.2.2.2.2.2.2.2.2.2.2.2.2.2.2.1
  have ff := C2.2.2.2.2.2.2.2.2.2.2.2.2.2.2.2.1
  have K2 := K h2 F D2
  unfold wdR at K2
  have k1 := D2.k1
  have lb := D2.1.1.lb
  have B := D2.1.1
  rcases hx with rfl | rfl | rfl
  · rw [if_pos rfl] at K2
    rw [if_pos rfl, r9, c0, N2.2.2.1.2.1]
    exact ⟨k1, ⟨C2.1, by decide⟩, ⟨dd.1, by decide⟩, K2⟩
  · rw [if_neg (by decide), if_pos rfl] at K2
    rw [if_neg (by decide), if_pos rfl, r9, c1', N2.2.2.2.2.1.1]
    exact ⟨k1, ⟨C2.1, by decide⟩, ⟨ff.1, by decide⟩, K2⟩
  · rw [if_neg (by decide), if_neg (by decide)] at K2
    rw [if_neg (by decide), if_neg (by decide), if_pos rfl, r9, c0, r3, N2.2.2.1.1]
    exact ⟨k1, k1, ⟨C2.1, by decide⟩, ⟨dd.1, by decide⟩, lb, s173 (d := d + 5) B V lt2 K2⟩
theorem s184 {w x : Int32} (K0 : KNO g nf n nd br af om nt HX) (D : DES L xs g n nd af om nt HX fv ch dr h) (hc : c < n) (hw1 : ¬ w < -1) (hw2 : ¬ 1 < w) (hx : x = 0 ∨ x = 1 ∨ x = 2) (K : ∀ h1, FR wA wAs h h1 → DES L xs g n nd af om nt HX fv ch dr h1 → Q (wdR g n nd af om nt HX fv (set1 ch c w) (set0 dr c w) x) h1) : CI (d + 8) 184 [.ref 1000, .int (Int32.ofNat c), .int w, .int x] h Q := by
  have v1 := K0.1.1
  have c16 : c < 16 := by omega
  have cl : ch < 128 := p128 v1 D.2.2.2.1.1
  have l1 : set1 ch c w < 2 ^ n := set1_lt hc D.2.2.2.1.1
  have x0 : ¬ x < 0 := by rcases hx with rfl | rfl | rfl <;> decide
  have x4 : x < 4 := by rcases hx with rfl | rfl | rfl <;> decide
  rw [e184]
  refine ⟨D.k1, s166 (d := d + 6) K0 D hc ?_⟩
  rw [if_neg (by decide), if_neg x0, if_pos x4, if_neg hw1, if_neg hw2]
  refine ⟨D.k1, D.k1, D.k1, D.k1, ?_⟩
  have go1 : ∀ b : Bool, b = decide (w = 1) → wp (d + 7) 184 38 [.val (.ref 1000), .val (.int (Int32.ofNat c)), .val (.int w), .val (.int x)] [.int (bi b), .int (Int32.ofNat c), .int (p_im h 1000 6), .ref (p_rm h 1000 5), .ref (p_rm h 1000 3), .ref (p_rm h 1000 9)] h (fun v h1 => onI v (fun x => Q x h1)) := fun b eb => by
    rw [r184_38, D.2.2.1.1, D.r5, D.r3, D.r9]
    refine s143 (d := d + 6) cl c16 ?_
    rw [eb, bi_w1, D.2.2.1.2]
    refine ⟨D.k1, ?_⟩
    have go2 : ∀ b : Bool, b = decide (w = 0) → wp (d + 7) 184 47 [.val (.ref 1000), .unset, .unset, .val (.int x)] [.int (bi b), .int (Int32.ofNat c), .int (Int32.ofNat dr), .int (Int32.ofNat (set1 ch c w)), .ref 1066, .ref 1034, .ref 1087] h (fun v h1 => onI v (fun x => Q x h1)) := fun b eb =>
      l184 (d := d) (Q := fun v h1 => onI v (fun x => Q x h1)) K0 D c16 hx l1 (by rw [eb, bi_w0]) (fun h1 a b => K h1 a b)
    by_cases z : w = 0
    · rw [if_pos z]; exact go2 true (decide_eq_true z).symm
    · rw [if_neg z]; exact go2 false (decide_eq_false z).symm
  by_cases z : w = 1
  · rw [if_pos z]; exact go1 true (decide_eq_true z).symm
  · rw [if_neg z]; exact go1 false (decide_eq_false z).symm
end ASK4
