/-! A draft is arranged. -/
def DRS (h : PH) (a m : Nat) : Prop := p_kd h a = 10 ∧ 1067 ≤ a ∧ p_rm h a 2 = a + 1 ∧ p_rm h a 3 = a + 2 ∧ p_rm h a 4 = a + 3 ∧ p_rm h a 5 = a + 4 ∧ p_rm h a 6 = a + 5 ∧ (p_kd h (a + 1) = 100 ∧ p_ln h (a + 1) = 16) ∧ (p_kd h (a + 2) = 100 ∧ p_ln h (a + 2) = 16) ∧ (p_kd h (a + 3) = 100 ∧ p_ln h (a + 3) = 16) ∧ (p_kd h (a + 4) = 100 ∧ p_ln h (a + 4) = 16) ∧ PGS h (a + 5) m
def wD (a x : Nat) : Prop := a ≤ x ∧ x ≤ a + 6
def DRO (h : PH) (a m : Nat) (ord : List Nat) : Prop := p_im h a 0 = Int32.ofNat m ∧ p_im h a 1 = Int32.ofNat ord.length ∧ (∀ i, i < ord.length → p_im h (a + 1) i = Int32.ofNat (ord.getD i 0)) ∧ ∀ c, c < 16 → p_im h (a + 2) c = Int32.ofNat (plc ord c)
section DRF
variable {d L n om a mm : Nat} {xs : Nat → Int32} {g h : PH} {nd br af : Nat → Nat}
theorem DRS.fr {Wi Wr : Nat → Prop} {h1 : PH} (S : DRS h a mm) (F : FR Wi Wr h h1) (r1 : ¬ Wr a) (r2 : ¬ Wr (a + 5)) : DRS h1 a mm := by
  obtain ⟨a1, a2, a3, a4, a5, a6, a7, ⟨a8, a9⟩, ⟨b1, b2⟩, ⟨b3, b4⟩, ⟨b5, b6⟩, b7⟩ := S
  exact ⟨by rw [F.kd, a1], a2, by rw [F.rm r1, a3], by rw [F.rm r1, a4], by rw [F.rm r1, a5], by rw [F.rm r1, a6], by rw [F.rm r1, a7], ⟨by rw [F.kd, a8], by rw [F.ln, a9]⟩, ⟨by rw [F.kd, b1], by rw [F.ln, b2]⟩, ⟨by rw [F.kd, b3], by rw [F.ln, b4]⟩, ⟨by rw [F.kd, b5], by rw [F.ln, b6]⟩, b7.fr F r2⟩
theorem DRO.fr {Wi Wr : Nat → Prop} {h1 : PH} {m : Nat} {ord : List Nat} (S : DRO h a m ord) (F : FR Wi Wr h h1) (r0 : ¬ Wi a) (r1 : ¬ Wi (a + 1)) (r2 : ¬ Wi (a + 2)) : DRO h1 a m ord := by
  obtain ⟨a1, a2, a3, a4⟩ := S
  exact ⟨by rw [F.im r0, a1], by rw [F.im r0, a2], fun i hi => by rw [F.im r1, a3 i hi], fun c hc => by rw [F.im r2, a4 c hc]⟩
theorem s125 {p : Nat} {Q : PH → Prop} (P : PGS h p mm) (K : ∀ h1, FR (fun x => x = p) w0 h h1 → p_im h1 p 1 = 0 → Q h1) : CV (d + 1) 125 [.ref p] h Q := by
  rw [e125]
  exact ⟨⟨P.1, P.2.1⟩, K _ (FR.wi _ rfl) (by rw [wi_im, if_pos ⟨rfl, rfl⟩])⟩
theorem l126 {Q : Option Value → PH → Prop} : ∀ (k i : Nat) (h : PH), i + k = 16 → DRS h a mm → p_im h a 0 = 0 → p_im h a 1 = 0 → (∀ j, j < i → p_im h (a + 2) j = 0) →
    (∀ h1, FR (wD a) w0 h h1 → p_im h1 a 0 = 0 → p_im h1 a 1 = 0 → (∀ j, j < 16 → p_im h1 (a + 2) j = 0) → p_im h1 (a + 5) 1 = 0 → Q none h1) → wp (d + 1) 126 8 [.val (.ref a), .val (.int (Int32.ofNat i))] [] h Q := by
  intro k
  induction k with
  | zero =>
    intro i h hi S z0 z1 z2 K
    have S1 := S
    obtain ⟨a1, a2, a3, a4, a5, a6, a7, a8, a9, b3, b5, b7⟩ := S
    rw [r126_8, if_neg (by rw [show (16 : Int32) = Int32.ofNat 16 from rfl, i_lt (by omega) (by decide)]; omega), a7]
    refine ⟨⟨a1, by omega⟩, ⟨b7.1, by omega⟩, s125 b7 (fun h1 F e => K h1 (F.up (fun x hx => by have hx : x = a + 5 := hx; unfold wD; omega) (fun _ q => q)) ?_ ?_ (fun j hj => ?_) e)⟩
    · rw [F.im (show ¬ a = a + 5 by omega), z0]
    · rw [F.im (show ¬ a = a + 5 by omega), z1]
    · rw [F.im (show ¬ a + 2 = a + 5 by omega), z2 j (by omega)]
  | succ k ih =>
    intro i h hi S z0 z1 z2 K
    have S1 := S
    obtain ⟨a1, a2, a3, a4, a5, a6, a7, a8, a9, b3, b5, b7⟩ := S
    have F : FR (wD a) w0 h (p_wi (p_wi (p_wi h (a + 2) i 0) (a + 3) i 0) (a + 4) i 0) := ((FR.wi (Wi := wD a) (Wr := w0) (a := a + 2) _ (by unfold wD; omega)).tr (FR.wi (a := a + 3) _ (by unfold wD; omega))).tr (FR.wi (a := a + 4) _ (by unfold wD; omega))
    rw [r126_8, if_pos (by rw [show (16 : Int32) = Int32.ofNat 16 from rfl, i_lt (by omega) (by decide)]; omega), a4, i_nat (by omega), wi_rm, a5, wi_kd, wi_ln, a9.1, a9.2, b3.1, b3.2, r126_21, wi_rm, wi_rm, a6, wi_kd, wi_kd, wi_ln, wi_ln, b5.1, b5.2, i_nat (by omega), i_ofNat1, i_add]
    have ii : p_in (Int32.ofNat i) 16 := i_in (by omega) (by decide)
    refine ⟨⟨a1, by omega⟩, ⟨⟨rfl, by omega⟩, ii⟩, ⟨a1, by omega⟩, ⟨⟨rfl, by omega⟩, ii⟩, ⟨a1, by omega⟩, ⟨⟨rfl, by omega⟩, ii⟩, ih (i + 1) _ (by omega) (S1.fr F (fun q => q) (fun q => q)) ?_ ?_ (fun j hj => ?_) (fun h1 F1 => K h1 (F.tr F1))⟩
    · rw [wi_im, if_neg (by omega), wi_im, if_neg (by omega), wi_im, if_neg (by omega), z0]
    · rw [wi_im, if_neg (by omega), wi_im, if_neg (by omega), wi_im, if_neg (by omega), z1]
    · rw [wi_im, if_neg (by omega), wi_im, if_neg (by omega), wi_im]
      by_cases y : j = i
      · rw [if_pos ⟨rfl, y⟩]
      · rw [if_neg (by omega), z2 j (by omega)]
theorem s126 {Q : PH → Prop} (S : DRS h a mm) (K : ∀ h1, FR (wD a) w0 h h1 → p_im h1 a 0 = 0 → p_im h1 a 1 = 0 → (∀ j, j < 16 → p_im h1 (a + 2) j = 0) → p_im h1 (a + 5) 1 = 0 → Q h1) : CV (d + 2) 126 [.ref a] h Q := by
  have F : FR (wD a) w0 h (p_wi (p_wi h a 0 0) a 1 0) := (FR.wi (Wi := wD a) (Wr := w0) (a := a) _ (by unfold wD; omega)).tr (FR.wi (a := a) _ (by unfold wD; omega))
  have a2 := S.2.1
  rw [e126]
  refine ⟨⟨S.1, by omega⟩, ⟨S.1, by omega⟩, l126 (d := d) (Q := fun v h1 => onV v (Q h1)) 16 0 _ rfl (S.fr F (fun q => q) (fun q => q)) ?_ ?_ (fun j hj => absurd hj (Nat.not_lt_zero _)) (fun h1 F1 => K h1 (F.tr F1))⟩
  · rw [wi_im, if_neg (by omega), wi_im, if_pos ⟨rfl, rfl⟩]
  · rw [wi_im, if_pos ⟨rfl, rfl⟩]
theorem i_dec1 {k : Nat} : Int32.ofNat (k + 1) + (-1) = Int32.ofNat k := by
  rw [← i_add, Int32.add_assoc, show Int32.ofNat 1 + (-1) = 0 from by decide, Int32.add_zero]
theorem l146b {m l : Nat} {Q : Option Value → PH → Prop} (B : LIB L xs g h) (V : LD g n nd br af om) (hm : m < 2 ^ n) : ∀ (k i : Nat), i + k = 16 → Q (some (.int (Int32.ofNat (nxf af m l k i)))) h →
    wp (d + 1) 146 16 [.val (.ref 1034), .val (.int (Int32.ofNat m)), .val (.int (Int32.ofNat l)), .val (.int (Int32.ofNat i))] [] h Q := by
  obtain ⟨v1, v2, v3, v4, v5, v6⟩ := V
  intro k
  induction k with
  | zero =>
    intro i hi K
    rw [r146_16, if_neg (by rw [show (16 : Int32) = Int32.ofNat 16 from rfl, i_lt (by omega) (by decide)]; omega)]
    exact K
  | succ k ih =>
    intro i hi K
    have K : Q (some (.int (Int32.ofNat (bif m.testBit i && Nat.beq (af i &&& m) 0 then i else nxf af m l k (i + 1))))) h := K
    rw [r146_16, if_pos (by rw [show (16 : Int32) = Int32.ofNat 16 from rfl, i_lt (by omega) (by decide)]; omega)]
    refine s144 (p128 v1 hm) (by omega) ?_
    cases hb : m.testBit i with
    | false =>
      rw [hb] at K
      rw [if_pos (by decide), r146_33, i_ofNat1, i_add]
      exact ih (i + 1) (by omega) K
    | true =>
      rw [hb] at K
      have hin := bit_lt hm hb
      obtain ⟨c1, c2, c3⟩ := B.cl (i := i) (by omega)
      obtain ⟨-, -, n1, n2⟩ := v6 i hin
      have al : af i &&& m < 128 := Nat.lt_of_le_of_lt Nat.and_le_right (p128 v1 hm)
      rw [if_neg (by decide), c2, B.im (1047 + i) (by omega) (by omega), n1, i_and]
      refine ⟨B.lb, c1, c3, ?_⟩
      by_cases z : af i &&& m = 0
      · rw [z] at K ⊢
        rw [if_pos (by decide)]
        exact K
      · rw [if_neg (show ¬ Int32.ofNat (af i &&& m) = 0 from by rw [show (0 : Int32) = Int32.ofNat 0 from rfl, i_eq (by omega) (by decide)]; exact z), r146_33, i_ofNat1, i_add]
        rw [show Nat.beq (af i &&& m) 0 = false from Bool.eq_false_iff.mpr (fun q => z (Nat.eq_of_beq_eq_true q))] at K
        exact ih (i + 1) (by omega) K
theorem l146a {m : Nat} {Q : Option Value → PH → Prop} (hm : m < 128) : ∀ (k l : Nat), k ≤ 16 → wp (d + 1) 146 16 [.val (.ref 1034), .val (.int (Int32.ofNat m)), .val (.int (Int32.ofNat (lso m k l))), .val (.int (Int32.ofNat (lso m k l)))] [] h Q →
    wp (d + 1) 146 4 [.val (.ref 1034), .val (.int (Int32.ofNat m)), .val (.int (Int32.ofNat l)), .val (.int (Int32.ofNat k + (-1)))] [] h Q := by
  intro k
  induction k with
  | zero =>
    intro l hk K
    rw [r146_4, if_pos (by decide)]
    exact K
  | succ k ih =>
    intro l hk K
    rw [i_dec1, r146_4, if_neg (i_neg (by omega))]
    refine s144 hm (by omega) ?_
    have K : wp (d + 1) 146 16 [.val (.ref 1034), .val (.int (Int32.ofNat m)), .val (.int (Int32.ofNat (lso m k (bif m.testBit k then k else l)))), .val (.int (Int32.ofNat (lso m k (bif m.testBit k then k else l))))] [] h Q := K
    cases hb : m.testBit k with
    | false =>
      rw [hb] at K
      rw [if_pos (by decide), r146_12]
      exact ih l (by omega) K
    | true =>
      rw [hb] at K
      rw [if_neg (by decide), r146_12]
      exact ih k (by omega) K
theorem s146 {m : Nat} {Q : Int32 → PH → Prop} (B : LIB L xs g h) (V : LD g n nd br af om) (hm : m < 2 ^ n) (h0 : m ≠ 0) (K : Q (Int32.ofNat (nxo af m)) h) : CI (d + 2) 146 [.ref 1034, .int (Int32.ofNat m)] h Q := by
  rw [e146]
  have hl := bit_lt hm (lso_ok V.1 hm h0)
  have := V.1
  refine l146a (d := d) (p128 V.1 hm) 16 0 (Nat.le_refl _) ?_
  exact l146b (d := d) (Q := fun v h1 => onI v (fun x => Q x h1)) B V hm (16 - lso m 16 0) (lso m 16 0) (by omega) K
theorem l147 {m0 : Nat} {Q : Option Value → PH → Prop} (V : LD g n nd br af om) : ∀ (k : Nat) (P : List Nat) (m : Nat) (h : PH), P.length + k = 16 → LIB L xs g h → DRS h a mm → m < 2 ^ n → (∀ c ∈ P, m.testBit c = false) → DRO h a m0 P → p_im h (a + 5) 1 = 0 →
    (∀ h1, FR (wD a) w0 h h1 → DRO h1 a m0 (P ++ arr af k m) → p_im h1 (a + 5) 1 = 0 → Q none h1) →
    wp (d + 2) 147 9 [.val (.ref a), .val (.ref 1034), .unset, .val (.int (Int32.ofNat m)), .val (.int (Int32.ofNat P.length)), .unset] [] h Q := by
  intro k
  induction k with
  | zero =>
    intro P m h hk B S hm hP R z K
    rw [r147_9, if_neg (by rw [show (16 : Int32) = Int32.ofNat 16 from rfl, i_lt (by omega) (by decide)]; omega)]
    exact K h FR.rf (by show DRO h a m0 (P ++ []); rw [List.append_nil]; exact R) z
  | succ k ih =>
    intro P m h hk B S hm hP R z K
    rw [r147_9, if_pos (by rw [show (16 : Int32) = Int32.ofNat 16 from rfl, i_lt (by omega) (by decide)]; omega)]
    have m128 := p128 V.1 hm
    by_cases h0 : m = 0
    · rw [h0] at K ⊢
      rw [if_pos (by decide)]
      exact K h FR.rf (by rw [arr_nil, List.append_nil]; exact R) z
    rw [if_neg (show ¬ Int32.ofNat m = 0 from by rw [show (0 : Int32) = Int32.ofNat 0 from rfl, i_eq (by omega) (by decide)]; exact h0)]
    have hb := nxo_bit (af := af) V.1 hm h0
    have hx := bit_lt hm hb
    have hn := V.1
    refine s146 B V hm h0 ?_
    have S1 := S
    obtain ⟨a1, a2, a3, a4, a5, a6, a7, a8, a9, b3, b5, b7⟩ := S
    have F : FR (wD a) w0 h (p_wi (p_wi (p_wi h (a + 1) P.length (Int32.ofNat (nxo af m))) a 1 (Int32.ofNat (P.length + 1))) (a + 2) (nxo af m) (Int32.ofNat (P.length + 1))) := ((FR.wi (Wi := wD a) (Wr := w0) (a := a + 1) _ (by unfold wD; omega)).tr (FR.wi (a := a) _ (by unfold wD; omega))).tr (FR.wi (a := a + 2) _ (by unfold wD; omega))
    have i1 : p_im (p_wi (p_wi h (a + 1) P.length (Int32.ofNat (nxo af m))) a 1 (Int32.ofNat (P.length + 1))) a 1 = Int32.ofNat (P.length + 1) := by rw [wi_im, if_pos ⟨rfl, rfl⟩]
    rw [a3, i_nat (by omega), show (1 : Int32) = Int32.ofNat 1 from rfl, i_add, wi_rm, wi_rm, a4, i1, i_nat (by omega)]
    simp only [wi_kd, wi_ln]
    rw [a8.1, a8.2, a9.1, a9.2, r147_34]
    refine ⟨⟨a1, by omega⟩, ⟨⟨rfl, by omega⟩, i_in (by omega) (by decide)⟩, ⟨a1, by omega⟩, ⟨a1, by omega⟩, ⟨a1, by omega⟩, ⟨⟨rfl, by omega⟩, i_in (by omega) (by decide)⟩, ?_⟩
    refine s143 (b := false) m128 (by omega) ?_
    rw [i_ofNat1, i_add]
    have hnx : nxo af m ∉ P := fun q => by rw [hP _ q] at hb; exact absurd hb (by decide)
    have el : (P ++ [nxo af m]).length = P.length + 1 := by rw [List.length_append]; rfl
    have R1 : DRO (p_wi (p_wi (p_wi h (a + 1) P.length (Int32.ofNat (nxo af m))) a 1 (Int32.ofNat (P.length + 1))) (a + 2) (nxo af m) (Int32.ofNat (P.length + 1))) a m0 (P ++ [nxo af m]) := by
      obtain ⟨q1, q2, q3, q4⟩ := R
      refine ⟨by rw [wi_im, if_neg (by omega), wi_im, if_neg (by omega), wi_im, if_neg (by omega), q1], by rw [wi_im, if_neg (by omega), i1, el], fun i hi => ?_, fun c hc => ?_⟩
      · rw [el] at hi
        rw [wi_im, if_neg (by omega), wi_im, if_neg (by omega), wi_im]
        by_cases y : i = P.length
        · rw [if_pos ⟨rfl, y⟩, y, getD_last]
        · rw [if_neg (by omega), q3 i (by omega), getD_snoc (by omega)]
      · rw [plc_snoc hnx, wi_im]
        by_cases y : c = nxo af m
        · rw [if_pos ⟨rfl, y⟩, if_pos y]
        · rw [if_neg (by omega), if_neg y, wi_im, if_neg (by omega), wi_im, if_neg (by omega), q4 c hc]
    have K1 := ih (P ++ [nxo af m]) (an m (2 ^ nxo af m)) _ (by rw [el]; omega) (B.fr F (fun x q1 q2 => by unfold wL at q1; unfold wD at q2; omega) (fun _ _ q => q)) (S1.fr F (fun q => q) (fun q => q)) (an_lt hm) (fun c hc => ?_) R1 ?_ (fun h1 F1 R2 z2 => K h1 (F.tr F1) ?_ z2)
    · rw [el] at K1
      exact K1
    · rw [an_one m128]
      rcases List.mem_append.mp hc with q | q
      · rw [hP c q]; rfl
      · rw [List.mem_singleton.mp q, decide_eq_true rfl]; simp
    · rw [wi_im, if_neg (by omega), wi_im, if_neg (by omega), wi_im, if_neg (by omega), z]
    · rw [arr_cons h0, List.append_cons]
      exact R2
theorem s147 {m : Nat} {Q : PH → Prop} (B : LIB L xs g h) (V : LD g n nd br af om) (S : DRS h a mm) (hm : m < 2 ^ n) (K : ∀ h1, FR (wD a) w0 h h1 → DRO h1 a m (arr af 16 m) → p_im h1 (a + 5) 1 = 0 → Q h1) : CV (d + 3) 147 [.ref a, .ref 1034, .int (Int32.ofNat m)] h Q := by
  have a2 := S.2.1
  rw [e147]
  refine ⟨⟨S.1, by omega⟩, s126 S (fun h1 F z0 z1 z2 z3 => ⟨⟨by rw [F.kd]; exact S.1, by omega⟩, ?_⟩)⟩
  have F1 : FR (wD a) w0 h (p_wi h1 a 0 (Int32.ofNat m)) := F.tr (FR.wi _ (by unfold wD; omega))
  refine l147 (d := d) (m0 := m) (Q := fun v h1 => onV v (Q h1)) V 16 [] m _ rfl (B.fr F1 (fun x q1 q2 => by unfold wL at q1; unfold wD at q2; omega) (fun _ _ q => q)) (S.fr F1 (fun q => q) (fun q => q)) hm (fun c hc => absurd hc List.not_mem_nil) ?_ (by rw [wi_im, if_neg (by omega), z3]) (fun h2 F2 R z => K h2 (F1.tr F2) R z)
  refine ⟨by rw [wi_im, if_pos ⟨rfl, rfl⟩], by rw [wi_im, if_neg (by omega), z1]; rfl, fun i hi => absurd hi (Nat.not_lt_zero _), fun c hc => by rw [wi_im, if_neg (by omega), z2 c hc]; rfl⟩
end DRF
