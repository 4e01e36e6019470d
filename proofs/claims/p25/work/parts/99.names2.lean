/-! Names get their meanings: one token after the other. -/
def wN (a : Nat) : Prop := a = 1034 ∨ a = 1041 ∨ a = 1063 ∨ a = 1064 ∨ a = 1065 ∨ (1047 ≤ a ∧ a ≤ 1062)
def w0 (_ : Nat) : Prop := False
/-- the shapes that names rest on -/
def NB (L : Nat) (xs : Nat → Int32) (X : List Lx) (h : PH) : Prop := CO L xs h ∧ TOKS h ∧ LBO h ∧ GRC h ∧ TKW X h
theorem NB.fr {L : Nat} {xs : Nat → Int32} {X : List Lx} {h h1 : PH} (B : NB L xs X h) (F : FR wN w0 h h1) : NB L xs X h1 :=
  ⟨B.1.fr F (fun a ha q => by unfold wN at q; omega) (fun _ _ q => q), B.2.1.fr F (fun q => q), B.2.2.1.fr F (fun q => q), B.2.2.2.1.fr F (fun q => q) (fun q => q), B.2.2.2.2.fr F (by unfold wN; omega) (by unfold wN; omega) (by unfold wN; omega) (by unfold wN; omega) (fun q => q) (fun q => q)⟩
/-- what the names that have been looked at mean -/
def MN (X : List Lx) (i m : Nat) (h : PH) : Prop := ∀ j, 1 ≤ j → j < i → j < X.length → (lx X j).1 = 38 → ((lx X (j - 1)).1 = 5 ∨ (lx X (j - 1)).1 = 6 ∨ (lx X (j - 1)).1 = 7 → p_im h 1041 j = Int32.ofNat ((lx X j).2.1 - 99 * 32)) ∧ ((lx X (j - 1)).1 = 9 ∨ (lx X (j - 1)).1 = 10 → ∃ t, t < m ∧ p_im h 1041 j = Int32.ofNat t)
/-- tokens ahead of i have been looked at: F facts, C clauses, the terms' letters s, the optional ones om, links mk -/
def NS (X : List Lx) (h0 : PH) (i F C : Nat) (s : List Nat) (om : Nat) (mk : Nat → Nat × Nat × Nat) (h : PH) : Prop :=
  FR wN w0 h0 h ∧ (∀ c, c < 16 → ∀ j, j < 2 ∨ 4 < j → p_im h (1047 + c) j = p_im h0 (1047 + c) j) ∧ p_im h 1034 7 = Int32.ofNat F ∧ F ≤ 10 ∧ (∀ t, t < F → ∃ q, q < X.length ∧ p_im h 1064 t = Int32.ofNat q ∧ isN (lx X q) 102 t) ∧ p_im h 1034 8 = Int32.ofNat C ∧ C ≤ 16 ∧
  p_im h 1034 9 = Int32.ofNat s.length ∧ s.length ≤ 24 ∧ (∀ t, t < s.length → ∃ q, q < X.length ∧ p_im h 1065 t = Int32.ofNat q ∧ isN (lx X q) 116 (s.getD t 0)) ∧ p_im h 1034 10 = Int32.ofNat om ∧ (∀ c, c < 16 → p_im h (1047 + c) 2 = Int32.ofNat (mk c).1 ∧ p_im h (1047 + c) 3 = Int32.ofNat (mk c).2.1 ∧ p_im h (1047 + c) 4 = Int32.ofNat (mk c).2.2) ∧ MN X i s.length h
theorem i_or (a b : Nat) : Int32.ofNat a ||| Int32.ofNat b = Int32.ofNat (a ||| b) := by
  apply Int32.toBitVec_inj.mp
  rw [Int32.toBitVec_or, pq_bv, pq_bv, pq_bv, ← BitVec.ofNat_or]
theorem sh1 : ∀ o, o < 16 → (1 : Int32) <<< (Int32.ofNat o &&& 31) = Int32.ofNat (2 ^ o) := by decide +kernel
/-- the number of bits, as the machine's library reckons it -/
def pc32 (x0 : Int32) : Int32 := (((((((x0 - ((((x0).toUInt32 >>> (((1 : Int32)).toUInt32 &&& Int32.toUInt32 31)).toInt32) &&& (1431655765 : Int32))) &&& (858993459 : Int32)) + (((((x0 - ((((x0).toUInt32 >>> (((1 : Int32)).toUInt32 &&& Int32.toUInt32 31)).toInt32) &&& (1431655765 : Int32)))).toUInt32 >>> (((2 : Int32)).toUInt32 &&& Int32.toUInt32 31)).toInt32) &&& (858993459 : Int32))) + ((((((x0 - ((((x0).toUInt32 >>> (((1 : Int32)).toUInt32 &&& Int32.toUInt32 31)).toInt32) &&& (1431655765 : Int32))) &&& (858993459 : Int32)) + (((((x0 - ((((x0).toUInt32 >>> (((1 : Int32)).toUInt32 &&& Int32.toUInt32 31)).toInt32) &&& (1431655765 : Int32)))).toUInt32 >>> (((2 : Int32)).toUInt32 &&& Int32.toUInt32 31)).toInt32) &&& (858993459 : Int32)))).toUInt32 >>> (((4 : Int32)).toUInt32 &&& Int32.toUInt32 31)).toInt32)) &&& (252645135 : Int32)) + ((((((((x0 - ((((x0).toUInt32 >>> (((1 : Int32)).toUInt32 &&& Int32.toUInt32 31)).toInt32) &&& (1431655765 : Int32))) &&& (858993459 : Int32)) + (((((x0 - ((((x0).toUInt32 >>> (((1 : Int32)).toUInt32 &&& Int32.toUInt32 31)).toInt32) &&& (1431655765 : Int32)))).toUInt32 >>> (((2 : Int32)).toUInt32 &&& Int32.toUInt32 31)).toInt32) &&& (858993459 : Int32))) + ((((((x0 - ((((x0).toUInt32 >>> (((1 : Int32)).toUInt32 &&& Int32.toUInt32 31)).toInt32) &&& (1431655765 : Int32))) &&& (858993459 : Int32)) + (((((x0 - ((((x0).toUInt32 >>> (((1 : Int32)).toUInt32 &&& Int32.toUInt32 31)).toInt32) &&& (1431655765 : Int32)))).toUInt32 >>> (((2 : Int32)).toUInt32 &&& Int32.toUInt32 31)).toInt32) &&& (858993459 : Int32)))).toUInt32 >>> (((4 : Int32)).toUInt32 &&& Int32.toUInt32 31)).toInt32)) &&& (252645135 : Int32))).toUInt32 >>> (((8 : Int32)).toUInt32 &&& Int32.toUInt32 31)).toInt32)) + (((((((((x0 - ((((x0).toUInt32 >>> (((1 : Int32)).toUInt32 &&& Int32.toUInt32 31)).toInt32) &&& (1431655765 : Int32))) &&& (858993459 : Int32)) + (((((x0 - ((((x0).toUInt32 >>> (((1 : Int32)).toUInt32 &&& Int32.toUInt32 31)).toInt32) &&& (1431655765 : Int32)))).toUInt32 >>> (((2 : Int32)).toUInt32 &&& Int32.toUInt32 31)).toInt32) &&& (858993459 : Int32))) + ((((((x0 - ((((x0).toUInt32 >>> (((1 : Int32)).toUInt32 &&& Int32.toUInt32 31)).toInt32) &&& (1431655765 : Int32))) &&& (858993459 : Int32)) + (((((x0 - ((((x0).toUInt32 >>> (((1 : Int32)).toUInt32 &&& Int32.toUInt32 31)).toInt32) &&& (1431655765 : Int32)))).toUInt32 >>> (((2 : Int32)).toUInt32 &&& Int32.toUInt32 31)).toInt32) &&& (858993459 : Int32)))).toUInt32 >>> (((4 : Int32)).toUInt32 &&& Int32.toUInt32 31)).toInt32)) &&& (252645135 : Int32)) + ((((((((x0 - ((((x0).toUInt32 >>> (((1 : Int32)).toUInt32 &&& Int32.toUInt32 31)).toInt32) &&& (1431655765 : Int32))) &&& (858993459 : Int32)) + (((((x0 - ((((x0).toUInt32 >>> (((1 : Int32)).toUInt32 &&& Int32.toUInt32 31)).toInt32) &&& (1431655765 : Int32)))).toUInt32 >>> (((2 : Int32)).toUInt32 &&& Int32.toUInt32 31)).toInt32) &&& (858993459 : Int32))) + ((((((x0 - ((((x0).toUInt32 >>> (((1 : Int32)).toUInt32 &&& Int32.toUInt32 31)).toInt32) &&& (1431655765 : Int32))) &&& (858993459 : Int32)) + (((((x0 - ((((x0).toUInt32 >>> (((1 : Int32)).toUInt32 &&& Int32.toUInt32 31)).toInt32) &&& (1431655765 : Int32)))).toUInt32 >>> (((2 : Int32)).toUInt32 &&& Int32.toUInt32 31)).toInt32) &&& (858993459 : Int32)))).toUInt32 >>> (((4 : Int32)).toUInt32 &&& Int32.toUInt32 31)).toInt32)) &&& (252645135 : Int32))).toUInt32 >>> (((8 : Int32)).toUInt32 &&& Int32.toUInt32 31)).toInt32))).toUInt32 >>> (((16 : Int32)).toUInt32 &&& Int32.toUInt32 31)).toInt32)) &&& (63 : Int32)
theorem s115 {d : Nat} {x : Int32} {h : PH} {Q : Int32 → PH → Prop} (K : Q (pc32 x) h) : CI (d + 1) 115 [.int x] h Q := by
  rw [e115]
  exact K
def pop (m : Nat) : Nat := m % 2 + m / 2 % 2 + m / 4 % 2 + m / 8 % 2 + m / 16 % 2 + m / 32 % 2 + m / 64 % 2
set_option maxRecDepth 100000 in
theorem pop_all : ∀ m, m < 128 → pc32 (Int32.ofNat m) = Int32.ofNat (pop m) ∧ pop m ≤ 7 := by decide +kernel
section NS1
variable {d L i F C om : Nat} {s : List Nat} {mk : Nat → Nat × Nat × Nat} {xs : Nat → Int32} {X : List Lx} {h0 h : PH} {Q : Option Value → PH → Prop}
theorem NS.b (B : NB L xs X h0) (N : NS X h0 i F C s om mk h) : NB L xs X h := B.fr N.1
theorem NS.skip (N : NS X h0 i F C s om mk h) (hn : (lx X i).1 ≠ 38) : NS X h0 (i + 1) F C s om mk h := by
  obtain ⟨n1, n2, n3, n4, n5, n6, n7, n8, n9, n10, n11, n12, n13⟩ := N
  refine ⟨n1, n2, n3, n4, n5, n6, n7, n8, n9, n10, n11, n12, fun j h1 h2 h3 h4 => ?_⟩
  by_cases hz : j < i
  · exact n13 j h1 hz h3 h4
  · rw [show j = i from by omega] at h4
    exact absurd h4 hn
theorem knd_lx (hi : i < X.length) : knd (X.drop i) = (lx X i).1 := by
  unfold lx
  rw [List.drop_eq_getElem_cons hi, List.getD_eq_getElem?_getD, List.getElem?_eq_getElem hi]; rfl
/-- a token that is no name -/
theorem st0 (kX : kOK X) (B : NB L xs X h0) (N : NS X h0 i F C s om mk h) (hi : i < X.length) (hn : (lx X i).1 ≠ 38) (K : NS X h0 (i + 1) F C s om mk h → wp (d + 5) 123 4 [.val (.ref 1034), .val (.int 0), .val (.int (Int32.ofNat (i + 1)))] [] h Q) :
    wp (d + 5) 123 4 [.val (.ref 1034), .val (.int 0), .val (.int (Int32.ofNat i))] [] h Q := by
  obtain ⟨C0, O, LB, GR, W⟩ := N.b B
  have kk : 1 ≤ knd (X.drop i) ∧ knd (X.drop i) ≤ 43 := kX.knd (pre := X.take i) (List.take_append_drop i X).symm
  have w4 := W.2.2.2.2
  rw [r123_4, LB.2.1, W.2.2.2.1, if_pos (by rw [i_lt (by omega) (by omega)]; omega), if_pos rfl]
  refine ⟨⟨LB.1, by decide⟩, ⟨O.1, by decide⟩, ⟨LB.1, by decide⟩, ⟨O.1, by decide⟩, s79w O C0 W (by omega) kX ⟨⟨Or.inr (C0.en kk.1 kk.2).1, Or.inr (C0.en (by decide) (by decide)).1⟩, ?_⟩⟩
  rw [knd_lx hi, if_neg hn, r123_30, i_ofNat1, i_add]
  exact K (N.skip hn)
/-- a name: what stands ahead of it decides -/
theorem stn {pk : Nat} (kX : kOK X) (B : NB L xs X h0) (N : NS X h0 i F C s om mk h) (hi : i < X.length) (h1 : 1 ≤ i) (hn : (lx X i).1 = 38) (hp : (lx X (i - 1)).1 = pk)
    (K : ∀ h1, NS X h0 i F C s om mk h1 → CI (d + 5) 122 [.ref 1034, .int (Int32.ofNat i), .ref pk] h1 (fun z3 h3 => wp (d + 5) 123 30 [.val (.ref 1034), .val (.int z3), .val (.int (Int32.ofNat i))] [] h3 Q)) :
    wp (d + 5) 123 4 [.val (.ref 1034), .val (.int 0), .val (.int (Int32.ofNat i))] [] h Q := by
  obtain ⟨C0, O, LB, GR, W⟩ := N.b B
  have kk : 1 ≤ knd (X.drop i) ∧ knd (X.drop i) ≤ 43 := kX.knd (pre := X.take i) (List.take_append_drop i X).symm
  have w4 := W.2.2.2.2
  rw [r123_4, LB.2.1, W.2.2.2.1, if_pos (by rw [i_lt (by omega) (by omega)]; omega), if_pos rfl]
  refine ⟨⟨LB.1, by decide⟩, ⟨O.1, by decide⟩, ⟨LB.1, by decide⟩, ⟨O.1, by decide⟩, s79w O C0 W (by omega) kX ⟨⟨Or.inr (C0.en kk.1 kk.2).1, Or.inr (C0.en (by decide) (by decide)).1⟩, ?_⟩⟩
  rw [knd_lx hi, if_pos hn]
  have N1 : NS X h0 i F C s om mk (p_wi h 1034 11 (Int32.ofNat i)) := by
    obtain ⟨n1, n2, n3, n4, n5, n6, n7, n8, n9, n10, n11, n12, n13⟩ := N
    have e : ∀ a j, a ≠ 1034 ∨ j ≠ 11 → p_im (p_wi h 1034 11 (Int32.ofNat i)) a j = p_im h a j := fun a j q => by rw [wi_im, if_neg (by omega)]
    refine ⟨n1.tr (FR.wi (a := 1034) _ (Or.inl rfl)), fun c hc j hj => by rw [e _ _ (by omega), n2 c hc j hj], by rw [e _ _ (by omega), n3], n4, fun t ht => by rw [e _ _ (by omega)]; exact n5 t ht, by rw [e _ _ (by omega), n6], n7, by rw [e _ _ (by omega), n8], n9, fun t ht => by rw [e _ _ (by omega)]; exact n10 t ht, by rw [e _ _ (by omega), n11], fun c hc => by rw [e _ _ (by omega), e _ _ (by omega), e _ _ (by omega)]; exact n12 c hc, fun j q1 q2 q3 q4 => by rw [e _ _ (by omega)]; exact n13 j q1 q2 q3 q4⟩
  have r1 : p_rm (p_wi h 1034 11 (Int32.ofNat i)) 1034 1 = 1036 := LB.2.1
  have k1 : p_kd (p_wi h 1034 11 (Int32.ofNat i)) 1034 = 2 := LB.1
  have k2 : p_kd (p_wi h 1034 11 (Int32.ofNat i)) 1036 = 4 := O.1
  rw [r1, i_ofNat1, i_sub h1]
  refine ⟨⟨LB.1, by decide⟩, ⟨k1, by decide⟩, ⟨k2, by decide⟩, ?_⟩
  generalize p_wi h 1034 11 (Int32.ofNat i) = h2 at *
  obtain ⟨C2, O2, LB2, GR2, W2⟩ := N1.b B
  refine s79w O2 C2 W2 (by omega) kX ⟨⟨LB2.1, by decide⟩, ?_⟩
  rw [knd_lx (by omega), hp]
  exact K h2 N1
/-- the switch over what stands ahead -/
theorem sw122 {pk : Nat} {v : Int32} {Q : Int32 → PH → Prop} (C0 : CO L xs h) (h1 : 1 ≤ pk) (h2 : pk ≤ 43) (hv : c_sw.getD (pk - 1) 0 = v)
    (Kf : v = 14 → CI (d + 4) 113 [.ref 1034, .int (Int32.ofNat i)] h Q) (Kc : v = 15 → CI (d + 4) 116 [.ref 1034, .int (Int32.ofNat i)] h Q) (Kl : v = 2 ∨ v = 16 ∨ v = 17 ∨ v = 18 → CI (d + 4) 119 [.ref 1034, .int (Int32.ofNat i), .ref pk] h Q) (Kt : v = 3 ∨ v = 4 → CI (d + 4) 120 [.ref 1034, .int (Int32.ofNat i)] h Q) (Km : v = 0 ∨ v = 5 ∨ v = 6 → CI (d + 4) 121 [.ref 1034, .int (Int32.ofNat i)] h Q)
    (ka : p_kd h 1034 = 2) (hall : v = 14 ∨ v = 15 ∨ v = 2 ∨ v = 16 ∨ v = 17 ∨ v = 18 ∨ v = 3 ∨ v = 4 ∨ v = 0 ∨ v = 5 ∨ v = 6) : CI (d + 5) 122 [.ref 1034, .int (Int32.ofNat i), .ref pk] h Q := by
  rw [e122]
  refine ⟨⟨(C0.en h1 h2).1, by omega⟩, s87 C0 h1 h2 ?_⟩
  obtain ⟨w1, w2, w3⟩ := C0.sw
  rw [w1, w2, w3, i_nat (by omega), hv]
  refine ⟨⟨⟨by decide, by decide⟩, i_in (by omega) (by decide)⟩, ?_⟩
  have el : CI (d + 4) 119 [.ref 1034, .int (Int32.ofNat i), .ref pk] h Q → wp (d + 4) 122 13 [.val (.ref 1034), .val (.int (Int32.ofNat i)), .val (.ref pk)] [] h (fun v h1 => onI v (fun x => Q x h1)) := fun k => by
    rw [r122_13]; exact ⟨⟨ka, by decide⟩, k⟩
  have et : CI (d + 4) 120 [.ref 1034, .int (Int32.ofNat i)] h Q → wp (d + 4) 122 18 [.val (.ref 1034), .val (.int (Int32.ofNat i)), .unset] [] h (fun v h1 => onI v (fun x => Q x h1)) := fun k => by
    rw [r122_18]; exact ⟨⟨ka, by decide⟩, k⟩
  have em : CI (d + 4) 121 [.ref 1034, .int (Int32.ofNat i)] h Q → wp (d + 4) 122 22 [.val (.ref 1034), .val (.int (Int32.ofNat i)), .unset] [] h (fun v h1 => onI v (fun x => Q x h1)) := fun k => by
    rw [r122_22]; exact ⟨⟨ka, by decide⟩, k⟩
  rcases hall with e | e | e | e | e | e | e | e | e | e | e
  · rw [e] at Kf ⊢; repeat rw [if_neg (by decide)]
    rw [if_pos rfl]; exact ⟨⟨ka, by decide⟩, Kf rfl⟩
  · rw [e] at Kc ⊢; repeat rw [if_neg (by decide)]
    rw [if_pos rfl]; exact ⟨⟨ka, by decide⟩, Kc rfl⟩
  · rw [e] at Kl ⊢; rw [if_pos rfl]; exact el (Kl (by decide))
  · rw [e] at Kl ⊢; repeat rw [if_neg (by decide)]
    rw [if_pos rfl]; exact el (Kl (by decide))
  · rw [e] at Kl ⊢; repeat rw [if_neg (by decide)]
    rw [if_pos rfl]; exact el (Kl (by decide))
  · rw [e] at Kl ⊢; repeat rw [if_neg (by decide)]
    rw [if_pos rfl]; exact el (Kl (by decide))
  · rw [e] at Kt ⊢; repeat rw [if_neg (by decide)]
    rw [if_pos rfl]; exact et (Kt (by decide))
  · rw [e] at Kt ⊢; repeat rw [if_neg (by decide)]
    rw [if_pos rfl]; exact et (Kt (by decide))
  · rw [e] at Km ⊢; repeat rw [if_neg (by decide)]
    exact em (Km (by decide))
  · rw [e] at Km ⊢; repeat rw [if_neg (by decide)]
    rw [if_pos rfl]; exact em (Km (by decide))
  · rw [e] at Km ⊢; repeat rw [if_neg (by decide)]
    rw [if_pos rfl]; exact em (Km (by decide))
theorem nx123 (K : wp (d + 5) 123 4 [.val (.ref 1034), .val (.int 0), .val (.int (Int32.ofNat (i + 1)))] [] h Q) : wp (d + 5) 123 30 [.val (.ref 1034), .val (.int 0), .val (.int (Int32.ofNat i))] [] h Q := by
  rw [r123_30, i_ofNat1, i_add]; exact K
/-- a fact's own name -/
theorem st_fact (kX : kOK X) (B : NB L xs X h0) (N : NS X h0 i F C s om mk h) (hi : i + 2 ≤ X.length) (h1 : 1 ≤ i) (hn : isN (lx X i) 102 F) (hp : (lx X (i - 1)).1 = 1) (hF : F < 10)
    (K : ∀ h1, NS X h0 (i + 1) (F + 1) C s om mk h1 → wp (d + 5) 123 4 [.val (.ref 1034), .val (.int 0), .val (.int (Int32.ofNat (i + 1)))] [] h1 Q) :
    wp (d + 5) 123 4 [.val (.ref 1034), .val (.int 0), .val (.int (Int32.ofNat i))] [] h Q := by
  refine stn kX B N (by omega) h1 hn.1 hp (fun h2 N2 => ?_)
  obtain ⟨C0, O, LB, GR, W⟩ := N2.b B
  obtain ⟨b1, b2, b3, b4, b5, b6, b7, b8, b9, b10, b11, b12⟩ := LB
  obtain ⟨n1, n2, n3, n4, n5, n6, n7, n8, n9, n10, n11, n12, n13⟩ := N2
  have w4 := W.2.2.2.2
  refine sw122 (v := 14) C0 (by decide) (by decide) (by decide) (fun _ => ?_) (fun z => by cases z) (fun z => by rcases z with z | z | z | z <;> cases z) (fun z => by rcases z with z | z <;> cases z) (fun z => by rcases z with z | z | z <;> cases z) b1 (Or.inl rfl)
  rw [e113, b5, n3]
  refine ⟨⟨b1, by decide⟩, ⟨b1, by decide⟩, ⟨b1, by decide⟩, s112 (c := 102) (g := fun t => t) O ⟨b1, b2, b3, b4, b5, b6, b7, b8, b9, b10, b11, b12⟩ W (by omega) hn b9 (by decide) (by omega) (by omega) n5 (fun t ht e _ => by omega) (fun _ => ?_)⟩
  rw [if_pos (by decide), n3, b5, b9, b10, i_nat (by omega)]
  have r4 : p_rm (p_wi h2 1064 F (Int32.ofNat i)) 1034 4 = 1063 := b4
  have r1 : p_rm (p_wi h2 1064 F (Int32.ofNat i)) 1034 1 = 1036 := b2
  have i7 : p_im (p_wi h2 1064 F (Int32.ofNat i)) 1034 7 = Int32.ofNat F := by rw [wi_im, if_neg (by omega), n3]
  have F1 : FR wN w0 h2 (p_wi h2 1064 F (Int32.ofNat i)) := FR.wi (a := 1064) _ (Or.inr (Or.inr (Or.inr (Or.inl rfl))))
  obtain ⟨C1, O1, LB1, GR1, W1⟩ := (B.fr n1).fr F1
  rw [r4, r1, i7, i_nat (by omega), LB1.1, O1.1]
  refine ⟨⟨b1, by decide⟩, if_ltn (k := 10) rfl (by omega) (by decide) (fun _ => ⟨⟨b1, by decide⟩, ⟨b1, by decide⟩, ⟨⟨rfl, by decide⟩, i_in (by omega) (by decide)⟩, ⟨rfl, by decide⟩, ⟨rfl, by decide⟩, ⟨rfl, by decide⟩, ⟨rfl, by decide⟩, ?_⟩) (fun z => absurd hF z)⟩
  rw [show (2 : Int32) = Int32.ofNat 2 from rfl, i_add]
  refine s97w O1 W1 hi ?_
  rw [LB1.2.2.2.2.2.2.1, LB1.2.2.2.2.2.2.2.1]
  refine ⟨⟨⟨rfl, by decide⟩, i_in (by omega) (by decide)⟩, ?_⟩
  have i72 : p_im (p_wi (p_wi h2 1064 F (Int32.ofNat i)) 1063 F (p_im (p_wi h2 1064 F (Int32.ofNat i)) 1041 (i + 2))) 1034 7 = Int32.ofNat F := by rw [wi_im, if_neg (by omega), i7]
  have k72 : p_kd (p_wi (p_wi h2 1064 F (Int32.ofNat i)) 1063 F (p_im (p_wi h2 1064 F (Int32.ofNat i)) 1041 (i + 2))) 1034 = 2 := b1
  rw [r113_33, i72, k72, i_ofNat1, i_add]
  refine ⟨⟨rfl, by decide⟩, ⟨rfl, by decide⟩, nx123 (K _ ?_)⟩
  have e : ∀ a j, a ≠ 1064 → a ≠ 1063 → a ≠ 1034 ∨ j ≠ 7 → p_im (p_wi (p_wi (p_wi h2 1064 F (Int32.ofNat i)) 1063 F (p_im (p_wi h2 1064 F (Int32.ofNat i)) 1041 (i + 2))) 1034 7 (Int32.ofNat (F + 1))) a j = p_im h2 a j := fun a j q1 q2 q3 => by rw [wi_im, if_neg (by omega), wi_im, if_neg (by omega), wi_im, if_neg (by omega)]
  have FF : FR wN w0 h2 (p_wi (p_wi (p_wi h2 1064 F (Int32.ofNat i)) 1063 F (p_im (p_wi h2 1064 F (Int32.ofNat i)) 1041 (i + 2))) 1034 7 (Int32.ofNat (F + 1))) := (F1.tr (FR.wi (a := 1063) _ (Or.inr (Or.inr (Or.inl rfl))))).tr (FR.wi (a := 1034) _ (Or.inl rfl))
  have e7 : p_im (p_wi (p_wi (p_wi h2 1064 F (Int32.ofNat i)) 1063 F (p_im (p_wi h2 1064 F (Int32.ofNat i)) 1041 (i + 2))) 1034 7 (Int32.ofNat (F + 1))) 1034 7 = Int32.ofNat (F + 1) := by rw [wi_im, if_pos ⟨rfl, rfl⟩]
  have e64 : ∀ t, p_im (p_wi (p_wi (p_wi h2 1064 F (Int32.ofNat i)) 1063 F (p_im (p_wi h2 1064 F (Int32.ofNat i)) 1041 (i + 2))) 1034 7 (Int32.ofNat (F + 1))) 1064 t = if t = F then Int32.ofNat i else p_im h2 1064 t := fun t => by
    rw [wi_im, if_neg (by omega), wi_im, if_neg (by omega), wi_im]
    by_cases ht : t = F
    · rw [if_pos ⟨rfl, ht⟩, if_pos ht]
    · rw [if_neg (fun q => ht q.2), if_neg ht]
  generalize p_wi (p_wi (p_wi h2 1064 F (Int32.ofNat i)) 1063 F (p_im (p_wi h2 1064 F (Int32.ofNat i)) 1041 (i + 2))) 1034 7 (Int32.ofNat (F + 1)) = h3 at *
  refine ⟨n1.tr FF, fun c hc j hj => by rw [e _ _ (by omega) (by omega) (by omega), n2 c hc j hj], e7, by omega, fun t ht => ?_, by rw [e _ _ (by omega) (by omega) (by omega), n6], n7, by rw [e _ _ (by omega) (by omega) (by omega), n8], n9, fun t ht => by rw [e _ _ (by omega) (by omega) (by omega)]; exact n10 t ht, by rw [e _ _ (by omega) (by omega) (by omega), n11], fun c hc => by rw [e _ _ (by omega) (by omega) (by omega), e _ _ (by omega) (by omega) (by omega), e _ _ (by omega) (by omega) (by omega)]; exact n12 c hc, fun j q1 q2 q3 q4 => ?_⟩
  · rw [e64]
    by_cases hz : t = F
    · rw [if_pos hz]; exact ⟨i, by omega, rfl, by rw [hz]; exact hn⟩
    · rw [if_neg hz]; exact n5 t (by omega)
  · rw [e _ _ (by omega) (by omega) (by omega)]
    by_cases hz : j < i
    · exact n13 j q1 hz q3 q4
    · obtain rfl : j = i := by omega
      rw [hp]
      exact ⟨fun z => by omega, fun z => by omega⟩
/-- a clause's own name -/
theorem st_clause {o : Nat} (kX : kOK X) (MC : NMC X) (B : NB L xs X h0) (N : NS X h0 i F C s om mk h) (hi : i < X.length) (h1 : 1 ≤ i) (hn : isN (lx X i) 99 C) (hp : (lx X (i - 1)).1 = 2) (hC : C < 7) (hC2 : C < cn X X.length) (ho : p_im h0 (1047 + C) 0 = Int32.ofNat o) (ho1 : o ≤ 1) (hom : om < 2 ^ C)
    (K : ∀ h1, NS X h0 (i + 1) F (C + 1) s (om + o * 2 ^ C) mk h1 → wp (d + 5) 123 4 [.val (.ref 1034), .val (.int 0), .val (.int (Int32.ofNat (i + 1)))] [] h1 Q) :
    wp (d + 5) 123 4 [.val (.ref 1034), .val (.int 0), .val (.int (Int32.ofNat i))] [] h Q := by
  refine stn kX B N (by omega) h1 hn.1 hp (fun h2 N2 => ?_)
  obtain ⟨C0, O, LB, GR, W⟩ := N2.b B
  obtain ⟨b1, b2, b3, b4, b5, b6, b7, b8, b9, b10, b11, b12⟩ := id LB
  obtain ⟨g1, g2, g3, g4⟩ := GR
  obtain ⟨gc1, gc2⟩ := g4 C (by omega)
  obtain ⟨n1, n2, n3, n4, n5, n6, n7, n8, n9, n10, n11, n12, n13⟩ := N2
  have w4 := W.2.2.2.2
  have i8 := n6
  have c0 : p_im h2 (1047 + C) 0 = Int32.ofNat o := by rw [n2 C (by omega) 0 (by omega), ho]
  have fin : ∀ h3 om2, FR wN w0 h2 h3 → (∀ a j, a ≠ 1034 ∨ j ≠ 10 → p_im h3 a j = p_im h2 a j) → p_im h3 1034 10 = Int32.ofNat om2 → om2 = om + o * 2 ^ C → wp (d + 3) 116 37 [.val (.ref 1034), .unset] [] h3 (fun v h1 => onI v (fun x => (fun z3 h3 => wp (d + 5) 123 30 [.val (.ref 1034), .val (.int z3), .val (.int (Int32.ofNat i))] [] h3 Q) x h1)) := by
    intro h3 om2 F3 e3 e10 eo
    have i83 : p_im h3 1034 8 = Int32.ofNat C := by rw [e3 _ _ (by omega), i8]
    have k3 : p_kd h3 1034 = 2 := by rw [F3.kd, b1]
    rw [r116_37, i83, k3, i_ofNat1, i_add]
    refine ⟨⟨rfl, by decide⟩, ⟨rfl, by decide⟩, nx123 (K _ ?_)⟩
    have e : ∀ a j, a ≠ 1034 ∨ (j ≠ 8 ∧ j ≠ 10) → p_im (p_wi h3 1034 8 (Int32.ofNat (C + 1))) a j = p_im h2 a j := fun a j q => by rw [wi_im, if_neg (by omega), e3 _ _ (by omega)]
    have FF : FR wN w0 h2 (p_wi h3 1034 8 (Int32.ofNat (C + 1))) := F3.tr (FR.wi (a := 1034) _ (Or.inl rfl))
    have e8 : p_im (p_wi h3 1034 8 (Int32.ofNat (C + 1))) 1034 8 = Int32.ofNat (C + 1) := by rw [wi_im, if_pos ⟨rfl, rfl⟩]
    have e10' : p_im (p_wi h3 1034 8 (Int32.ofNat (C + 1))) 1034 10 = Int32.ofNat om2 := by rw [wi_im, if_neg (by omega), e10]
    generalize p_wi h3 1034 8 (Int32.ofNat (C + 1)) = h4 at *
    refine ⟨n1.tr FF, fun c hc j hj => by rw [e _ _ (by omega), n2 c hc j hj], by rw [e _ _ (by omega), n3], n4, fun t ht => by rw [e _ _ (by omega)]; exact n5 t ht, e8, by omega, by rw [e _ _ (by omega), n8], n9, fun t ht => by rw [e _ _ (by omega)]; exact n10 t ht, by rw [e10', eo], fun c hc => by rw [e _ _ (by omega), e _ _ (by omega), e _ _ (by omega)]; exact n12 c hc, fun j q1 q2 q3 q4 => ?_⟩
    rw [e _ _ (by omega)]
    by_cases hz : j < i
    · exact n13 j q1 hz q3 q4
    · obtain rfl : j = i := by omega
      rw [hp]
      exact ⟨fun z => by omega, fun z => by omega⟩
  refine sw122 (v := 15) C0 (by decide) (by decide) (by decide) (fun z => by cases z) (fun _ => ?_) (fun z => by rcases z with z | z | z | z <;> cases z) (fun z => by rcases z with z | z <;> cases z) (fun z => by rcases z with z | z | z <;> cases z) b1 (Or.inr (Or.inl rfl))
  rw [e116]
  refine ⟨⟨b1, by decide⟩, s114 kX C0 O LB W MC hi hn hC2 ⟨⟨b1, by decide⟩, ?_⟩⟩
  rw [i8, if_neg (by rw [i_lt (by omega) (by omega)]; omega)]
  refine ⟨⟨b1, by decide⟩, if_ltn (k := 16) rfl (by omega) (by decide) (fun _ => ?_) (fun z => absurd (show C < 16 by omega) z)⟩
  rw [b3, g2, g3, i_nat (by omega), gc1, gc2, c0]
  have p7 : 2 ^ C ≤ 64 := Nat.le_trans (Nat.pow_le_pow_right (by decide) (show C ≤ 6 by omega)) (by decide)
  refine ⟨⟨b1, by decide⟩, ⟨b1, by decide⟩, ⟨⟨by decide, by decide⟩, i_in (by omega) (by decide)⟩, ⟨rfl, by omega⟩, if_eqn (k := 0) rfl (by omega) (by decide) (fun z => ?_) (fun z => ⟨⟨b1, by decide⟩, ?_⟩)⟩
  · exact fin h2 om FR.rf (fun _ _ _ => rfl) n11 (by rw [z]; omega)
  · obtain ⟨q1, q2⟩ := pop_all om (by omega)
    refine s115 ?_
    rw [n11, q1]
    refine if_ltn (k := 8) rfl (by omega) (by decide) (fun _ => ⟨⟨b1, by decide⟩, ⟨b1, by decide⟩, ⟨b1, by decide⟩, ?_⟩) (fun z => absurd (show pop om < 8 by omega) z)
    rw [i8, sh1 C (by omega), i_or]
    refine fin _ _ (FR.wi (a := 1034) _ (Or.inl rfl)) (fun a j q => by rw [wi_im, if_neg (by omega)]) (by rw [wi_im, if_pos ⟨rfl, rfl⟩]) ?_
    have q := Nat.two_pow_add_eq_or_of_lt hom 1
    rw [Nat.mul_one] at q
    rw [show o = 1 from by omega, Nat.one_mul, Nat.or_comm, ← q, Nat.add_comm]
end NS1
