def D0 : CLD := ((0, 0, 0, 0, 0), [], [], [])
def CG (sm p lt : Nat) (h h1 : PH) : Prop := Ext h h1 (fun a => k2 (p_kd h a) ∨ p_kd h a = 15 ∨ (p ≤ a ∧ a ≤ p + 10) ∨ a = lt ∨ a = sm) ∧ ((∀ j, p_rm h1 sm j = p_rm h sm j) ∧ ∀ j, j ≠ 2 → p_im h1 sm j = p_im h sm j)
theorem CG.tr {sm p lt : Nat} {h h1 h2 : PH} (A : CG sm p lt h h1) (B : CG sm p lt h1 h2) : CG sm p lt h h2 := by
  refine ⟨A.1.tr B.1 (fun a ha q => ?_), ⟨fun j => (B.2.1 j).trans (A.2.1 j), fun j hj => (B.2.2 j hj).trans (A.2.2 j hj)⟩⟩
  rw [A.1.kd ha] at q
  exact q
theorem getD_app1 {α : Type} {l r : List α} {d : α} {j : Nat} (h : j < l.length) : (l ++ r).getD j d = l.getD j d := by simp [List.getD, List.getElem?_append_left h]
theorem getD_app2 {α : Type} {l r : List α} {d : α} {j : Nat} : (l ++ r).getD (l.length + j) d = r.getD j d := by simp [List.getD, List.getElem?_append_right]
/-- the loop over clauses -/
theorem l52 {d n f L U b sm p lt : Nat} {xs : Nat → Int32} {Q : Option Value → PH → Prop} (hL : L ≤ 260) (hn : n ≤ 7) (hf : 0 < f) (hf3 : f ≤ 3) (hU : U ≤ 600000) : ∀ (r N c : Nat) (Ds : List CLD) (l : List Int32) (s : List Nat) (h : PH), c + r = n → Ds.length = c → STt L xs N (U + 95 * c) b sm p lt n f l s h → (∀ j, j < c → PC p h j (Ds.getD j D0)) → N + 25 * r ≤ 200000 → l.length + 550 * r ≤ 12000 →
    (∀ h1 Dr X, Dr.length = r → isCs n f c Dr X → STt L xs (N + 25 * r) (U + 95 * n) b sm p lt n f (l ++ lbs X) (sn s X) h1 → (∀ j, j < n → PC p h1 j ((Ds ++ Dr).getD j D0)) → CG sm p lt h h1 → (lbs X).length ≤ 550 * r → Q (some (.ref sm)) h1) →
    wp (d + 9) 52 137 [.val (.ref 60), .unset, .val (.ref b), .val (.ref sm), .val (.int (Int32.ofNat n)), .val (.ref (p + 10)), .val (.int (Int32.ofNat c)), .unset] [] h Q := by
  intro r
  induction r with
  | zero =>
    intro N c Ds l s h e hD T P hN hl K
    rw [r52_137, if_neg (by rw [i_lt (by omega) (by omega)]; omega)]
    refine K h [] [] rfl rfl ?_ (fun j hj => by rw [List.append_nil]; exact P j (by omega)) ⟨Ext.rf, fun _ => rfl, fun _ _ => rfl⟩ (Nat.zero_le _)
    rw [show lbs [] = ([] : List Int32) from rfl, List.append_nil]
    obtain rfl : c = n := by omega
    exact T
  | succ r ih =>
    intro N c Ds l s h e hD T P hN hl K
    refine g52 hL T (by omega) hn hf hf3 (by omega) (by omega) (by omega) (fun h1 D Y y1 F1 y2 P1 T1 => ?_)
    have hDl : (Ds ++ [D]).length = c + 1 := by rw [List.length_append, hD]; rfl
    refine ih (N + 25) (c + 1) (Ds ++ [D]) (l ++ lbs Y) (sn s Y) h1 (by omega) hDl (by rw [show U + 95 * (c + 1) = U + 95 * c + 95 from by omega]; exact T1) (fun j hj => ?_) (by omega) (by rw [List.length_append]; omega) (fun h2 Dr X x1 x2 T2 P2 G2 x3 => ?_)
    · by_cases hz : j < c
      · rw [getD_app1 (by omega)]
        exact (P j hz).cf T.2.2 F1 (by omega)
      · obtain rfl : j = Ds.length + 0 := by omega
        rw [getD_app2]
        show PC p h1 (Ds.length + 0) D
        rw [Nat.add_zero, hD]
        exact P1
    · refine K h2 (D :: Dr) (Y ++ X) (by rw [List.length_cons, x1]) ⟨Y, X, rfl, y1, x2⟩ ?_ (fun j hj => ?_) (CG.tr ⟨F1.1, F1.2.1⟩ G2) (by rw [lbs_app, List.length_append]; omega)
      · rw [lbs_app, sn_app, ← List.append_assoc, show N + 25 * (r + 1) = N + 25 + 25 * r from by omega]
        exact T2
      · have := P2 j hj
        rw [List.append_assoc] at this
        exact this
theorem BT.gen {L : Nat} {xs : Nat → Int32} {N U b x u : Nat} {l : List Int32} {h h1 : PH} {W : Nat → Prop} (B : BT L xs N U h b l) (E : Ext h h1 W) (hx : p_nx h1 ≤ p_nx h + x) (hu : p_us h1 ≤ p_us h + u) (hw : ∀ a, W a → 1000 ≤ a ∧ p_kd h a ≠ 13 ∧ p_kd h a ≠ 120) : BT L xs (N + x) (U + u) h1 b l := by
  obtain ⟨C, g, v, S, g1, g2⟩ := B
  refine ⟨C.ext E (fun a ha q => by have := (hw a q).1; omega), by omega, v, S.ext E (fun q => (hw b q).2.1 S.1) (fun q => (hw v q).2.2 S.2.2.2.1), ?_, ?_⟩
  · rw [E.ln S.2.2.2.2.2.1]; exact g1
  · rw [E.ln S.2.2.2.2.2.1]; omega
/-- the kinds of the rows -/
def kS : List Nat := [100, 100, 300, 100, 100, 314, 314, 314, 315, 100]
/-- k rows are made -/
def RS (sm p n : Nat) (h0 : PH) (k : Nat) (h : PH) : Prop := p_nx h = p + k ∧ p_us h ≤ p_us h0 + 7 * k ∧ Ext h0 h (fun a => a = sm) ∧ (∀ j, p_im h sm j = p_im h0 sm j) ∧ (∀ j, j < 4 ∨ 14 ≤ j → p_rm h sm j = p_rm h0 sm j) ∧ ∀ i, i < k → p_kd h (p + i) = kS.getD i 0 ∧ p_ln h (p + i) = n ∧ p_rm h sm (4 + i) = p + i
theorem RS.step {sm p n k kd : Nat} {h0 h : PH} (R : RS sm p n h0 k h) (hsm : sm < p) (hk : k < 10) (hn : n ≤ 7) (e : kd = kS.getD k 0) : RS sm p n h0 (k + 1) (p_wr (p_new h kd n n) sm (4 + k) (p_nx h)) := by
  obtain ⟨a1, a2, a3, a4, a5, a6⟩ := R
  refine ⟨?_, ?_, (a3.tr (Ext.pn (W := fun a => a = sm) kd n n) (fun _ _ q => q)).tr (Ext.wr (W := fun a => a = sm) _ (fun _ => rfl)) (fun _ _ q => q), fun j => ?_, fun j hj => ?_, fun i hi => ?_⟩
  · rw [wr_nx, pn_nx, a1]; omega
  · rw [wr_us, pn_us]; omega
  · rw [wr_im, pn_im, if_neg (by omega), a4]
  · rw [wr_rm, if_neg (by omega), pn_rm, if_neg (by omega), a5 j hj]
  · rw [wr_kd, wr_ln, wr_rm, pn_kd, pn_ln, pn_rm, a1]
    by_cases hz : i < k
    · rw [if_neg (by omega), if_neg (by omega), if_neg (by omega), if_neg (by omega)]
      exact a6 i hz
    · obtain rfl : i = k := by omega
      rw [if_pos rfl, if_pos rfl, if_pos ⟨rfl, rfl⟩]
      exact ⟨e, rfl, rfl⟩
theorem RS.sm {sm p n k : Nat} {h0 h : PH} (R : RS sm p n h0 k h) (hs : sm < p_nx h0) : p_kd h sm = p_kd h0 sm := R.2.2.1.kd hs
/-- the six numbers of letters: none yet -/
def w6 (h : PH) (a : Nat) : PH := p_wi (p_wi (p_wi (p_wi (p_wi (p_wi (p_new h 100 6 6) a 0 (-1)) a 1 (-1)) a 2 (-1)) a 3 (-1)) a 4 (-1)) a 5 (-1)
theorem w6_im (h : PH) (i : Nat) (hi : i < 6) : p_im (w6 h (p_nx h)) (p_nx h) i = -1 := by
  unfold w6
  have : i = 0 ∨ i = 1 ∨ i = 2 ∨ i = 3 ∨ i = 4 ∨ i = 5 := by omega
  rcases this with rfl | rfl | rfl | rfl | rfl | rfl
  · rw [wi_im, if_neg (by omega), wi_im, if_neg (by omega), wi_im, if_neg (by omega), wi_im, if_neg (by omega), wi_im, if_neg (by omega), wi_im, if_pos ⟨rfl, rfl⟩]
  · rw [wi_im, if_neg (by omega), wi_im, if_neg (by omega), wi_im, if_neg (by omega), wi_im, if_neg (by omega), wi_im, if_pos ⟨rfl, rfl⟩]
  · rw [wi_im, if_neg (by omega), wi_im, if_neg (by omega), wi_im, if_neg (by omega), wi_im, if_pos ⟨rfl, rfl⟩]
  · rw [wi_im, if_neg (by omega), wi_im, if_neg (by omega), wi_im, if_pos ⟨rfl, rfl⟩]
  · rw [wi_im, if_neg (by omega), wi_im, if_pos ⟨rfl, rfl⟩]
  · rw [wi_im, if_pos ⟨rfl, rfl⟩]
theorem w6_ext (h : PH) : Ext h (w6 h (p_nx h)) (fun _ => False) := by
  refine ⟨by show p_nx h ≤ p_nx h + 1; omega, by show p_us h ≤ p_us h + 6; omega, fun a ha => ?_, fun a ha _ => ⟨fun j => ?_, fun j => ?_⟩⟩
  · show p_kd (p_new h 100 6 6) a = _ ∧ p_ln (p_new h 100 6 6) a = _
    rw [pn_kd, pn_ln, if_neg (by omega), if_neg (by omega)]
    exact ⟨rfl, rfl⟩
  · unfold w6
    rw [wi_im, if_neg (by omega), wi_im, if_neg (by omega), wi_im, if_neg (by omega), wi_im, if_neg (by omega), wi_im, if_neg (by omega), wi_im, if_neg (by omega), pn_im, if_neg (by omega)]
  · show p_rm (p_new h 100 6 6) a j = _
    rw [pn_rm, if_neg (by omega)]
/-- the rows are made, and the clauses -/
theorem h52 {d n f L N U b sm lt : Nat} {xs : Nat → Int32} {l : List Int32} {h : PH} {x5 : Int32} {Q : Option Value → PH → Prop} (hL : L ≤ 260) (hn : n ≤ 7) (hf : 0 < f) (hf3 : f ≤ 3) (hU : U ≤ 500000) (hN : N ≤ 190000) (hl : l.length ≤ 8000) (B : BT L xs N U h b l)
    (hs : p_kd h sm = 12 ∧ 1000 ≤ sm ∧ sm < p_nx h ∧ p_im h sm 0 = Int32.ofNat f ∧ p_im h sm 1 = Int32.ofNat n ∧ p_im h sm 2 = 0 ∧ p_rm h sm 14 = lt) (hlt : p_kd h lt = 100 ∧ 1000 ≤ lt ∧ lt < p_nx h ∧ p_ln h lt = 6) (hx5 : ¬ x5 < Int32.ofNat f)
    (K : ∀ h1 Ds X, Ds.length = n → isCs n f 0 Ds X → STt L xs (N + 200) (U + 800) b sm (p_nx h) lt n f (l ++ lbs X) (sn [] X) h1 → (∀ j, j < n → PC (p_nx h) h1 j (Ds.getD j D0)) → Ext h h1 (fun a => k2 (p_kd h a) ∨ p_kd h a = 15 ∨ a = lt ∨ a = sm) → (lbs X).length ≤ 3850 → Q (some (.ref sm)) h1) :
    wp (d + 9) 52 32 [.val (.ref 60), .unset, .val (.ref b), .val (.ref sm), .val (.int (Int32.ofNat n)), .val (.int x5), .unset, .unset] [] h Q := by
  obtain ⟨s1, s2, s3, s4, s5, s6, s7⟩ := hs
  obtain ⟨t1, t2, t3, t4⟩ := hlt
  have s0 : ¬ sm = 0 := by omega
  have e1 : p_CN = 601086 := rfl
  have e2 : p_CS = 7301442 := rfl
  obtain ⟨g1, g2⟩ := B.lim
  have i0 : ¬ Int32.ofNat n < 0 := i_neg (by omega)
  have R0 : RS sm (p_nx h) n h 0 h := ⟨rfl, Nat.le_refl _, Ext.rf, fun _ => rfl, fun _ _ => rfl, fun i hi => absurd hi (Nat.not_lt_zero _)⟩
  have go : ∀ {k : Nat} {h1 : PH}, RS sm (p_nx h) n h k h1 → k < 10 → (¬ Int32.ofNat n < 0 ∧ p_nx h1 + 1 ≤ p_CN ∧ p_us h1 + n ≤ p_CS) := fun R hk => ⟨i0, by rw [R.1]; omega, by have := R.2.1; omega⟩
  have ks : ∀ {k kd : Nat} {h1 : PH}, RS sm (p_nx h) n h k h1 → p_kd (p_new h1 kd n n) sm = 12 ∧ 1000 ≤ sm := fun R => by
    rw [pn_kd, if_neg (by rw [R.1]; omega), R.sm s3, s1]
    exact ⟨rfl, s2⟩
  rw [r52_32, s4, if_neg hx5, i_nat (by omega)]
  have R1 := R0.step (kd := 100) s3 (by decide) hn rfl
  have R2 := R1.step (kd := 100) s3 (by decide) hn rfl
  refine ⟨⟨s1, s0⟩, go R0 (by decide), ks R0, go R1 (by decide), ks R1, ?_⟩
  show wp (d + 9) 52 76 _ [] (p_wr (p_new (p_wr (p_new h 100 n n) sm (4 + 0) (p_nx h)) 100 n n) sm (4 + 1) (p_nx (p_wr (p_new h 100 n n) sm (4 + 0) (p_nx h)))) Q
  generalize p_wr (p_new (p_wr (p_new h 100 n n) sm (4 + 0) (p_nx h)) 100 n n) sm (4 + 1) (p_nx (p_wr (p_new h 100 n n) sm (4 + 0) (p_nx h))) = h2 at *
  rw [r52_76, i_nat (by omega)]
  have R3 := R2.step (kd := 300) s3 (by decide) hn rfl
  have R4 := R3.step (kd := 100) s3 (by decide) hn rfl
  refine ⟨go R2 (by decide), ks R2, go R3 (by decide), ks R3, ?_⟩
  show wp (d + 9) 52 84 _ [] (p_wr (p_new (p_wr (p_new h2 300 n n) sm (4 + 2) (p_nx h2)) 100 n n) sm (4 + 3) (p_nx (p_wr (p_new h2 300 n n) sm (4 + 2) (p_nx h2)))) Q
  generalize p_wr (p_new (p_wr (p_new h2 300 n n) sm (4 + 2) (p_nx h2)) 100 n n) sm (4 + 3) (p_nx (p_wr (p_new h2 300 n n) sm (4 + 2) (p_nx h2))) = h4 at *
  rw [r52_84, i_nat (by omega)]
  have R5 := R4.step (kd := 100) s3 (by decide) hn rfl
  have R6 := R5.step (kd := 314) s3 (by decide) hn rfl
  refine ⟨go R4 (by decide), ks R4, go R5 (by decide), ks R5, ?_⟩
  show wp (d + 9) 52 92 _ [] (p_wr (p_new (p_wr (p_new h4 100 n n) sm (4 + 4) (p_nx h4)) 314 n n) sm (4 + 5) (p_nx (p_wr (p_new h4 100 n n) sm (4 + 4) (p_nx h4)))) Q
  generalize p_wr (p_new (p_wr (p_new h4 100 n n) sm (4 + 4) (p_nx h4)) 314 n n) sm (4 + 5) (p_nx (p_wr (p_new h4 100 n n) sm (4 + 4) (p_nx h4))) = h6 at *
  rw [r52_92, i_nat (by omega)]
  have R7 := R6.step (kd := 314) s3 (by decide) hn rfl
  have R8 := R7.step (kd := 314) s3 (by decide) hn rfl
  refine ⟨go R6 (by decide), ks R6, go R7 (by decide), ks R7, ?_⟩
  show wp (d + 9) 52 100 _ [] (p_wr (p_new (p_wr (p_new h6 314 n n) sm (4 + 6) (p_nx h6)) 314 n n) sm (4 + 7) (p_nx (p_wr (p_new h6 314 n n) sm (4 + 6) (p_nx h6)))) Q
  generalize p_wr (p_new (p_wr (p_new h6 314 n n) sm (4 + 6) (p_nx h6)) 314 n n) sm (4 + 7) (p_nx (p_wr (p_new h6 314 n n) sm (4 + 6) (p_nx h6))) = h8 at *
  rw [r52_100, i_nat (by omega)]
  have R9 := R8.step (kd := 315) s3 (by decide) hn rfl
  have R10 := R9.step (kd := 100) s3 (by decide) hn rfl
  refine ⟨go R8 (by decide), ks R8, go R9 (by decide), ks R9, ?_⟩
  show wp (d + 9) 52 108 _ [] (p_wr (p_new (p_wr (p_new h8 315 n n) sm (4 + 8) (p_nx h8)) 100 n n) sm (4 + 9) (p_nx (p_wr (p_new h8 315 n n) sm (4 + 8) (p_nx h8)))) Q
  generalize p_wr (p_new (p_wr (p_new h8 315 n n) sm (4 + 8) (p_nx h8)) 100 n n) sm (4 + 9) (p_nx (p_wr (p_new h8 315 n n) sm (4 + 8) (p_nx h8))) = h9 at *
  obtain ⟨q1, q2, q3, q4, q5, q6⟩ := id R10
  rw [r52_108]
  have kn : p_kd (p_new h9 100 6 6) (p_nx h9) = 100 := by rw [pn_kd, if_pos rfl]
  have ln : p_ln (p_new h9 100 6 6) (p_nx h9) = 6 := by rw [pn_ln, if_pos rfl]
  have hx : 1000 ≤ p_nx h9 := by rw [q1]; omega
  refine ⟨⟨by decide, by rw [q1]; omega, by omega⟩, ⟨⟨kn, hx⟩, ?_⟩, ⟨⟨kn, hx⟩, ?_⟩, ⟨⟨kn, hx⟩, ?_⟩, ⟨⟨kn, hx⟩, ?_⟩, ⟨⟨kn, hx⟩, ?_⟩, ?_⟩
  · rw [ln]; exact i_in (j := 0) (by decide) (by decide)
  · show p_in 1 (p_ln (p_new h9 100 6 6) (p_nx h9)); rw [ln]; exact i_in (j := 1) (by decide) (by decide)
  · show p_in 2 (p_ln (p_new h9 100 6 6) (p_nx h9)); rw [ln]; exact i_in (j := 2) (by decide) (by decide)
  · show p_in 3 (p_ln (p_new h9 100 6 6) (p_nx h9)); rw [ln]; exact i_in (j := 3) (by decide) (by decide)
  · show p_in 4 (p_ln (p_new h9 100 6 6) (p_nx h9)); rw [ln]; exact i_in (j := 4) (by decide) (by decide)
  rw [r52_130]
  refine ⟨⟨⟨kn, hx⟩, ?_⟩, ?_⟩
  · show p_in 5 (p_ln (p_new h9 100 6 6) (p_nx h9)); rw [ln]; exact i_in (j := 5) (by decide) (by decide)
  show wp (d + 9) 52 137 _ [] (w6 h9 (p_nx h9)) Q
  have E11 := w6_ext h9
  have i11 := w6_im h9
  have x11 : p_nx (w6 h9 (p_nx h9)) = p_nx h9 + 1 := rfl
  have u11 : p_us (w6 h9 (p_nx h9)) = p_us h9 + 6 := rfl
  have k11 : p_kd (w6 h9 (p_nx h9)) (p_nx h9) = 100 := kn
  have l11 : p_ln (w6 h9 (p_nx h9)) (p_nx h9) = 6 := ln
  generalize w6 h9 (p_nx h9) = h11 at *
  have E0 : Ext h h11 (fun a => a = sm) := q3.tr E11 (fun _ _ q => q.elim)
  have B11 : BT L xs (N + 11) (U + 76) h11 b l := B.gen E0 (by omega) (by omega) (fun a q => by rw [q, s1]; exact ⟨s2, by decide, by decide⟩)
  have rm11 : ∀ j, p_rm h11 sm j = p_rm h9 sm j := fun j => E11.rm (by omega) (fun q => q) j
  have im11 : ∀ j, p_im h11 sm j = p_im h sm j := fun j => by rw [E11.im (by omega) (fun q => q) j, q4]
  have g : ∀ i, i < 10 → p_kd h11 (p_nx h + i) = kS.getD i 0 ∧ p_ln h11 (p_nx h + i) = n := fun i hi => by
    rw [E11.kd (by omega), E11.ln (by omega)]
    exact ⟨(q6 i hi).1, (q6 i hi).2.1⟩
  rw [q1] at *
  have S11 : SS sm (p_nx h) lt n f h11 := ⟨by rw [E0.kd s3, s1], s2, s3, t2, t3, by omega, by rw [im11, s4], by rw [im11, s5], fun i hi => by rw [rm11, (q6 i hi).2.2], fun i hi => (g i hi).2,
    (g 0 (by decide)).1, (g 1 (by decide)).1, (g 2 (by decide)).1, (g 3 (by decide)).1, (g 4 (by decide)).1, (g 5 (by decide)).1, (g 6 (by decide)).1, (g 7 (by decide)).1, (g 8 (by decide)).1, (g 9 (by decide)).1, k11⟩
  have M11 : NM sm (p_nx h + 10) lt [] h11 := ⟨k11, hx, by omega, l11, by rw [E0.kd s3, s1], s2, E0.lt s3, by rw [rm11, q5 14 (by omega), s7], by rw [E0.kd t3, t1], t2, E0.lt t3, by rw [E0.ln t3, t4], by omega, by rw [im11, s6]; rfl, by decide, fun x hx => ⟨fun q => absurd (show false = true from q) (by decide), fun _ => i11 x hx⟩⟩
  refine l52 (d := d) (U := U + 76) hL hn hf hf3 (by omega) n (N + 11) 0 [] l [] h11 (by omega) rfl ⟨B11, M11, S11⟩ (fun j hj => absurd hj (Nat.not_lt_zero _)) (by omega) (by omega) (fun h12 Ds X d1 d2 T12 P12 G12 d3 => ?_)
  refine K h12 Ds X d1 d2 ⟨T12.1.up (by omega) (by omega), T12.2⟩ P12 ?_ (by omega)
  refine (E0.up (fun a _ q => Or.inr (Or.inr (Or.inr q)))).tr G12.1 (fun a ha q => ?_)
  rw [E0.kd ha] at q
  rcases q with q | q | q | q | q
  · exact Or.inl q
  · exact Or.inr (Or.inl q)
  · omega
  · exact Or.inr (Or.inr (Or.inl q))
  · exact Or.inr (Or.inr (Or.inr q))
/-- the state while facts are made -/
def VS (sm v lt n f : Nat) (h : PH) : Prop := p_kd h sm = 12 ∧ 1000 ≤ sm ∧ sm < p_nx h ∧ p_im h sm 0 = Int32.ofNat f ∧ p_im h sm 1 = Int32.ofNat n ∧ p_im h sm 2 = 0 ∧ p_rm h sm 14 = lt ∧ p_rm h sm 3 = v ∧ p_kd h v = 100 ∧ 1000 ≤ v ∧ v < p_nx h ∧ p_ln h v = f ∧ p_kd h lt = 100 ∧ 1000 ≤ lt ∧ lt < p_nx h ∧ p_ln h lt = 6
theorem VS.ext {sm v lt n f : Nat} {h h1 : PH} {W : Nat → Prop} (V : VS sm v lt n f h) (E : Ext h h1 W) (hw : ¬ W sm) : VS sm v lt n f h1 := by
  obtain ⟨a1, a2, a3, a4, a5, a6, a7, a8, a9, b1, b2, b3, b4, b5, b6, b7⟩ := V
  exact ⟨by rw [E.kd a3, a1], a2, E.lt a3, by rw [E.im a3 hw, a4], by rw [E.im a3 hw, a5], by rw [E.im a3 hw, a6], by rw [E.rm a3 hw, a7], by rw [E.rm a3 hw, a8], by rw [E.kd b2, a9], b1, E.lt b2, by rw [E.ln b2, b3], by rw [E.kd b6, b4], b5, E.lt b6, by rw [E.ln b6, b7]⟩
theorem lbs_fct {k m : Nat} (hk : k < 32) : lbs (fct k m) = c_sb.getD 0 [] ++ ([Int32.ofNat 102, Int32.ofNat (97 + k)] ++ (c_sb.getD 2 [] ++ (dg m ++ c_sb.getD 3 []))) := by
  show ([102, 97, 99, 116] ++ [32]) ++ ((lw (38, 102 * 32 + k, 1) ++ [32]) ++ (([61] ++ [32]) ++ ((dg m ++ []) ++ (([59] ++ [32]) ++ [])))) = [102, 97, 99, 116, 32] ++ ([Int32.ofNat 102, Int32.ofNat (97 + k)] ++ ([32, 61, 32] ++ (dg m ++ [59, 32])))
  rw [lw_name hk]
  simp only [List.append_assoc, List.append_nil, List.cons_append, List.nil_append]
/-- the loop over facts -/
theorem k52 {d n f L N U b sm v lt : Nat} {xs : Nat → Int32} {Q : Option Value → PH → Prop} (hL : L ≤ 260) (hf3 : f ≤ 3) (hN : N ≤ 300000) (hU : U ≤ 1000000) : ∀ (r k : Nat) (l : List Int32) (h : PH), k + r = f → BT L xs N U h b l → VS sm v lt n f h → l.length + 20 * r ≤ 18000 →
    (∀ h1 vr, vr.length = r → (∀ x ∈ vr, x < 20) → BT L xs N U h1 b (l ++ lbs (fcts k vr)) → VS sm v lt n f h1 → Ext h h1 (fun a => k2 (p_kd h a) ∨ a = v) → (lbs (fcts k vr)).length ≤ 20 * r → wp (d + 9) 52 32 [.val (.ref 60), .unset, .val (.ref b), .val (.ref sm), .val (.int (Int32.ofNat n)), .val (.int (Int32.ofNat f)), .unset, .unset] [] h1 Q) →
    wp (d + 9) 52 32 [.val (.ref 60), .unset, .val (.ref b), .val (.ref sm), .val (.int (Int32.ofNat n)), .val (.int (Int32.ofNat k)), .unset, .unset] [] h Q := by
  intro r
  induction r with
  | zero =>
    intro k l h e B V hl K
    obtain rfl : k = f := by omega
    refine K h [] rfl (fun x hx => absurd hx List.not_mem_nil) ?_ V Ext.rf (Nat.zero_le _)
    rw [show lbs (fcts k []) = ([] : List Int32) from rfl, List.append_nil]
    exact B
  | succ r ih =>
    intro k l h e B V hl K
    obtain ⟨a1, a2, a3, a4, a5, a6, a7, a8, a9, b1, b2, b3, b4, b5, b6, b7⟩ := id V
    have s0 : ¬ sm = 0 := by omega
    have v0 : ¬ v = 0 := by omega
    have nv : ¬ sm = v := fun q => by rw [q, a9] at a1; cases a1
    have hin : p_in (Int32.ofNat k) f := i_in (by omega) (by omega)
    rw [r52_32, a4, if_pos (by rw [i_lt (by omega) (by omega)]; omega), a1, a8]
    refine ⟨⟨rfl, s0⟩, ⟨rfl, s0⟩, s14 (i := 2) B.1 hL (by decide) (fun z1 => ?_)⟩
    rw [show (20 : Int32) = Int32.ofNat 20 from rfl]
    refine s15 (by omega) (by omega) (fun m hm => ?_)
    rw [a9, b3, i_nat (by omega)]
    have Ew : Ext h (p_wi h v k (Int32.ofNat m)) (fun a => a = v) := Ext.wi _ (fun _ => rfl)
    have B1 : BT L xs N U (p_wi h v k (Int32.ofNat m)) b l := B.wr Ew rfl rfl (fun a q => by rw [q, a9]; exact ⟨b1, by decide, by decide⟩)
    have V1 : VS sm v lt n f (p_wi h v k (Int32.ofNat m)) := V.ext Ew nv
    have m1 : p_im (p_wi h v k (Int32.ofNat m)) v k = Int32.ofNat m := by rw [wi_im, if_pos ⟨rfl, rfl⟩]
    have kd1 : p_kd (p_wi h v k (Int32.ofNat m)) v = 100 := a9
    generalize p_wi h v k (Int32.ofNat m) = h1 at *
    have l0 : (c_sb.getD 0 []).length = 5 := by decide
    have l2 : (c_sb.getD 2 []).length = 3 := by decide
    have l3 : (c_sb.getD 3 []).length = 2 := by decide
    have hdm := dg_len m
    refine ⟨⟨⟨rfl, b1⟩, hin⟩, B1.kd, bt_s (j := 0) B1 (by decide) (by decide) (by decide) (by omega) hN hU (fun h2 B2 E2 => ?_)⟩
    rw [show (102 : Int32) = Int32.ofNat 102 from rfl]
    refine bt_n B2 (by decide) (by omega) (by rw [List.length_append]; omega) hN hU (fun h3 B3 E3 => ⟨B3.kd, ?_⟩)
    refine bt_s (j := 2) B3 (by decide) (by decide) (by decide) (by simp only [List.length_append, List.length_cons, List.length_nil]; omega) hN hU (fun h4 B4 E4 => ?_)
    have E14 := (E2.tr E3).tr E4
    have ks : ¬ k2 (p_kd h1 sm) := fun q => by rw [V1.1] at q; rcases q with q | q <;> cases q
    have kv : ¬ k2 (p_kd h1 v) := fun q => by rw [kd1] at q; rcases q with q | q <;> cases q
    have V4 := V1.ext E14 ks
    have m4 : p_im h4 v k = Int32.ofNat m := by rw [Ext.im E14 V1.2.2.2.2.2.2.2.2.2.2.1 kv, m1]
    rw [V4.1, V4.2.2.2.2.2.2.2.1, V4.2.2.2.2.2.2.2.2.1, V4.2.2.2.2.2.2.2.2.2.2.2.1, m4]
    refine ⟨⟨rfl, s0⟩, ⟨⟨by decide, v0⟩, hin⟩, B4.kd, bt_d B4 (by omega) (by simp only [List.length_append, List.length_cons, List.length_nil]; omega) hN hU (fun h5 B5 E5 => ⟨B5.kd, ?_⟩)⟩
    refine bt_s (j := 3) B5 (by decide) (by decide) (by decide) (by simp only [List.length_append, List.length_cons, List.length_nil]; omega) hN hU (fun h6 B6 E6 => ?_)
    have E16 := (E14.tr E5).tr E6
    have e6 : l ++ c_sb.getD 0 [] ++ [Int32.ofNat 102, Int32.ofNat (97 + k)] ++ c_sb.getD 2 [] ++ dg m ++ c_sb.getD 3 [] = l ++ lbs (fct k m) := by rw [lbs_fct (by omega)]; simp only [List.append_assoc]
    rw [e6] at B6
    have lf : (lbs (fct k m)).length ≤ 14 := by rw [lbs_fct (by omega)]; simp only [List.length_append, List.length_cons, List.length_nil]; omega
    rw [i_ofNat1, i_add]
    refine ih (k + 1) _ h6 (by omega) B6 (V1.ext E16 ks) (by rw [List.length_append]; omega) (fun h7 vr c1 c2 B7 V7 E7 c3 => ?_)
    refine K h7 (m :: vr) (by rw [List.length_cons, c1]) (fun x hx => ?_) ?_ V7 ?_ ?_
    · rcases List.mem_cons.mp hx with q | q
      · rw [q]; exact hm
      · exact c2 x q
    · show BT L xs N U h7 b (l ++ lbs (fct k m ++ fcts (k + 1) vr))
      rw [lbs_app, ← List.append_assoc]
      exact B7
    · refine ((Ew.up (fun a _ q => Or.inr q)).tr E16 (fun a ha q => Or.inl ?_)).tr E7 (fun a ha q => ?_)
      · rw [Ew.kd ha] at q; exact q
      · rw [Ext.kd E16 (Nat.lt_of_lt_of_le ha Ew.1), Ew.kd ha] at q; exact q
    · show (lbs (fct k m ++ fcts (k + 1) vr)).length ≤ 20 * (r + 1)
      rw [lbs_app, List.length_append]; omega
/-- the library, by hand and as a text -/
theorem s52 {d L N U b : Nat} {xs : Nat → Int32} {h : PH} {Q : Nat → PH → Prop} (hL : L ≤ 260) (hU : U ≤ 100000) (hN : N ≤ 100000) (B : BT L xs N U h b [])
    (K : ∀ h1 sm p lt n f vs Ds X, 0 < n → n ≤ 7 → 0 < f → f ≤ 3 → vs.length = f → (∀ x ∈ vs, x < 20) → Ds.length = n → isCs n f 0 Ds X → STt L xs (N + 300) (U + 1000) b sm p lt n f (lbs (fcts 0 vs ++ X)) (sn [] X) h1 → (∀ j, j < n → PC p h1 j (Ds.getD j D0)) →
      Ext h h1 (fun a => k2 (p_kd h a) ∨ p_kd h a = 15) → p_nx h ≤ sm → (lbs (fcts 0 vs ++ X)).length ≤ 3950 → Q sm h1) :
    CR (d + 10) 52 [.ref 60, .int (7 : Int32), .ref b] h Q := by
  have C := B.1
  have hn := C.1
  have e1 : p_CN = 601086 := rfl
  have e2 : p_CS = 7301442 := rfl
  obtain ⟨g1, g2⟩ := B.lim
  simp only [List.length_nil] at g1 g2
  rw [e52]
  refine ⟨⟨by omega, by omega⟩, hn, ?_⟩
  have E0 : Ext h (p_new h 12 0 28) (fun _ => False) := Ext.pn 12 0 28
  have k0 : p_kd (p_new h 12 0 28) (p_nx h) = 12 := by rw [pn_kd, if_pos rfl]
  have im0 : ∀ j, p_im (p_new h 12 0 28) (p_nx h) j = 0 := fun j => by rw [pn_im, if_pos rfl]
  rw [e13]
  have xn : p_nx (p_new h 12 0 28) = p_nx h + 1 := rfl
  have E1 : Ext h (p_wr (p_new (p_new h 12 0 28) 100 6 6) (p_nx h) 14 (p_nx (p_new h 12 0 28))) (fun _ => False) := (E0.tr (Ext.pn (W := fun _ => False) 100 6 6) (fun _ _ q => q)).tr (Ext.wr (W := fun a => a = p_nx h) _ (fun _ => rfl)) (fun a ha q => by omega)
  have x1 : p_nx (p_wr (p_new (p_new h 12 0 28) 100 6 6) (p_nx h) 14 (p_nx (p_new h 12 0 28))) = p_nx h + 2 := rfl
  have u1 : p_us (p_wr (p_new (p_new h 12 0 28) 100 6 6) (p_nx h) 14 (p_nx (p_new h 12 0 28))) = p_us h + 28 + 6 := rfl
  have k1 : p_kd (p_new (p_new h 12 0 28) 100 6 6) (p_nx h) = 12 := by rw [pn_kd, if_neg (by omega), k0]
  have kl : p_kd (p_new (p_new h 12 0 28) 100 6 6) (p_nx h + 1) = 100 := by rw [pn_kd, if_pos (by omega)]
  have ll : p_ln (p_new (p_new h 12 0 28) 100 6 6) (p_nx h + 1) = 6 := by rw [pn_ln, if_pos (by omega)]
  have im1 : ∀ j, p_im (p_new (p_new h 12 0 28) 100 6 6) (p_nx h) j = 0 := fun j => by rw [pn_im, if_neg (by omega), im0]
  have rm1 : p_rm (p_wr (p_new (p_new h 12 0 28) 100 6 6) (p_nx h) 14 (p_nx (p_new h 12 0 28))) (p_nx h) 14 = p_nx h + 1 := by rw [wr_rm, if_pos ⟨rfl, rfl⟩]; exact xn
  refine ⟨hn, ⟨by decide, by omega, by show p_us h + 28 + 6 ≤ p_CS; omega⟩, ⟨k1, hn⟩, ⟨by omega, by omega⟩, by omega, ?_⟩
  have k1' : p_kd (p_wr (p_new (p_new h 12 0 28) 100 6 6) (p_nx h) 14 (p_nx (p_new h 12 0 28))) (p_nx h) = 12 := k1
  have kl' : p_kd (p_wr (p_new (p_new h 12 0 28) 100 6 6) (p_nx h) 14 (p_nx (p_new h 12 0 28))) (p_nx h + 1) = 100 := kl
  have ll' : p_ln (p_wr (p_new (p_new h 12 0 28) 100 6 6) (p_nx h) 14 (p_nx (p_new h 12 0 28))) (p_nx h + 1) = 6 := ll
  have im1' : ∀ j, p_im (p_wr (p_new (p_new h 12 0 28) 100 6 6) (p_nx h) 14 (p_nx (p_new h 12 0 28))) (p_nx h) j = 0 := im1
  clear k1 kl ll im1 E0 k0 im0
  generalize p_wr (p_new (p_new h 12 0 28) 100 6 6) (p_nx h) 14 (p_nx (p_new h 12 0 28)) = H1 at *
  refine s12 (by omega) (by omega) (by omega) (fun H2 S2 _ E2 x2 u2 => ?_)
  have k2s : p_kd H2 (p_nx h) = 12 := by rw [E2.kd (by omega), k1']
  refine ⟨⟨k2s, hn⟩, ?_⟩
  have E3 : Ext h (p_wr H2 (p_nx h) 18 (p_nx H1)) (fun _ => False) := (E1.tr E2 (fun _ _ q => q)).tr (Ext.wr (W := fun a => a = p_nx h) _ (fun _ => rfl)) (fun a ha q => by omega)
  have x3 : p_nx (p_wr H2 (p_nx h) 18 (p_nx H1)) = p_nx h + 4 := by rw [wr_nx, x2, x1]
  have u3 : p_us (p_wr H2 (p_nx h) 18 (p_nx H1)) = p_us h + 54 := by rw [wr_us, u2, u1]
  have k3 : p_kd (p_wr H2 (p_nx h) 18 (p_nx H1)) (p_nx h) = 12 := k2s
  have kl3 : p_kd (p_wr H2 (p_nx h) 18 (p_nx H1)) (p_nx h + 1) = 100 := by rw [wr_kd, E2.kd (by omega), kl']
  have ll3 : p_ln (p_wr H2 (p_nx h) 18 (p_nx H1)) (p_nx h + 1) = 6 := by rw [wr_ln, E2.ln (by omega), ll']
  have im3 : ∀ j, p_im (p_wr H2 (p_nx h) 18 (p_nx H1)) (p_nx h) j = 0 := fun j => by rw [wr_im, E2.im (by omega) (fun q => q), im1']
  have rm3 : p_rm (p_wr H2 (p_nx h) 18 (p_nx H1)) (p_nx h) 14 = p_nx h + 1 := by rw [wr_rm, if_neg (by omega), E2.rm (by omega) (fun q => q), rm1]
  generalize p_wr H2 (p_nx h) 18 (p_nx H1) = H3 at *
  clear k1' kl' ll' im1' E1 x1 u1 rm1 E2 x2 u2 k2s S2
  refine s14 (i := 0) (C.ext E3 (fun _ _ q => q)) hL (by decide) (fun z2 => ?_)
  rw [show (3 : Int32) = Int32.ofNat 3 from rfl]
  refine s15 (by omega) (by omega) (fun m1 hm1 => ?_)
  rw [i_ofNat1, i_add]
  have E4 : Ext h (p_wi H3 (p_nx h) 0 (Int32.ofNat (1 + m1))) (fun _ => False) := E3.tr (Ext.wi (W := fun a => a = p_nx h) _ (fun _ => rfl)) (fun a ha q => by omega)
  refine ⟨⟨k3, hn⟩, s14 (i := 1) (C.ext E4 (fun _ _ q => q)) hL (by decide) (fun z4 => ?_)⟩
  rw [show (7 : Int32) = Int32.ofNat 7 from rfl]
  refine s15 (by omega) (by omega) (fun m2 hm2 => ?_)
  rw [i_add]
  have E5 : Ext h (p_wi (p_wi H3 (p_nx h) 0 (Int32.ofNat (1 + m1))) (p_nx h) 1 (Int32.ofNat (1 + m2))) (fun _ => False) := E4.tr (Ext.wi (W := fun a => a = p_nx h) _ (fun _ => rfl)) (fun a ha q => by omega)
  have i50 : p_im (p_wi (p_wi H3 (p_nx h) 0 (Int32.ofNat (1 + m1))) (p_nx h) 1 (Int32.ofNat (1 + m2))) (p_nx h) 0 = Int32.ofNat (1 + m1) := by rw [wi_im, if_neg (by omega), wi_im, if_pos ⟨rfl, rfl⟩]
  have i51 : p_im (p_wi (p_wi H3 (p_nx h) 0 (Int32.ofNat (1 + m1))) (p_nx h) 1 (Int32.ofNat (1 + m2))) (p_nx h) 1 = Int32.ofNat (1 + m2) := by rw [wi_im, if_pos ⟨rfl, rfl⟩]
  have i52 : p_im (p_wi (p_wi H3 (p_nx h) 0 (Int32.ofNat (1 + m1))) (p_nx h) 1 (Int32.ofNat (1 + m2))) (p_nx h) 2 = 0 := by rw [wi_im, if_neg (by omega), wi_im, if_neg (by omega), im3]
  have x5 : p_nx (p_wi (p_wi H3 (p_nx h) 0 (Int32.ofNat (1 + m1))) (p_nx h) 1 (Int32.ofNat (1 + m2))) = p_nx h + 4 := x3
  have u5 : p_us (p_wi (p_wi H3 (p_nx h) 0 (Int32.ofNat (1 + m1))) (p_nx h) 1 (Int32.ofNat (1 + m2))) = p_us h + 54 := u3
  have k5 : p_kd (p_wi (p_wi H3 (p_nx h) 0 (Int32.ofNat (1 + m1))) (p_nx h) 1 (Int32.ofNat (1 + m2))) (p_nx h) = 12 := k3
  have kl5 : p_kd (p_wi (p_wi H3 (p_nx h) 0 (Int32.ofNat (1 + m1))) (p_nx h) 1 (Int32.ofNat (1 + m2))) (p_nx h + 1) = 100 := kl3
  have ll5 : p_ln (p_wi (p_wi H3 (p_nx h) 0 (Int32.ofNat (1 + m1))) (p_nx h) 1 (Int32.ofNat (1 + m2))) (p_nx h + 1) = 6 := ll3
  have rm5 : p_rm (p_wi (p_wi H3 (p_nx h) 0 (Int32.ofNat (1 + m1))) (p_nx h) 1 (Int32.ofNat (1 + m2))) (p_nx h) 14 = p_nx h + 1 := rm3
  refine ⟨⟨k3, hn⟩, ⟨k3, by omega⟩, ⟨k3, by omega⟩, ?_⟩
  generalize p_wi (p_wi H3 (p_nx h) 0 (Int32.ofNat (1 + m1))) (p_nx h) 1 (Int32.ofNat (1 + m2)) = H5 at *
  rw [i50, i51, i_nat (by omega)]
  refine ⟨⟨i_neg (by omega), by omega, by omega⟩, ?_⟩
  have E6 : Ext h (p_new H5 100 (1 + m1) (1 + m1)) (fun _ => False) := E5.tr (Ext.pn (W := fun _ => False) _ _ _) (fun _ _ q => q)
  have k6 : p_kd (p_new H5 100 (1 + m1) (1 + m1)) (p_nx h) = 12 := by rw [pn_kd, if_neg (by omega), k5]
  rw [r52_29]
  refine ⟨⟨k6, hn⟩, ?_⟩
  have E7 : Ext h (p_wr (p_new H5 100 (1 + m1) (1 + m1)) (p_nx h) 3 (p_nx H5)) (fun _ => False) := E6.tr (Ext.wr (W := fun a => a = p_nx h) _ (fun _ => rfl)) (fun a ha q => by omega)
  have B7 : BT L xs (N + 5) (U + 100) (p_wr (p_new H5 100 (1 + m1) (1 + m1)) (p_nx h) 3 (p_nx H5)) b [] := B.gen E7 (by rw [wr_nx, pn_nx]; omega) (by rw [wr_us, pn_us]; omega) (fun a q => q.elim)
  have V7 : VS (p_nx h) (p_nx H5) (p_nx h + 1) (1 + m2) (1 + m1) (p_wr (p_new H5 100 (1 + m1) (1 + m1)) (p_nx h) 3 (p_nx H5)) := by
    have j5 : ∀ j, p_im (p_wr (p_new H5 100 (1 + m1) (1 + m1)) (p_nx h) 3 (p_nx H5)) (p_nx h) j = p_im H5 (p_nx h) j := fun j => by rw [wr_im, pn_im, if_neg (by omega)]
    refine ⟨k6, hn, by rw [wr_nx, pn_nx]; omega, by rw [j5, i50], by rw [j5, i51], by rw [j5, i52], ?_, ?_, ?_, by omega, by rw [wr_nx, pn_nx]; omega, ?_, ?_, by omega, by rw [wr_nx, pn_nx]; omega, ?_⟩
    · rw [wr_rm, if_neg (by omega), pn_rm, if_neg (by omega), rm5]
    · rw [wr_rm, if_pos ⟨rfl, rfl⟩]
    · rw [wr_kd, pn_kd, if_pos rfl]
    · rw [wr_ln, pn_ln, if_pos rfl]
    · rw [wr_kd, pn_kd, if_neg (by omega), kl5]
    · rw [wr_ln, pn_ln, if_neg (by omega), ll5]
  generalize p_wr (p_new H5 100 (1 + m1) (1 + m1)) (p_nx h) 3 (p_nx H5) = H7 at *
  refine k52 (d := d) (f := 1 + m1) (n := 1 + m2) hL (by omega) (by omega) (by omega) (1 + m1) 0 [] H7 (by omega) B7 V7 (by show 0 + 20 * (1 + m1) ≤ 18000; omega) (fun h8 vs c1 c2 B8 V8 E8 c3 => ?_)
  rw [List.nil_append] at B8
  obtain ⟨a1, a2, a3, a4, a5, a6, a7, a8, a9, b1, b2, b3, b4, b5, b6, b7⟩ := id V8
  refine h52 (d := d) hL (by omega) (by omega) (by omega) (by omega) (by omega) (by omega) B8 ⟨a1, a2, a3, a4, a5, a6, a7⟩ ⟨b4, b5, b6, b7⟩ (by rw [i_lt (by omega) (by omega)]; omega) (fun h9 Ds X d1 d2 T9 P9 E9 d3 => ?_)
  rw [← lbs_app] at T9
  refine K h9 (p_nx h) (p_nx h8) (p_nx h + 1) (1 + m2) (1 + m1) vs Ds X (by omega) (by omega) (by omega) (by omega) c1 c2 d1 d2 ⟨T9.1.up (by omega) (by omega), T9.2⟩ P9 ?_ (Nat.le_refl _) (by rw [lbs_app, List.length_append]; omega)
  refine ((E7.up (fun _ _ q => q.elim)).tr E8 (fun a ha q => ?_)).tr E9 (fun a ha q => ?_)
  · rcases q with q | q
    · rw [E7.kd ha] at q; exact Or.inl q
    · omega
  · rw [Ext.kd E8 (Nat.lt_of_lt_of_le ha E7.1), E7.kd ha] at q
    rcases q with q | q | q | q
    · exact Or.inl q
    · exact Or.inr q
    · omega
    · omega
