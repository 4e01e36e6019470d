section CLS3
variable {d n f c L N U b sm p lt : Nat} {xs : Nat → Int32} {l : List Int32} {s : List Nat} {h : PH} {Q : Option Value → PH → Prop}
theorem lwh_len (D : CLD) (h1 : cl_t D ≤ 3) (h2 : cl_h D < 20) : (lbs (cwh D)).length ≤ 15 := by
  unfold cwh
  cases hz : Nat.beq (cl_t D) 0
  · show (lbs [(3, 0, 1), (38, 102 * 32 + (cl_t D - 1), 1), (34, 0, 1), (39, cl_h D, 1)]).length ≤ 15
    rw [lbs_wh (by omega)]
    have := dg_len (cl_h D)
    have l5 : (c_sb.getD 5 []).length = 5 := by decide
    have l6 : (c_sb.getD 6 []).length = 3 := by decide
    simp only [List.length_append, List.length_cons, List.length_nil]
    omega
  · exact Nat.zero_le _
theorem lop_len (D : CLD) : (lbs (cop D)).length ≤ 15 := by
  unfold cop
  cases hz : Nat.beq (cl_o D) 0
  · show (lbs [(4, 0, 1), (39, cl_g D, 1), (39, cl_b D, 1)]).length ≤ 15
    rw [lbs_op]
    have := dg_len (cl_g D)
    have := dg_len (cl_b D)
    have l5 : (c_sb.getD 7 []).length = 9 := by decide
    simp only [List.length_append, List.length_cons, List.length_nil]
    omega
  · exact Nat.zero_le _
theorem llk_len {t : Nat} (ht : (lw (t, 0, 1)).length ≤ 5) : ∀ r : List Nat, (∀ o ∈ r, o < 26) → (lbs (lks t r)).length ≤ 10 * r.length
  | [], _ => Nat.le_refl _
  | o :: r, ho => by
    have e : lbs (lks t (o :: r)) = lbs [(t, 0, 1), (38, 99 * 32 + o, 1)] ++ lbs (lks t r) := by
      show lbs ([(t, 0, 1), (38, 99 * 32 + o, 1)] ++ lks t r) = _
      rw [lbs_app]
    have := llk_len ht r (fun x hx => ho x (List.mem_cons_of_mem _ hx))
    have e2 : lbs [(t, 0, 1), (38, 99 * 32 + o, 1)] = (lw (t, 0, 1) ++ [32]) ++ (([Int32.ofNat 99, Int32.ofNat (97 + o)] ++ [32]) ++ []) := by
      show (lw (t, 0, 1) ++ [32]) ++ ((lw (38, 99 * 32 + o, 1) ++ [32]) ++ []) = _
      rw [lw_name (by have := ho o List.mem_cons_self; omega)]
    rw [e, List.length_append, e2]
    simp only [List.length_append, List.length_cons, List.length_nil] at this ⊢
    omega
/-- the part of a clause that tells whether it is optional -/
theorem e52b {D : CLD} (T : STt L xs N U b sm p lt n f l s h) (hc : c < n) (hn : n ≤ 7) (ho : cl_o D ≤ 1) (hg : cl_g D < 30) (hb : cl_b D < 30) (hN : N ≤ 300000) (hU : U ≤ 1000000) (hl : l.length ≤ 18000) (KK : KN p c [tv (cl_t D), Int32.ofNat (cl_h D), Int32.ofNat (cl_o D), Int32.ofNat (cl_g D), Int32.ofNat (cl_b D)] h)
    (K : ∀ h1, EK k2 h h1 → STt L xs N U b sm p lt n f (l ++ lbs (cop D)) s h1 → wp (d + 9) 52 333 [.val (.ref 60), .unset, .val (.ref b), .val (.ref sm), .val (.int (Int32.ofNat n)), .val (.ref (p + 10)), .val (.int (Int32.ofNat c)), .unset] [] h1 Q) :
    wp (d + 9) 52 310 [.val (.ref 60), .unset, .val (.ref b), .val (.ref sm), .val (.int (Int32.ofNat n)), .val (.ref (p + 10)), .val (.int (Int32.ofNat c)), .unset] [] h Q := by
  have S := T.2.2
  have s0 : ¬ sm = 0 := by have := S.2.1; omega
  have sp := S.2.2.1
  have hin : p_in (Int32.ofNat c) n := i_in hc (by omega)
  obtain ⟨-, -, r6, -⟩ := S.rs
  have v2 : p_im h (p + 2) c = Int32.ofNat (cl_o D) := KK.2 2 (by decide : 2 < 5)
  rw [r52_310, S.1, r6, S.kds.2.2.1, S.lns.2.2.1, i_nat (by omega), v2]
  refine ⟨⟨rfl, s0⟩, ⟨⟨Or.inr rfl, by omega⟩, hin⟩, ?_⟩
  split
  · rename_i hz
    rw [i_ofNat0, i_eq (by omega) (by omega)] at hz
    have : cop D = [] := by unfold cop; rw [hz]; rfl
    refine K h EK.rf ?_
    rw [this, show lbs [] = ([] : List Int32) from rfl, List.append_nil]
    exact T
  · rename_i hz
    rw [i_ofNat0, i_eq (by omega) (by omega)] at hz
    have l7 : (c_sb.getD 7 []).length = 9 := by decide
    have hdg := dg_len (cl_g D)
    refine ⟨T.1.kd, bt_s (j := 7) T.1 (by decide) (by decide) (by decide) (by omega) hN hU (fun h1 B1 E1 => ?_)⟩
    have T1 := T.ek B1 E1
    have KA : ∀ h1, EK k2 h h1 → KN p c [tv (cl_t D), Int32.ofNat (cl_h D), Int32.ofNat (cl_o D), Int32.ofNat (cl_g D), Int32.ofNat (cl_b D)] h1 := fun h1 E => KK.ek S (CF.ek S E)
    have v3 : p_im h1 (p + 3) c = Int32.ofNat (cl_g D) := (KA h1 E1).2 3 (by decide : 3 < 5)
    rw [T1.2.2.1, T1.2.2.rs.2.2.2.1, T1.2.2.kds.2.2.2.1, T1.2.2.lns.2.2.2.1, v3]
    refine ⟨⟨rfl, s0⟩, ⟨⟨by decide, by omega⟩, hin⟩, B1.kd, bt_d B1 (by omega) (by rw [List.length_append]; omega) hN hU (fun h2 B2 E2 => ⟨B2.kd, ?_⟩)⟩
    rw [show (32 : Int32) = Int32.ofNat 32 from rfl]
    refine bt_c B2 (by decide) (by simp only [List.length_append]; omega) hN hU (fun h3 B3 E3 => ?_)
    have T3 := (T1.ek B2 E2).ek B3 E3
    have v4 : p_im h3 (p + 4) c = Int32.ofNat (cl_b D) := (KA h3 ((E1.tr E2).tr E3)).2 4 (by decide : 4 < 5)
    rw [T3.2.2.1, T3.2.2.rs.2.2.2.2.1, T3.2.2.kds.2.2.2.2.1, T3.2.2.lns.2.2.2.2.1, v4]
    refine ⟨⟨rfl, s0⟩, ⟨⟨by decide, by omega⟩, hin⟩, B3.kd, bt_d B3 (by omega) (by simp only [List.length_append, List.length_cons, List.length_nil]; omega) hN hU (fun h4 B4 E4 => ⟨B4.kd, ?_⟩)⟩
    have hdb := dg_len (cl_b D)
    refine bt_c B4 (by decide) (by simp only [List.length_append, List.length_cons, List.length_nil]; omega) hN hU (fun h5 B5 E5 => ?_)
    refine K h5 ((((E1.tr E2).tr E3).tr E4).tr E5) ?_
    have T5 := (T3.ek B4 E4).ek B5 E5
    have : cop D = [(4, 0, 1), (39, cl_g D, 1), (39, cl_b D, 1)] := by unfold cop; rw [beq_no hz]; rfl
    rw [this, lbs_op]
    simp only [List.append_assoc] at T5 ⊢
    exact T5
/-- the links and the block of a clause are said -/
theorem f52 {N1 B1 A1 : List Nat} (T : STt L xs N U b sm p lt n f l s h) (hc : c < n) (hn : n ≤ 7) (hf : f ≤ 3) (hN : N ≤ 300000) (hU : U ≤ 1000000) (hl : l.length ≤ 15000) (R5 : LR p c 5 N1 h) (R6 : LR p c 6 B1 h) (R7 : LR p c 7 A1 h) (l5 : N1.length ≤ 2) (l6 : B1.length ≤ 1) (l7 : A1.length ≤ 2)
    (o5 : ∀ o ∈ N1, o < n ∧ o ≠ c) (o6 : ∀ o ∈ B1, o < n ∧ o ≠ c) (o7 : ∀ o ∈ A1, o < n ∧ o ≠ c) (BK : BK0 n f c h (p_rm h (p + 8) c))
    (K : ∀ h1 Y, isB0 n f c Y → FS sm (p + 10) lt h h1 → (lbs Y).length ≤ 460 → STt L xs N U b sm p lt n f (l ++ lbs (lks 5 N1 ++ (lks 6 B1 ++ lks 7 A1)) ++ lbs Y) (sn s Y) h1 → wp (d + 9) 52 137 [.val (.ref 60), .unset, .val (.ref b), .val (.ref sm), .val (.int (Int32.ofNat n)), .val (.ref (p + 10)), .val (.int (Int32.ofNat (c + 1))), .unset] [] h1 Q) :
    wp (d + 9) 52 333 [.val (.ref 60), .unset, .val (.ref b), .val (.ref sm), .val (.int (Int32.ofNat n)), .val (.ref (p + 10)), .val (.int (Int32.ofNat c)), .unset] [] h Q := by
  have S := T.2.2
  have s0 : ¬ sm = 0 := by have := S.2.1; omega
  have sp := S.2.2.1
  have hin : p_in (Int32.ofNat c) n := i_in hc (by omega)
  have g5 := llk_len (t := 5) (by decide) N1 (fun o ho => by have := o5 o ho; omega)
  have g6 := llk_len (t := 6) (by decide) B1 (fun o ho => by have := o6 o ho; omega)
  have g7 := llk_len (t := 7) (by decide) A1 (fun o ho => by have := o7 o ho; omega)
  rw [r52_333, S.1, S.rs.2.2.2.2.2.1, S.kds.2.2.2.2.2.1, S.lns.2.2.2.2.2.1, i_nat (by omega)]
  refine ⟨⟨rfl, s0⟩, ⟨⟨by decide, by omega⟩, hin⟩, ?_⟩
  refine s50 (j := 8) (t := 5) (by decide) (by decide) (by decide) (by decide) hN hU T.1 R5.2 (fun o ho => by have := o5 o ho; omega) (by omega) (fun h1 X1 E1 => ?_)
  have T1 := T.ek X1 E1
  have Fx1 : CF sm p lt (c + 1) h h1 := CF.ek S E1
  have R61 := R6.cf S Fx1 (by decide)
  rw [T1.2.2.1, T1.2.2.rs.2.2.2.2.2.2.1, T1.2.2.kds.2.2.2.2.2.2.1, T1.2.2.lns.2.2.2.2.2.2.1]
  refine ⟨⟨rfl, s0⟩, ⟨⟨by decide, by omega⟩, hin⟩, ?_⟩
  refine s50 (j := 9) (t := 6) (by decide) (by decide) (by decide) (by decide) hN hU X1 R61.2 (fun o ho => by have := o6 o ho; omega) (by rw [List.length_append]; omega) (fun h2 X2 E2 => ?_)
  have T2 := T1.ek X2 E2
  have Fx2 : CF sm p lt (c + 1) h h2 := CF.ek S (E1.tr E2)
  have R72 := R7.cf S Fx2 (by decide)
  rw [T2.2.2.1, T2.2.2.rs.2.2.2.2.2.2.2.1, T2.2.2.kds.2.2.2.2.2.2.2.1, T2.2.2.lns.2.2.2.2.2.2.2.1]
  refine ⟨⟨rfl, s0⟩, ⟨⟨by decide, by omega⟩, hin⟩, ?_⟩
  refine s50 (j := 10) (t := 7) (by decide) (by decide) (by decide) (by decide) hN hU X2 R72.2 (fun o ho => by have := o7 o ho; omega) (by rw [List.length_append, List.length_append]; omega) (fun h3 X3 E3 => ?_)
  have T3 := T2.ek X3 E3
  have E := (E1.tr E2).tr E3
  have Fx3 : CF sm p lt (c + 1) h h3 := CF.ek S E
  have BK3 : BK0 n f c h3 (p_rm h3 (p + 8) c) := by
    rw [(Fx3.2.2 8 (by decide) c (by omega)).2]
    exact BK.ext E (fun x hx q => by rcases hx with hx | hx <;> rw [hx] at q <;> rcases q with q | q <;> cases q)
  rw [T3.2.2.1, T3.2.2.rs.2.2.2.2.2.2.2.2.1, T3.2.2.kds.2.2.2.2.2.2.2.2.1, T3.2.2.lns.2.2.2.2.2.2.2.2.1]
  refine ⟨⟨rfl, s0⟩, ⟨⟨by decide, by omega⟩, hin⟩, ?_⟩
  refine s51b (by omega) (by omega) hN hU X3 T3.2.1 BK3 (by simp only [List.length_append]; omega) (fun h4 Y y1 B4 M4 F4 y2 => ?_)
  rw [i_ofNat1, i_add]
  refine K h4 Y y1 ((FS.ek E S.1).tr F4) y2 ⟨?_, M4, T3.2.2.cf (CF.fs (c := c) T3.2.2 F4)⟩
  rw [lbs_app, lbs_app]
  simp only [List.append_assoc] at B4 ⊢
  exact B4
theorem sn_skip {s : List Nat} : ∀ X : List Lx, (∀ x ∈ X, x.1 = 38 → x.2.1 / 32 ≠ 116) → sn s X = s
  | [], _ => rfl
  | x :: r, h => by
    have e : snx s x = s := by
      unfold snx
      by_cases h1 : x.1 = 38
      · rw [beq_no (h x List.mem_cons_self h1), Bool.and_false]; rfl
      · rw [beq_no h1]; rfl
    show sn (snx s x) r = s
    rw [e]
    exact sn_skip r (fun y hy => h y (List.mem_cons_of_mem _ hy))
theorem lks_mem {t : Nat} {r : List Nat} {x : Lx} (h : x ∈ lks t r) : x = (t, 0, 1) ∨ ∃ o ∈ r, x = (38, 99 * 32 + o, 1) := by
  obtain ⟨o, ho, hx⟩ := List.mem_flatMap.mp h
  rcases List.mem_cons.mp hx with q | q
  · exact Or.inl q
  · exact Or.inr ⟨o, ho, List.mem_singleton.mp q⟩
theorem sn_chd {s : List Nat} {D : CLD} (hc : c < 32) (ok : okD n f c D) (hf : f ≤ 3) (hn : n ≤ 7) : sn s (chd c D) = s := by
  obtain ⟨a1, -, -, -, -, -, -, -, a2, a3, a4⟩ := ok
  refine sn_skip _ (fun x hx h1 => ?_)
  unfold chd at hx
  rcases List.mem_append.mp hx with q | q
  · rcases List.mem_cons.mp q with q | q
    · rw [q] at h1; cases h1
    · rw [List.mem_singleton.mp q]; show (99 * 32 + c) / 32 ≠ 116; omega
  rcases List.mem_append.mp q with q | q
  · unfold cwh at q
    cases hz : Nat.beq (cl_t D) 0
    · rw [hz] at q
      rcases List.mem_cons.mp q with q | q
      · rw [q] at h1; cases h1
      rcases List.mem_cons.mp q with q | q
      · rw [q]; show (102 * 32 + (cl_t D - 1)) / 32 ≠ 116; omega
      rcases List.mem_cons.mp q with q | q
      · rw [q] at h1; cases h1
      · rw [List.mem_singleton.mp q] at h1; cases h1
    · rw [hz] at q; cases q
  rcases List.mem_append.mp q with q | q
  · unfold cop at q
    cases hz : Nat.beq (cl_o D) 0
    · rw [hz] at q
      rcases List.mem_cons.mp q with q | q
      · rw [q] at h1; cases h1
      rcases List.mem_cons.mp q with q | q
      · rw [q] at h1; cases h1
      · rw [List.mem_singleton.mp q] at h1; cases h1
    · rw [hz] at q; cases q
  unfold clk at q
  have lk : ∀ t r, t ≠ 38 → (∀ o ∈ r, o < n ∧ o ≠ c) → x ∈ lks t r → x.2.1 / 32 ≠ 116 := fun t r ht hr hx => by
    rcases lks_mem hx with q | ⟨o, ho, q⟩
    · rw [q] at h1; exact absurd h1 ht
    · rw [q]; have := hr o ho; show (99 * 32 + o) / 32 ≠ 116; omega
  rcases List.mem_append.mp q with q | q
  · exact lk 5 _ (by decide) a2 q
  rcases List.mem_append.mp q with q | q
  · exact lk 6 _ (by decide) a3 q
  · exact lk 7 _ (by decide) a4 q
/-- a whole clause -/
theorem g52 (hL : L ≤ 260) (T : STt L xs N U b sm p lt n f l s h) (hc : c < n) (hn : n ≤ 7) (hf : 0 < f) (hf3 : f ≤ 3) (hN : N ≤ 270000) (hU : U ≤ 700000) (hl : l.length ≤ 12000)
    (K : ∀ h1 D Y, isC n f c D Y → CF sm p lt c h h1 → (lbs Y).length ≤ 550 → PC p h1 c D → STt L xs (N + 25) (U + 95) b sm p lt n f (l ++ lbs Y) (sn s Y) h1 → wp (d + 9) 52 137 [.val (.ref 60), .unset, .val (.ref b), .val (.ref sm), .val (.int (Int32.ofNat n)), .val (.ref (p + 10)), .val (.int (Int32.ofNat (c + 1))), .unset] [] h1 Q) :
    wp (d + 9) 52 137 [.val (.ref 60), .unset, .val (.ref b), .val (.ref sm), .val (.int (Int32.ofNat n)), .val (.ref (p + 10)), .val (.int (Int32.ofNat c)), .unset] [] h Q := by
  refine a52 hL T hc hn hf hf3 (fun h1 t x7 ht F1 T1 => ?_)
  refine b52 T1 hc hn (fun h2 th op hth hop F2 T2 K2 => ?_)
  refine c52 hL T2 hc hn hop (by omega) (by omega) (by omega) K2 (fun h3 gd bd N1 hgd hbd F3 T3 K3 n1 n2 R3 => ?_)
  refine d52 hL T3 hc hn hf hf3 ht hth (by omega) (by omega) (by omega) K3 R3 (fun h4 B1 A1 b1 a1 b2 a2 F4 T4 K4 R54 R64 R74 BK4 => ?_)
  have hl4 : (l ++ lbs ([(2, 0, 1), (38, 99 * 32 + c, 1)] ++ cwh ((t, th, op, gd, bd), N1, B1, A1))).length ≤ l.length + 25 := by
    have q := lwh_len ((t, th, op, gd, bd), N1, B1, A1) (show t ≤ 3 by omega) hth
    rw [List.length_append, lbs_app, List.length_append, lbs_cl (by omega)]
    have l4 : (c_sb.getD 4 []).length = 7 := by decide
    simp only [List.length_append, List.length_cons, List.length_nil]
    omega
  refine e52b (D := ((t, th, op, gd, bd), N1, B1, A1)) T4 hc hn hop hgd hbd (by omega) (by omega) (by omega) K4 (fun h5 E5 T5 => ?_)
  have q5 := lop_len ((t, th, op, gd, bd), N1, B1, A1)
  have Fx : CF sm p lt (c + 1) h4 h5 := CF.ek T4.2.2 E5
  have K5 := K4.ek T4.2.2 Fx
  have R55 := R54.cf T4.2.2 Fx (by decide)
  have R65 := R64.cf T4.2.2 Fx (by decide)
  have R75 := R74.cf T4.2.2 Fx (by decide)
  have BK5 : BK0 n f c h5 (p_rm h5 (p + 8) c) := by
    rw [(Fx.2.2 8 (by decide) c (by omega)).2]
    exact BK4.ext E5 (fun x hx q => by rcases hx with hx | hx <;> rw [hx] at q <;> rcases q with q | q <;> cases q)
  refine f52 T5 hc hn hf3 (by omega) (by omega) (by rw [List.length_append]; omega) R55 R65 R75 n1 b1 a1 n2 b2 a2 BK5 (fun h6 Y y1 F6 y2 T6 => ?_)
  have Fy : CF sm p lt (c + 1) h5 h6 := CF.fs T5.2.2 F6
  have K6 := K5.ek T5.2.2 Fy
  have ok : okD n f c ((t, th, op, gd, bd), N1, B1, A1) := ⟨ht, hth, hop, hgd, hbd, n1, b1, a1, n2, b2, a2⟩
  have eX : lbs (chd c ((t, th, op, gd, bd), N1, B1, A1) ++ Y) = lbs ([(2, 0, 1), (38, 99 * 32 + c, 1)] ++ cwh ((t, th, op, gd, bd), N1, B1, A1)) ++ (lbs (cop ((t, th, op, gd, bd), N1, B1, A1)) ++ (lbs (lks 5 N1 ++ (lks 6 B1 ++ lks 7 A1)) ++ lbs Y)) := by
    unfold chd clk cl_N cl_B cl_A
    simp only [lbs_app, List.append_assoc]
  have g5 := llk_len (t := 5) (by decide) N1 (fun o ho => by have := n2 o ho; omega)
  have g6 := llk_len (t := 6) (by decide) B1 (fun o ho => by have := b2 o ho; omega)
  have g7 := llk_len (t := 7) (by decide) A1 (fun o ho => by have := a2 o ho; omega)
  refine K h6 ((t, th, op, gd, bd), N1, B1, A1) _ ⟨ok, Y, y1, rfl⟩ ((((F1.tr F2).tr F3).tr F4).tr ((CF.ek T4.2.2 E5).tr (CF.fs T5.2.2 F6))) ?_ ⟨K6.2 2 (by decide : 2 < 5), K6.2 3 (by decide : 3 < 5), K6.2 4 (by decide : 4 < 5), R55.cf T5.2.2 Fy (by decide), R65.cf T5.2.2 Fy (by decide), R75.cf T5.2.2 Fy (by decide)⟩ ?_
  · rw [eX, List.length_append, List.length_append, List.length_append, lbs_app (lks 5 N1), lbs_app (lks 6 B1), List.length_append, List.length_append]
    rw [List.length_append] at hl4
    omega
  · rw [eX, sn_app, sn_chd (by omega) ok hf3 hn]
    simp only [List.append_assoc] at T6 ⊢
    exact T6
end CLS3
