/-- the links of a kind, in a clause's column -/
def LR (p c i : Nat) (l : List Nat) (h : PH) : Prop := p + 10 < p_rm h (p + i) c ∧ RW h (p_rm h (p + i) c) l
theorem LR.cf {sm p lt n f c i : Nat} {l : List Nat} {h h1 : PH} (R : LR p c i l h) (S : SS sm p lt n f h) (F : CF sm p lt (c + 1) h h1) (hi : i < 10) : LR p c i l h1 := by
  have e := (F.2.2 i hi c (by omega)).2
  refine ⟨by rw [e]; exact R.1, ?_⟩
  rw [e]
  exact R.2.cf F R.1 S.2.2.2.2.1 S.2.2.1
theorem LR.wr {p c i k v : Nat} {l : List Nat} {h : PH} (R : LR p c i l h) (hk : k ≤ 10) (hi : i ≠ k) : LR p c i l (p_wr h (p + k) c v) := by
  have e : p_rm (p_wr h (p + k) c v) (p + i) c = p_rm h (p + i) c := by rw [wr_rm, if_neg (by omega)]
  refine ⟨by rw [e]; exact R.1, ?_⟩
  rw [e]
  exact R.2.ext (W := fun a => a = p + k) (Ext.wr _ (fun _ => rfl)) (by have := R.1; omega)
theorem LR.put {p c i v : Nat} {l : List Nat} {h : PH} (R : RW h v l) (hv : p + 10 < v) (hi : i ≤ 10) : LR p c i l (p_wr h (p + i) c v) := by
  unfold LR
  rw [wr_rm, if_pos ⟨rfl, rfl⟩]
  exact ⟨hv, R.ext (W := fun a => a = p + i) (Ext.wr _ (fun _ => rfl)) (by omega)⟩
theorem BT.lim {L : Nat} {xs : Nat → Int32} {N U b : Nat} {l : List Int32} {h : PH} (B : BT L xs N U h b l) : p_nx h ≤ N + 10 * l.length ∧ p_us h ≤ U + 104 * l.length + 32 := by
  obtain ⟨-, g, v, -, g1, g2⟩ := B
  exact ⟨g, by omega⟩
theorem lbs_cl {c : Nat} (hc : c < 32) : lbs [(2, 0, 1), (38, 99 * 32 + c, 1)] = c_sb.getD 4 [] ++ ([Int32.ofNat 99, Int32.ofNat (97 + c)] ++ [Int32.ofNat 32]) := lbs_two (j := 4) hc (by decide)
theorem lbs_wh {q m : Nat} (hq : q < 32) : lbs [(3, 0, 1), (38, 102 * 32 + q, 1), (34, 0, 1), (39, m, 1)] = c_sb.getD 5 [] ++ ([Int32.ofNat 102, Int32.ofNat (97 + q)] ++ (c_sb.getD 6 [] ++ (dg m ++ [Int32.ofNat 32]))) := by
  show ([119, 104, 101, 110] ++ [32]) ++ ((lw (38, 102 * 32 + q, 1) ++ [32]) ++ (([62] ++ [32]) ++ ((dg m ++ [32]) ++ []))) = [119, 104, 101, 110, 32] ++ ([Int32.ofNat 102, Int32.ofNat (97 + q)] ++ ([32, 62, 32] ++ (dg m ++ [32])))
  rw [lw_name hq]
  simp only [List.append_assoc, List.append_nil, List.cons_append, List.nil_append]
theorem lbs_op {g m : Nat} : lbs [(4, 0, 1), (39, g, 1), (39, m, 1)] = c_sb.getD 7 [] ++ (dg g ++ ([Int32.ofNat 32] ++ (dg m ++ [Int32.ofNat 32]))) := by
  show ([111, 112, 116, 105, 111, 110, 97, 108] ++ [32]) ++ ((dg g ++ [32]) ++ ((dg m ++ [32]) ++ [])) = [111, 112, 116, 105, 111, 110, 97, 108, 32] ++ (dg g ++ ([32] ++ (dg m ++ [32])))
  simp only [List.append_assoc, List.append_nil, List.cons_append, List.nil_append]
section CLS2
variable {d n f c L N U b sm p lt : Nat} {xs : Nat → Int32} {l : List Int32} {s : List Nat} {h : PH} {Q : Option Value → PH → Prop}
theorem d52 {t th op gd bd : Nat} {N1 : List Nat} {x7 : Int32} (hL : L ≤ 260) (T : STt L xs N U b sm p lt n f l s h) (hc : c < n) (hn : n ≤ 7) (hf : 0 < f) (hf3 : f ≤ 3) (ht : t ≤ f) (hth : th < 20) (hN : N ≤ 280000) (hU : U ≤ 800000) (hl : l.length ≤ 15000) (KK : KN p c [tv t, Int32.ofNat th, Int32.ofNat op, Int32.ofNat gd, Int32.ofNat bd] h) (R5 : LR p c 5 N1 h)
    (K : ∀ h1 B1 A1, B1.length ≤ 1 → A1.length ≤ 2 → (∀ o ∈ B1, o < n ∧ o ≠ c) → (∀ o ∈ A1, o < n ∧ o ≠ c) → CF sm p lt c h h1 → STt L xs (N + 24) (U + 93) b sm p lt n f (l ++ lbs ([(2, 0, 1), (38, 99 * 32 + c, 1)] ++ cwh ((t, th, op, gd, bd), N1, B1, A1))) s h1 → KN p c [tv t, Int32.ofNat th, Int32.ofNat op, Int32.ofNat gd, Int32.ofNat bd] h1 →
      LR p c 5 N1 h1 → LR p c 6 B1 h1 → LR p c 7 A1 h1 → BK0 n f c h1 (p_rm h1 (p + 8) c) →
      wp (d + 9) 52 310 [.val (.ref 60), .unset, .val (.ref b), .val (.ref sm), .val (.int (Int32.ofNat n)), .val (.ref (p + 10)), .val (.int (Int32.ofNat c)), .unset] [] h1 Q) :
    wp (d + 9) 52 232 [.val (.ref 60), .unset, .val (.ref b), .val (.ref sm), .val (.int (Int32.ofNat n)), .val (.ref (p + 10)), .val (.int (Int32.ofNat c)), .val (.int x7)] [] h Q := by
  have S := T.2.2
  have s0 : ¬ sm = 0 := by have := S.2.1; omega
  have sp := S.2.2.1
  have s1 := S.2.1
  have sx := S.2.2.2.2.2.1
  have e1 : p_CN = 601086 := rfl
  have e2 : p_CS = 7301442 := rfl
  have hin : p_in (Int32.ofNat c) n := i_in hc (by omega)
  obtain ⟨-, -, -, -, -, -, r10, -⟩ := S.rs
  rw [r52_232, S.1, r10, i_nat (by omega)]
  refine ⟨⟨rfl, s0⟩, s14 (i := 9) T.1.1 hL (by decide) (fun z1 => ?_)⟩
  rw [show (1 : Int32) = Int32.ofNat 1 from rfl]
  obtain ⟨g1, g2⟩ := T.1.lim
  refine s47 (by omega) (by omega) hc (by omega) (by omega) (by omega) (by omega) (fun h2 B1 R2 b1 b2 E2 x2 u2 => ?_)
  have T2 := T.nw E2 (x := 1) (u := 1) (by omega) (by omega)
  rw [T2.2.2.kds.2.2.2.2.2.2.1, T2.2.2.lns.2.2.2.2.2.2.1, R2.1]
  have T3 := T2.wr (i := 6) (c := c) (by decide) (p_nx h)
  have F3 : CF sm p lt c h (p_wr h2 (p + 6) c (p_nx h)) := (CF.nw S E2).tr (CF.wr (i := 6) T2.2.2 _ (by decide))
  have K3 : KN p c [tv t, Int32.ofNat th, Int32.ofNat op, Int32.ofNat gd, Int32.ofNat bd] (p_wr h2 (p + 6) c (p_nx h)) := (KK.ek S (CF.nw S E2)).wr
  have R53 : LR p c 5 N1 (p_wr h2 (p + 6) c (p_nx h)) := (R5.cf S (CF.nw S E2) (by decide)).wr (by decide) (by decide)
  have R63 : LR p c 6 B1 (p_wr h2 (p + 6) c (p_nx h)) := LR.put R2 (by omega) (by decide)
  generalize p_wr h2 (p + 6) c (p_nx h) = h3 at *
  have S3 := T3.2.2
  obtain ⟨-, -, -, -, -, -, -, r11, -⟩ := S3.rs
  rw [S3.1, r11]
  refine ⟨⟨⟨⟨by decide, by omega⟩, rfl, by omega⟩, hin⟩, ⟨rfl, s0⟩, ?_⟩
  refine s14 (i := 10) T3.1.1 hL (by decide) (fun z3 => ?_)
  rw [show (2 : Int32) = Int32.ofNat 2 from rfl]
  obtain ⟨g3, g4⟩ := T3.1.lim
  have sx3 := S3.2.2.2.2.2.1
  refine s47 (by omega) (by omega) hc (by omega) (by omega) (by omega) (by omega) (fun h4 A1 R4 a1 a2 E4 x4 u4 => ?_)
  have T4 := T3.nw E4 (x := 1) (u := 2) (by omega) (by omega)
  rw [T4.2.2.kds.2.2.2.2.2.2.2.1, T4.2.2.lns.2.2.2.2.2.2.2.1, R4.1]
  have T5 := T4.wr (i := 7) (c := c) (by decide) (p_nx h3)
  have F5 : CF sm p lt c h (p_wr h4 (p + 7) c (p_nx h3)) := (F3.tr (CF.nw S3 E4)).tr (CF.wr (i := 7) T4.2.2 _ (by decide))
  have K5 : KN p c [tv t, Int32.ofNat th, Int32.ofNat op, Int32.ofNat gd, Int32.ofNat bd] (p_wr h4 (p + 7) c (p_nx h3)) := (K3.ek S3 (CF.nw S3 E4)).wr
  have R55 : LR p c 5 N1 (p_wr h4 (p + 7) c (p_nx h3)) := (R53.cf S3 (CF.nw S3 E4) (by decide)).wr (by decide) (by decide)
  have R65 : LR p c 6 B1 (p_wr h4 (p + 7) c (p_nx h3)) := (R63.cf S3 (CF.nw S3 E4) (by decide)).wr (by decide) (by decide)
  have R75 : LR p c 7 A1 (p_wr h4 (p + 7) c (p_nx h3)) := LR.put R4 (by omega) (by decide)
  generalize p_wr h4 (p + 7) c (p_nx h3) = h5 at *
  have S5 := T5.2.2
  obtain ⟨-, -, -, -, -, -, -, -, r12, -⟩ := S5.rs
  rw [S5.1, r12]
  refine ⟨⟨⟨⟨by decide, by omega⟩, rfl, by omega⟩, hin⟩, ⟨rfl, s0⟩, ?_⟩
  obtain ⟨g5, g6⟩ := T5.1.lim
  have sx5 := S5.2.2.2.2.2.1
  refine s49b (c := c) T5.1.1 hL S5.smq (by omega) (by omega) hf (by omega) (by omega) (Nat.mod_eq_of_lt hc) (by omega) (by omega) (fun h6 a E6 x6 u6 g7 BK => ?_)
  have T6 := T5.nw E6 (x := 22) (u := 90) (by omega) (by omega)
  rw [T6.2.2.kds.2.2.2.2.2.2.2.2.1, T6.2.2.lns.2.2.2.2.2.2.2.2.1, BK.1]
  have T7 := T6.wr (i := 8) (c := c) (by decide) a
  have F7 : CF sm p lt c h (p_wr h6 (p + 8) c a) := (F5.tr (CF.nw S5 E6)).tr (CF.wr (i := 8) T6.2.2 _ (by decide))
  have K7 : KN p c [tv t, Int32.ofNat th, Int32.ofNat op, Int32.ofNat gd, Int32.ofNat bd] (p_wr h6 (p + 8) c a) := (K5.ek S5 (CF.nw S5 E6)).wr
  have R57 : LR p c 5 N1 (p_wr h6 (p + 8) c a) := (R55.cf S5 (CF.nw S5 E6) (by decide)).wr (by decide) (by decide)
  have R67 : LR p c 6 B1 (p_wr h6 (p + 8) c a) := (R65.cf S5 (CF.nw S5 E6) (by decide)).wr (by decide) (by decide)
  have R77 : LR p c 7 A1 (p_wr h6 (p + 8) c a) := (R75.cf S5 (CF.nw S5 E6) (by decide)).wr (by decide) (by decide)
  have k68 := T6.2.2.kds.2.2.2.2.2.2.2.2.1
  have B7 : BK0 n f c (p_wr h6 (p + 8) c a) (p_rm (p_wr h6 (p + 8) c a) (p + 8) c) := by
    rw [wr_rm, if_pos ⟨rfl, rfl⟩]
    exact BK.ext (W := fun x => x = p + 8) (Ext.wr _ (fun _ => rfl)) (fun x hx q => by rw [q, k68] at hx; rcases hx with hx | hx <;> cases hx)
  have z5 : ¬ a = 0 := by have := BK.2.1; omega
  generalize p_wr h6 (p + 8) c a = h7 at *
  refine ⟨⟨⟨⟨by decide, by omega⟩, rfl, z5⟩, hin⟩, T7.1.kd, ?_⟩
  have hN1 : N + 1 + 1 + 22 ≤ 300000 := by omega
  have hU1 : U + 1 + 2 + 90 ≤ 1000000 := by omega
  have l4 : (c_sb.getD 4 []).length = 7 := by decide
  refine bt_s (j := 4) T7.1 (by decide) (by decide) (by decide) (by omega) hN1 hU1 (fun h8 B8 E8 => ?_)
  rw [show (99 : Int32) = Int32.ofNat 99 from rfl]
  refine bt_n B8 (by decide) (by omega) (by rw [List.length_append]; omega) hN1 hU1 (fun h9 B9 E9 => ⟨B9.kd, ?_⟩)
  rw [show (32 : Int32) = Int32.ofNat 32 from rfl]
  refine bt_c B9 (by decide) (by simp only [List.length_append, List.length_cons, List.length_nil]; omega) hN1 hU1 (fun h10 B10 E10 => ?_)
  have E79 := (E8.tr E9).tr E10
  have e10 : l ++ c_sb.getD 4 [] ++ [Int32.ofNat 99, Int32.ofNat (97 + c)] ++ [Int32.ofNat 32] = l ++ lbs [(2, 0, 1), (38, 99 * 32 + c, 1)] := by rw [lbs_cl (by omega)]; simp only [List.append_assoc]
  rw [e10] at B10
  have T10 := T7.ek B10 E79
  have G : ∀ h1, EK k2 h7 h1 → CF sm p lt c h h1 ∧ KN p c [tv t, Int32.ofNat th, Int32.ofNat op, Int32.ofNat gd, Int32.ofNat bd] h1 ∧ LR p c 5 N1 h1 ∧ LR p c 6 B1 h1 ∧ LR p c 7 A1 h1 ∧ BK0 n f c h1 (p_rm h1 (p + 8) c) := fun h1 E => by
    have Fx : CF sm p lt (c + 1) h7 h1 := CF.ek T7.2.2 E
    refine ⟨F7.tr (CF.ek T7.2.2 E), K7.ek T7.2.2 Fx, R57.cf T7.2.2 Fx (by decide), R67.cf T7.2.2 Fx (by decide), R77.cf T7.2.2 Fx (by decide), ?_⟩
    rw [(Fx.2.2 8 (by decide) c (by omega)).2]
    exact B7.ext E (fun x hx q => by rcases hx with hx | hx <;> rw [hx] at q <;> rcases q with q | q <;> cases q)
  have S10 := T10.2.2
  obtain ⟨q4, q5, -⟩ := S10.rs
  rw [S10.1, q4, S10.kds.1, S10.lns.1]
  have v0 : p_im h10 p c = tv t := (G h10 E79).2.1.2 0 (by decide : 0 < 5)
  rw [v0]
  have p0 : ¬ p = 0 := by omega
  refine ⟨⟨rfl, s0⟩, ⟨⟨by decide, p0⟩, hin⟩, ?_⟩
  by_cases hz : t = 0
  · rw [hz, if_pos (by decide)]
    obtain ⟨f1, f2, f3, f4, f5, f6⟩ := G h10 E79
    refine K h10 B1 A1 b1 a1 b2 a2 f1 ?_ f2 f3 f4 f5 f6
    have : cwh ((t, th, op, gd, bd), N1, B1, A1) = [] := by
      unfold cwh cl_t
      rw [hz]
      rfl
    rw [this, List.append_nil]
    exact T10
  · have ev : tv t = Int32.ofNat (t - 1) := by unfold tv; rw [beq_no hz]; rfl
    rw [ev, if_neg (i_neg (by omega))]
    have l5 : (c_sb.getD 5 []).length = 5 := by decide
    have l6 : (c_sb.getD 6 []).length = 3 := by decide
    have hdt := dg_len th
    have lcl : (lbs [(2, 0, 1), (38, 99 * 32 + c, 1)]).length = 10 := by rw [lbs_cl (by omega)]; rw [List.length_append, List.length_append, l4]; rfl
    refine ⟨B10.kd, bt_s (j := 5) B10 (by decide) (by decide) (by decide) (by rw [List.length_append]; omega) hN1 hU1 (fun h11 B11 E11 => ?_)⟩
    have T11 := T10.ek B11 E11
    obtain ⟨q4, -⟩ := T11.2.2.rs
    have v1 : p_im h11 p c = Int32.ofNat (t - 1) := by rw [← ev]; exact (G h11 (E79.tr E11)).2.1.2 0 (by decide : 0 < 5)
    rw [T11.2.2.1, q4, T11.2.2.kds.1, T11.2.2.lns.1, v1, show (102 : Int32) = Int32.ofNat 102 from rfl]
    refine ⟨⟨rfl, s0⟩, ⟨⟨by decide, p0⟩, hin⟩, bt_n B11 (by decide) (by omega) (by rw [List.length_append, List.length_append]; omega) hN1 hU1 (fun h12 B12 E12 => ⟨B12.kd, ?_⟩)⟩
    refine bt_s (j := 6) B12 (by decide) (by decide) (by decide) (by simp only [List.length_append, List.length_cons, List.length_nil] at lcl ⊢; omega) hN1 hU1 (fun h13 B13 E13 => ?_)
    have T13 := (T11.ek B12 E12).ek B13 E13
    obtain ⟨-, q5, -⟩ := T13.2.2.rs
    have v2 : p_im h13 (p + 1) c = Int32.ofNat th := (G h13 (((E79.tr E11).tr E12).tr E13)).2.1.2 1 (by decide : 1 < 5)
    rw [T13.2.2.1, q5, T13.2.2.kds.2.1, T13.2.2.lns.2.1, v2]
    refine ⟨⟨rfl, s0⟩, ⟨⟨by decide, by omega⟩, hin⟩, B13.kd, bt_d B13 (by omega) (by simp only [List.length_append, List.length_cons, List.length_nil] at lcl ⊢; omega) hN1 hU1 (fun h14 B14 E14 => ⟨B14.kd, ?_⟩)⟩
    refine bt_c B14 (by decide) (by simp only [List.length_append, List.length_cons, List.length_nil] at lcl ⊢; omega) hN1 hU1 (fun h15 B15 E15 => ?_)
    obtain ⟨f1, f2, f3, f4, f5, f6⟩ := G h15 (((((E79.tr E11).tr E12).tr E13).tr E14).tr E15)
    refine K h15 B1 A1 b1 a1 b2 a2 f1 ?_ f2 f3 f4 f5 f6
    have T15 := (T13.ek B14 E14).ek B15 E15
    have : cwh ((t, th, op, gd, bd), N1, B1, A1) = [(3, 0, 1), (38, 102 * 32 + (t - 1), 1), (34, 0, 1), (39, th, 1)] := by
      unfold cwh cl_t
      show (bif Nat.beq t 0 then _ else _) = _
      rw [beq_no hz]
      rfl
    rw [this, lbs_app, lbs_wh (by omega)]
    simp only [List.append_assoc] at T15 ⊢
    exact T15
end CLS2
