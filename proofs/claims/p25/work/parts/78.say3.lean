/-! Items and blocks are said. -/
theorem sn_name {s : List Nat} {c k b : Nat} (hk : k < 32) : snx s (38, c * 32 + k, b) = bif Nat.beq c 116 then ins s k else s := by
  show (bif Nat.beq 38 38 && Nat.beq ((c * 32 + k) / 32) 116 then ins s ((c * 32 + k) % 32) else s) = _
  rw [show (c * 32 + k) / 32 = c from by omega, show (c * 32 + k) % 32 = k from by omega]
  rfl
theorem lw_name {c k b : Nat} (hk : k < 32) : lw (38, c * 32 + k, b) = [Int32.ofNat c, Int32.ofNat (97 + k)] := by
  show [Int32.ofNat ((c * 32 + k) / 32), Int32.ofNat (97 + (c * 32 + k) % 32)] = _
  rw [show (c * 32 + k) / 32 = c from by omega, show (c * 32 + k) % 32 = k from by omega]
theorem lbs_str (m : Nat) : lbs [(40, m, 1)] = c_sb.getD 14 [] ++ (dg m ++ c_sb.getD 15 []) := by
  show (([39, 84, 101, 120, 116, 32] ++ (dg m ++ [59, 32, 39])) ++ [32]) ++ [] = [39, 84, 101, 120, 116, 32] ++ (dg m ++ [59, 32, 39, 32])
  simp only [List.append_assoc, List.append_nil, List.cons_append, List.nil_append]
theorem lbs_two {t c k j : Nat} (hk : k < 32) (hw : lw (t, 0, 1) ++ [32] = c_sb.getD j []) : lbs [(t, 0, 1), (38, c * 32 + k, 1)] = c_sb.getD j [] ++ ([Int32.ofNat c, Int32.ofNat (97 + k)] ++ [Int32.ofNat 32]) := by
  show (lw (t, 0, 1) ++ [32]) ++ ((lw (38, c * 32 + k, 1) ++ [32]) ++ []) = _
  rw [hw, lw_name hk, List.append_nil]
  rfl
theorem lbs_show {q m : Nat} (hq : q < 32) : lbs [(11, 0, 1), (38, 102 * 32 + q, 0), (31, 0, 0), (39, 2, 0), (30, 0, 0), (39, m, 0), (27, 0, 1)] = c_sb.getD 17 [] ++ ([Int32.ofNat 102, Int32.ofNat (97 + q)] ++ (c_sb.getD 18 [] ++ (dg m ++ c_sb.getD 3 []))) := by
  show ([115, 104, 111, 119] ++ [32]) ++ ((lw (38, 102 * 32 + q, 0) ++ []) ++ (([42] ++ []) ++ ((dg 2 ++ []) ++ (([45] ++ []) ++ ((dg m ++ []) ++ (([59] ++ [32]) ++ [])))))) = [115, 104, 111, 119, 32] ++ ([Int32.ofNat 102, Int32.ofNat (97 + q)] ++ ([42, 50, 45] ++ (dg m ++ [59, 32])))
  rw [lw_name hq, show dg 2 = [50] from rfl]
  simp only [List.append_assoc, List.append_nil, List.cons_append, List.nil_append]
theorem i51 {d n f c L N U b sm nm lt a4 k ln : Nat} {xs : Nat → Int32} {l : List Int32} {s : List Nat} {h : PH} {Q : Option Value → PH → Prop} (B : BT L xs N U h b l) (M : NM sm nm lt s h) (h4 : p_kd h a4 = 313 ∧ ¬ a4 = 0 ∧ p_ln h a4 = ln) (hk : k < ln) (hln : ln ≤ 3)
    (I : IT1 n f c h (p_rm h a4 k)) (hlo : ¬ (4 : Int32) < p_im h (p_rm h a4 k) 0) (hn : n ≤ 20) (hf : f ≤ 20) (hl : l.length ≤ 19000) (hN : N ≤ 300000) (hU : U ≤ 1000000)
    (K : ∀ h1 Y, isI1 n f c Y → BT L xs N U h1 b (l ++ lbs Y) → NM sm nm lt (sn s Y) h1 → FS sm nm lt h h1 → (lbs Y).length ≤ 20 → wp (d + 7) 51 183 [.val (.ref b), .val (.ref sm), .unset, .val (.ref nm), .val (.ref a4), .val (.int (Int32.ofNat ln)), .val (.int (Int32.ofNat k)), .unset, .unset] [] h1 Q) :
    wp (d + 7) 51 11 [.val (.ref b), .val (.ref sm), .unset, .val (.ref nm), .val (.ref a4), .val (.int (Int32.ofNat ln)), .val (.int (Int32.ofNat k)), .unset, .unset] [] h Q := by
  rw [r51_11, if_pos (by rw [i_lt (by omega) (by omega)]; exact hk), h4.1, h4.2.2, i_nat (by omega)]
  generalize p_rm h a4 k = a at *
  obtain ⟨i1, i2, i3, t, m, q, e0, e1, e2, ht, hm, hq, hr, hd⟩ := id I
  have a0 : ¬ a = 0 := by omega
  have ht4 : t ≤ 4 := by
    rw [e0, show (4 : Int32) = Int32.ofNat 4 from rfl, i_lt (by omega) (by omega)] at hlo
    omega
  have ha : ∀ h1, EK k2 h h1 → p_kd h1 a = 15 ∧ (∀ j, p_im h1 a j = p_im h a j) := fun h1 E => by
    have n1 : ¬ k2 (p_kd h a) := fun q => by rw [i1] at q; rcases q with q | q <;> cases q
    exact ⟨by rw [Ext.kd E i3, i1], fun j => Ext.im E i3 n1 j⟩
  have m3 := M.kds.2.2
  have hdm := dg_len m
  rw [i1, e0]
  refine ⟨⟨⟨by decide, h4.2.1⟩, i_in hk (by omega)⟩, ⟨rfl, a0⟩, ?_⟩
  have du : ∀ (h1 : PH) (t : Nat), t = 2 ∨ t = 3 → m < 6 → BT L xs N U h1 b l → NM sm nm lt (ins s m) h1 → FS sm nm lt h h1 → wp (d + 7) 51 63 [.val (.ref b), .val (.ref sm), .unset, .val (.ref nm), .val (.ref a4), .val (.int (Int32.ofNat ln)), .val (.int (Int32.ofNat k)), .unset, .val (.int (Int32.ofNat m))] [.ref (110 + t), .ref b] h1 Q := by
    intro h1 t ht hm6 B1 M1 F1
    rw [r51_63]
    have hj : 0 < (c_sb.getD (10 + t) []).length ∧ (c_sb.getD (10 + t) []).length = 4 ∧ lw (t + 7, 0, 1) ++ [32] = c_sb.getD (10 + t) [] := by rcases ht with rfl | rfl <;> decide
    refine ⟨B1.kd, ?_⟩
    rw [show 110 + t = 100 + (10 + t) from by omega]
    refine bt_s B1 (by omega) hj.1 (by omega) (by omega) hN hU (fun h2 B2 E2 => ?_)
    rw [show (116 : Int32) = Int32.ofNat 116 from rfl]
    refine bt_n B2 (by decide) (by omega) (by rw [List.length_append]; omega) hN hU (fun h3 B3 E3 => ⟨B3.kd, ?_⟩)
    rw [show (32 : Int32) = Int32.ofNat 32 from rfl]
    refine bt_c B3 (by decide) (by simp only [List.length_append, List.length_cons, List.length_nil]; omega) hN hU (fun h4 B4 E4 => ?_)
    have E : EK k2 h1 h4 := (E2.tr E3).tr E4
    refine K h4 [(t + 7, 0, 1), (38, 116 * 32 + m, 1)] (Or.inr (Or.inr (Or.inl ⟨t + 7, m, by omega, hm6, rfl⟩))) ?_ ?_ (F1.tr (FS.ek E M1.kds.2.2)) ?_
    · rw [lbs_two (by omega) hj.2.2]
      simp only [List.append_assoc] at B4 ⊢
      exact B4
    · have : sn s [(t + 7, 0, 1), (38, 116 * 32 + m, 1)] = ins s m := by
        show snx (snx s (t + 7, 0, 1)) (38, 116 * 32 + m, 1) = _
        rw [sn_name (by omega)]
        rcases ht with rfl | rfl <;> rfl
      rw [this]
      exact M1.ek E
    · rw [lbs_two (by omega) hj.2.2]
      simp only [List.length_append, List.length_cons, List.length_nil]
      omega
  have t5 : t = 0 ∨ t = 1 ∨ t = 2 ∨ t = 3 ∨ t = 4 := by omega
  rcases t5 with rfl | rfl | rfl | rfl | rfl
  · rw [if_neg (by decide), if_neg (by decide), if_pos (by decide)]
    refine ⟨⟨rfl, a0⟩, ⟨rfl, a0⟩, B.kd, bt_s (j := 14) B (by decide) (by decide) (by decide) (by omega) hN hU (fun h1 B1 E1 => ?_)⟩
    rw [(ha h1 E1).1, (ha h1 E1).2, e1]
    refine ⟨⟨rfl, a0⟩, B1.kd, bt_d B1 (by omega) (by rw [List.length_append, show (c_sb.getD 14 []).length = 6 from by decide]; omega) hN hU (fun h2 B2 E2 => ⟨B2.kd, ?_⟩)⟩
    refine bt_s (j := 15) B2 (by decide) (by decide) (by decide) (by rw [List.length_append, List.length_append, show (c_sb.getD 14 []).length = 6 from by decide]; omega) hN hU (fun h3 B3 E3 => ?_)
    have E : EK k2 h h3 := (E1.tr E2).tr E3
    refine K h3 [(40, m, 1)] (Or.inl ⟨m, hm, rfl⟩) ?_ (M.ek E) (FS.ek E m3) ?_
    · rw [lbs_str]
      simp only [List.append_assoc] at B3 ⊢
      exact B3
    · rw [lbs_str, List.length_append, List.length_append, show (c_sb.getD 14 []).length = 6 from by decide, show (c_sb.getD 15 []).length = 4 from by decide]
      omega
  · obtain ⟨r1, r2⟩ := hr rfl
    rw [if_neg (by decide), if_neg (by decide), if_neg (by decide), if_pos (by decide)]
    refine ⟨⟨rfl, a0⟩, ⟨rfl, a0⟩, ⟨rfl, a0⟩, B.kd, bt_s (j := 16) B (by decide) (by decide) (by decide) (by omega) hN hU (fun h1 B1 E1 => ?_)⟩
    rw [(ha h1 E1).1, (ha h1 E1).2, e1, show (99 : Int32) = Int32.ofNat 99 from rfl]
    have l16 : (c_sb.getD 16 []).length = 4 := by decide
    refine ⟨⟨rfl, a0⟩, bt_n B1 (by decide) (by omega) (by rw [List.length_append]; omega) hN hU (fun h2 B2 E2 => ⟨B2.kd, ?_⟩)⟩
    rw [show (32 : Int32) = Int32.ofNat 32 from rfl]
    refine bt_c B2 (by decide) (by simp only [List.length_append, List.length_cons, List.length_nil]; omega) hN hU (fun h3 B3 E3 => ?_)
    have E : EK k2 h h3 := (E1.tr E2).tr E3
    refine K h3 [(8, 0, 1), (38, 99 * 32 + m, 1)] (Or.inr (Or.inl ⟨m, r1, r2, rfl⟩)) ?_ ?_ (FS.ek E m3) ?_
    · rw [lbs_two (j := 16) (by omega) (by decide)]
      simp only [List.append_assoc] at B3 ⊢
      exact B3
    · have : sn s [(8, 0, 1), (38, 99 * 32 + m, 1)] = s := by
        show snx (snx s (8, 0, 1)) (38, 99 * 32 + m, 1) = _
        rw [sn_name (by omega)]
        rfl
      rw [this]
      exact M.ek E
    · rw [lbs_two (j := 16) (by omega) (by decide)]
      simp only [List.length_append, List.length_cons, List.length_nil]
      omega
  · rw [if_pos (by decide)]
    exact n51 B M I e0 (Or.inl rfl) e1 (hd (Or.inl rfl)) (fun h1 B1 M1 F1 => du h1 2 (Or.inl rfl) (hd (Or.inl rfl)) B1 M1 F1)
  · rw [if_neg (by decide), if_pos (by decide)]
    exact ⟨⟨rfl, a0⟩, n51 B M I e0 (Or.inr rfl) e1 (hd (Or.inr rfl)) (fun h1 B1 M1 F1 => du h1 3 (Or.inr rfl) (hd (Or.inr rfl)) B1 M1 F1)⟩
  · rw [if_neg (by decide), if_neg (by decide), if_neg (by decide), if_neg (by decide), if_pos (by decide)]
    have l17 : (c_sb.getD 17 []).length = 5 := by decide
    have l18 : (c_sb.getD 18 []).length = 3 := by decide
    have l3 : (c_sb.getD 3 []).length = 2 := by decide
    refine ⟨⟨rfl, a0⟩, ⟨rfl, a0⟩, ⟨rfl, a0⟩, ⟨rfl, a0⟩, B.kd, bt_s (j := 17) B (by decide) (by decide) (by decide) (by omega) hN hU (fun h1 B1 E1 => ?_)⟩
    rw [(ha h1 E1).1, (ha h1 E1).2, e2, show (102 : Int32) = Int32.ofNat 102 from rfl]
    refine ⟨⟨rfl, a0⟩, bt_n B1 (by decide) (by omega) (by rw [List.length_append]; omega) hN hU (fun h2 B2 E2 => ⟨B2.kd, ?_⟩)⟩
    refine bt_s (j := 18) B2 (by decide) (by decide) (by decide) (by simp only [List.length_append, List.length_cons, List.length_nil]; omega) hN hU (fun h3 B3 E3 => ?_)
    have E13 : EK k2 h h3 := (E1.tr E2).tr E3
    rw [(ha h3 E13).1, (ha h3 E13).2, e1]
    refine ⟨⟨rfl, a0⟩, B3.kd, bt_d B3 (by omega) (by simp only [List.length_append, List.length_cons, List.length_nil]; omega) hN hU (fun h4 B4 E4 => ⟨B4.kd, ?_⟩)⟩
    refine bt_s (j := 3) B4 (by decide) (by decide) (by decide) (by simp only [List.length_append, List.length_cons, List.length_nil]; omega) hN hU (fun h5 B5 E5 => ?_)
    have E : EK k2 h h5 := (E13.tr E4).tr E5
    refine K h5 _ (Or.inr (Or.inr (Or.inr ⟨q, m, hq, hm, rfl⟩))) ?_ ?_ (FS.ek E m3) ?_
    · rw [lbs_show (by omega)]
      simp only [List.append_assoc] at B5 ⊢
      exact B5
    · have : sn s [(11, 0, 1), (38, 102 * 32 + q, 0), (31, 0, 0), (39, 2, 0), (30, 0, 0), (39, m, 0), (27, 0, 1)] = s := by
        show snx (snx (snx (snx (snx (snx (snx s (11, 0, 1)) (38, 102 * 32 + q, 0)) (31, 0, 0)) (39, 2, 0)) (30, 0, 0)) (39, m, 0)) (27, 0, 1) = _
        rw [sn_name (by omega)]
        rfl
      rw [this]
      exact M.ek E
    · rw [lbs_show (by omega)]
      simp only [List.length_append, List.length_cons, List.length_nil]
      omega
theorem lb_close : lbs [(22, 0, 1)] = c_sb.getD 23 [] := by decide
theorem lb_open : lbs [(21, 0, 1)] = c_sb.getD 11 [] := by decide
theorem sn_one {s : List Nat} {t m b : Nat} (ht : t ≠ 38) : snx s (t, m, b) = s := by
  show (bif Nat.beq t 38 && _ then _ else s) = s
  rw [beq_no ht]
  rfl
theorem sn_cl {s : List Nat} (Z : List Lx) : sn s (Z ++ [(22, 0, 1)]) = sn s Z := by
  rw [sn_app]
  rfl
/-- the loop over items of a block within an item -/
theorem l51a {d n f c L N U b sm nm lt a4 ln : Nat} {xs : Nat → Int32} {Q : Option Value → PH → Prop} (hln : ln ≤ 3) (hn : n ≤ 20) (hf : f ≤ 20) (hN : N ≤ 300000) (hU : U ≤ 1000000) : ∀ (r k : Nat) (l : List Int32) (s : List Nat) (h : PH), k + r = ln → BT L xs N U h b l → NM sm nm lt s h → p_kd h a4 = 313 → ¬ a4 = 0 → a4 < p_nx h → p_ln h a4 = ln →
    (∀ j, j < ln → IL1 n f c h (p_rm h a4 j)) → l.length + 20 * r ≤ 19000 →
    (∀ h1 Z, cat (isI1 n f c) r Z → BT L xs N U h1 b (l ++ lbs (Z ++ [(22, 0, 1)])) → NM sm nm lt (sn s Z) h1 → FS sm nm lt h h1 → (lbs Z).length ≤ 20 * r → Q none h1) →
    wp (d + 7) 51 11 [.val (.ref b), .val (.ref sm), .unset, .val (.ref nm), .val (.ref a4), .val (.int (Int32.ofNat ln)), .val (.int (Int32.ofNat k)), .unset, .unset] [] h Q := by
  intro r
  induction r with
  | zero =>
    intro k l s h e B M h1 h2 h3 h4 hi hl K
    rw [r51_11, if_neg (by rw [i_lt (by omega) (by omega)]; omega)]
    refine ⟨B.kd, bt_s (j := 23) B (by decide) (by decide) (by decide) (by omega) hN hU (fun h5 B5 E5 => ?_)⟩
    refine K h5 [] rfl ?_ (M.ek E5) (FS.ek E5 M.kds.2.2) (by decide)
    rw [List.nil_append, lb_close]
    exact B5
  | succ r ih =>
    intro k l s h e B M h1 h2 h3 h4 hi hl K
    have I := hi k (by omega)
    refine i51 B M ⟨h1, h2, h4⟩ (by omega) hln I.1 I.2 hn hf (by omega) hN hU (fun h5 Y y1 B5 M5 F5 y2 => ?_)
    rw [r51_183, i_ofNat1, i_add]
    have kds := M.kds
    have nW : ¬ (k2 (p_kd h a4) ∨ p_kd h a4 = 15 ∨ a4 = nm ∨ a4 = lt ∨ a4 = sm) := fun q => by
      rcases q with q | q | q | q | q
      · rw [h1] at q; rcases q with q | q <;> cases q
      · rw [h1] at q; cases q
      · rw [q, kds.1] at h1; cases h1
      · rw [q, kds.2.1] at h1; cases h1
      · rw [q, kds.2.2] at h1; cases h1
    refine ih (k + 1) _ _ h5 (by omega) B5 M5 (by rw [F5.1.kd h3, h1]) h2 (F5.1.lt h3) (by rw [F5.1.ln h3, h4]) (fun j hj => ?_) (by rw [List.length_append]; omega) (fun h6 Z z1 B6 M6 F6 z2 => ?_)
    · rw [F5.1.rm h3 nW]
      exact (hi j hj).fs F5
    · refine K h6 (Y ++ Z) (Or.inr ⟨Y, Z, rfl, y1, z1⟩) ?_ (by rw [sn_app]; exact M6) (F5.tr F6) (by rw [lbs_app, List.length_append]; omega)
      rw [List.append_assoc] at B6
      rw [List.append_assoc, lbs_app]
      exact B6
/-- a block within an item is said -/
theorem s51a {d n f c L N U b sm nm lt a4 : Nat} {xs : Nat → Int32} {l : List Int32} {s : List Nat} {h : PH} {Q : PH → Prop} (hn : n ≤ 20) (hf : f ≤ 20) (hN : N ≤ 300000) (hU : U ≤ 1000000) (B : BT L xs N U h b l) (M : NM sm nm lt s h) (I : BK1 n f c h a4) (hl : l.length ≤ 18000)
    (K : ∀ h1 Y, isB1 n f c Y → BT L xs N U h1 b (l ++ lbs Y) → NM sm nm lt (sn s Y) h1 → FS sm nm lt h h1 → (lbs Y).length ≤ 50 → Q h1) : CV (d + 8) 51 [.ref b, .ref sm, .ref a4, .ref nm] h Q := by
  obtain ⟨i1, i2, i3, i4, i5⟩ := id I
  have z4 : ¬ a4 = 0 := by omega
  rw [e51]
  have l11 : (c_sb.getD 11 []).length = 2 := by decide
  refine ⟨B.kd, bt_s (j := 11) B (by decide) (by decide) (by decide) (by omega) hN hU (fun h1 B1 E1 => ?_)⟩
  have F1 : FS sm nm lt h h1 := FS.ek E1 M.kds.2.2
  have I1 := I.fs F1 M.kds
  rw [I1.1, Ext.ln E1 i3]
  refine ⟨⟨by decide, z4⟩, ?_⟩
  have h4 : p_ln h1 a4 = p_ln h a4 := Ext.ln E1 i3
  refine l51a (d := d) (c := c) (Q := fun v h1 => onV v (Q h1)) (by omega) hn hf hN hU (p_ln h a4) 0 _ s h1 (by omega) B1 (M.ek E1) I1.1 z4 I1.2.2.1 h4 (fun j hj => I1.2.2.2.2 j (by omega)) (by rw [List.length_append]; omega) (fun h2 Z z1 B2 M2 F2 z2 => ?_)
  have z3 : cat (isI1 n f c) 2 Z := cat_mono i4 z1
  refine K h2 ((21, 0, 1) :: (Z ++ [(22, 0, 1)])) ⟨Z, z3, rfl⟩ ?_ ?_ (F1.tr F2) ?_
  · rw [List.append_assoc] at B2
    exact B2
  · have : sn s ((21, 0, 1) :: (Z ++ [(22, 0, 1)])) = sn s (Z ++ [(22, 0, 1)]) := rfl
    rw [this, sn_cl]
    exact M2
  · have : lbs ((21, 0, 1) :: (Z ++ [(22, 0, 1)])) = lbs [(21, 0, 1)] ++ lbs (Z ++ [(22, 0, 1)]) := rfl
    rw [this, lbs_app, lb_open, lb_close, List.length_append, List.length_append, l11, show (c_sb.getD 23 []).length = 2 from by decide]
    omega
theorem lbs_if {q m : Nat} {B1 B2 : List Lx} (hq : q < 32) : lbs ([(12, 0, 1), (38, 102 * 32 + q, 0), (34, 0, 0), (39, m, 1)] ++ (B1 ++ ((13, 0, 1) :: B2))) = c_sb.getD 19 [] ++ ([Int32.ofNat 102, Int32.ofNat (97 + q)] ++ ([Int32.ofNat 62] ++ (dg m ++ ([Int32.ofNat 32] ++ (lbs B1 ++ (c_sb.getD 20 [] ++ lbs B2)))))) := by
  rw [lbs_app, lbs_app]
  show (([105, 102] ++ [32]) ++ ((lw (38, 102 * 32 + q, 0) ++ []) ++ (([62] ++ []) ++ ((dg m ++ [32]) ++ [])))) ++ (lbs B1 ++ (([101, 108, 115, 101] ++ [32]) ++ lbs B2)) = [105, 102, 32] ++ ([Int32.ofNat 102, Int32.ofNat (97 + q)] ++ ([62] ++ (dg m ++ ([32] ++ (lbs B1 ++ ([101, 108, 115, 101, 32] ++ lbs B2))))))
  rw [lw_name hq]
  simp only [List.append_assoc, List.append_nil, List.cons_append, List.nil_append]
theorem lbs_points {B1 B2 : List Lx} : lbs ([(14, 0, 1), (21, 0, 1), (15, 0, 1)] ++ (B1 ++ ((15, 0, 1) :: (B2 ++ [(22, 0, 1)])))) = c_sb.getD 21 [] ++ (lbs B1 ++ (c_sb.getD 22 [] ++ (lbs B2 ++ c_sb.getD 23 []))) := by
  rw [lbs_app, lbs_app]
  show _ ++ (lbs B1 ++ (lb (15, 0, 1) ++ lbs (B2 ++ [(22, 0, 1)]))) = _
  rw [lbs_app, lb_close, show lbs [(14, 0, 1), (21, 0, 1), (15, 0, 1)] = c_sb.getD 21 [] from by decide, show lb (15, 0, 1) = c_sb.getD 22 [] from by decide]
theorem ti4 {t : Nat} (ht : t < 7) : (4 : Int32) < Int32.ofNat t ↔ 4 < t := by
  rw [show (4 : Int32) = Int32.ofNat 4 from rfl, i_lt (by omega) (by omega)]
/-- an item of a clause is said -/
theorem i51b {d n f c L N U b sm nm lt a4 k ln B0 : Nat} {xs : Nat → Int32} {l : List Int32} {s : List Nat} {h : PH} {Q : Option Value → PH → Prop} (B : BT L xs N U h b l) (M : NM sm nm lt s h) (h4 : p_kd h a4 = 313 ∧ ¬ a4 = 0 ∧ p_ln h a4 = ln) (hk : k < ln) (hln : ln ≤ 3)
    (I : IT0 n f c B0 h (p_rm h a4 k)) (hn : n ≤ 20) (hf : f ≤ 20) (hl : l.length ≤ 17000) (hN : N ≤ 300000) (hU : U ≤ 1000000)
    (K : ∀ h1 Y, isI0 n f c Y → BT L xs N U h1 b (l ++ lbs Y) → NM sm nm lt (sn s Y) h1 → FS sm nm lt h h1 → (lbs Y).length ≤ 150 → wp (d + 8) 51 183 [.val (.ref b), .val (.ref sm), .unset, .val (.ref nm), .val (.ref a4), .val (.int (Int32.ofNat ln)), .val (.int (Int32.ofNat k)), .unset, .unset] [] h1 Q) :
    wp (d + 8) 51 11 [.val (.ref b), .val (.ref sm), .unset, .val (.ref nm), .val (.ref a4), .val (.int (Int32.ofNat ln)), .val (.int (Int32.ofNat k)), .unset, .unset] [] h Q := by
  by_cases hlo : (4 : Int32) < p_im h (p_rm h a4 k) 0
  · rw [r51_11, if_pos (by rw [i_lt (by omega) (by omega)]; exact hk), h4.1, h4.2.2, i_nat (by omega)]
    generalize p_rm h a4 k = a at *
    obtain ⟨i1, i2, i3, t, m, q, e0, e1, e2, ht, hm, hq, hr, hd⟩ := id I.1
    have a0 : ¬ a = 0 := by omega
    rw [e0, ti4 ht] at hlo
    have hdm := dg_len m
    have m3 := M.kds.2.2
    have ha : ∀ h1, EK k2 h h1 → p_kd h1 a = 15 ∧ (∀ j, p_im h1 a j = p_im h a j) := fun h1 E => by
      have n1 : ¬ k2 (p_kd h a) := fun q => by rw [i1] at q; rcases q with q | q <;> cases q
      exact ⟨by rw [Ext.kd E i3, i1], fun j => Ext.im E i3 n1 j⟩
    have hb : ∀ h1, FS sm nm lt h h1 → BK1 n f c h1 (p_rm h1 a 3) ∧ BK1 n f c h1 (p_rm h1 a 4) ∧ p_kd h1 a = 15 := fun h1 F => by
      have I2 := I.fs F M.kds
      have := I2.2 (by rw [(F.2.2 a i3 i1).2.1, e0, ti4 ht]; exact hlo)
      exact ⟨this.1.2, this.2.2, I2.1.1⟩
    rw [i1, e0]
    refine ⟨⟨⟨by decide, h4.2.1⟩, i_in hk (by omega)⟩, ⟨rfl, a0⟩, ?_⟩
    have t56 : t = 5 ∨ t = 6 := by omega
    rcases t56 with rfl | rfl
    · rw [if_neg (by decide), if_neg (by decide), if_neg (by decide), if_neg (by decide), if_neg (by decide), if_pos (by decide)]
      have l19 : (c_sb.getD 19 []).length = 3 := by decide
      have l20 : (c_sb.getD 20 []).length = 5 := by decide
      refine ⟨⟨rfl, a0⟩, ⟨rfl, a0⟩, ⟨rfl, a0⟩, ⟨rfl, a0⟩, ⟨rfl, a0⟩, B.kd, bt_s (j := 19) B (by decide) (by decide) (by decide) (by omega) hN hU (fun h1 B1 E1 => ?_)⟩
      rw [(ha h1 E1).1, (ha h1 E1).2, e2, show (102 : Int32) = Int32.ofNat 102 from rfl]
      refine ⟨⟨rfl, a0⟩, bt_n B1 (by decide) (by omega) (by rw [List.length_append]; omega) hN hU (fun h2 B2 E2 => ⟨B2.kd, ?_⟩)⟩
      rw [show (62 : Int32) = Int32.ofNat 62 from rfl]
      refine bt_c B2 (by decide) (by simp only [List.length_append, List.length_cons, List.length_nil]; omega) hN hU (fun h3 B3 E3 => ?_)
      have E13 : EK k2 h h3 := (E1.tr E2).tr E3
      rw [(ha h3 E13).1, (ha h3 E13).2, e1]
      refine ⟨⟨rfl, a0⟩, B3.kd, bt_d B3 (by omega) (by simp only [List.length_append, List.length_cons, List.length_nil]; omega) hN hU (fun h4 B4 E4 => ⟨B4.kd, ?_⟩)⟩
      rw [show (32 : Int32) = Int32.ofNat 32 from rfl]
      refine bt_c B4 (by decide) (by simp only [List.length_append, List.length_cons, List.length_nil]; omega) hN hU (fun h5 B5 E5 => ?_)
      have F5 : FS sm nm lt h h5 := FS.ek ((E13.tr E4).tr E5) m3
      have M5 : NM sm nm lt s h5 := M.ek ((E13.tr E4).tr E5)
      refine ⟨⟨(hb h5 F5).2.2, a0⟩, s51a hn hf hN hU B5 M5 (hb h5 F5).1 (by simp only [List.length_append, List.length_cons, List.length_nil]; omega) (fun h6 Y1 y1 B6 M6 F6 z6 => ⟨B6.kd, ?_⟩)⟩
      refine bt_s (j := 20) B6 (by decide) (by decide) (by decide) (by simp only [List.length_append, List.length_cons, List.length_nil]; omega) hN hU (fun h7 B7 E7 => ?_)
      have F7 : FS sm nm lt h h7 := (F5.tr F6).tr (FS.ek E7 M6.kds.2.2)
      refine ⟨⟨(hb h7 F7).2.2, a0⟩, s51a hn hf hN hU B7 (M6.ek E7) (hb h7 F7).2.1 (by simp only [List.length_append, List.length_cons, List.length_nil]; omega) (fun h8 Y2 y2 B8 M8 F8 z8 => ?_)⟩
      refine K h8 _ (Or.inr (Or.inl ⟨q, m, Y1, Y2, hq, hm, y1, y2, rfl⟩)) ?_ ?_ (F7.tr F8) ?_
      · rw [lbs_if (by omega)]
        simp only [List.append_assoc] at B8 ⊢
        exact B8
      · rw [sn_app, sn_app]
        show NM sm nm lt (sn (sn (snx (snx (snx (snx s (12, 0, 1)) (38, 102 * 32 + q, 0)) (34, 0, 0)) (39, m, 1)) Y1) Y2) h8
        rw [sn_name (by omega)]
        exact M8
      · rw [lbs_if (by omega)]
        simp only [List.length_append, List.length_cons, List.length_nil]
        omega
    · rw [if_neg (by decide), if_neg (by decide), if_neg (by decide), if_neg (by decide), if_neg (by decide), if_neg (by decide)]
      have l21 : (c_sb.getD 21 []).length = 15 := by decide
      have l22 : (c_sb.getD 22 []).length = 6 := by decide
      have l23 : (c_sb.getD 23 []).length = 2 := by decide
      refine ⟨⟨rfl, a0⟩, ⟨rfl, a0⟩, ⟨rfl, a0⟩, ⟨rfl, a0⟩, ⟨rfl, a0⟩, B.kd, bt_s (j := 21) B (by decide) (by decide) (by decide) (by omega) hN hU (fun h1 B1 E1 => ?_)⟩
      have F1 : FS sm nm lt h h1 := FS.ek E1 m3
      refine ⟨⟨(hb h1 F1).2.2, a0⟩, s51a hn hf hN hU B1 (M.ek E1) (hb h1 F1).1 (by simp only [List.length_append]; omega) (fun h2 Y1 y1 B2 M2 F2 z2 => ⟨B2.kd, ?_⟩)⟩
      refine bt_s (j := 22) B2 (by decide) (by decide) (by decide) (by simp only [List.length_append]; omega) hN hU (fun h3 B3 E3 => ?_)
      have F3 : FS sm nm lt h h3 := (F1.tr F2).tr (FS.ek E3 M2.kds.2.2)
      refine ⟨⟨(hb h3 F3).2.2, a0⟩, s51a hn hf hN hU B3 (M2.ek E3) (hb h3 F3).2.1 (by simp only [List.length_append]; omega) (fun h4 Y2 y2 B4 M4 F4 z4 => ⟨B4.kd, ?_⟩)⟩
      refine bt_s (j := 23) B4 (by decide) (by decide) (by decide) (by simp only [List.length_append]; omega) hN hU (fun h5 B5 E5 => ?_)
      refine K h5 _ (Or.inr (Or.inr ⟨Y1, Y2, y1, y2, rfl⟩)) ?_ ?_ ((F3.tr F4).tr (FS.ek E5 M4.kds.2.2)) ?_
      · rw [lbs_points]
        simp only [List.append_assoc] at B5 ⊢
        exact B5
      · rw [sn_app, sn_app]
        show NM sm nm lt (sn (sn s Y1) (Y2 ++ [(22, 0, 1)])) h5
        rw [sn_cl]
        exact M4.ek E5
      · rw [lbs_points]
        simp only [List.length_append]
        omega
  · exact i51 (d := d + 1) B M h4 hk hln I.1 hlo hn hf (by omega) hN hU (fun h1 Y y1 B1 M1 F1 y2 => K h1 Y (Or.inl y1) B1 M1 F1 (by omega))
/-- the loop over items of a clause -/
theorem l51b {d n f c L N U b sm nm lt a4 ln B0 : Nat} {xs : Nat → Int32} {Q : Option Value → PH → Prop} (hln : ln ≤ 3) (hn : n ≤ 20) (hf : f ≤ 20) (hN : N ≤ 300000) (hU : U ≤ 1000000) : ∀ (r k : Nat) (l : List Int32) (s : List Nat) (h : PH), k + r = ln → BT L xs N U h b l → NM sm nm lt s h → p_kd h a4 = 313 → ¬ a4 = 0 → a4 < p_nx h → p_ln h a4 = ln →
    (∀ j, j < ln → IT0 n f c B0 h (p_rm h a4 j)) → l.length + 150 * r ≤ 17000 →
    (∀ h1 Z, cat (isI0 n f c) r Z → BT L xs N U h1 b (l ++ lbs (Z ++ [(22, 0, 1)])) → NM sm nm lt (sn s Z) h1 → FS sm nm lt h h1 → (lbs Z).length ≤ 150 * r → Q none h1) →
    wp (d + 8) 51 11 [.val (.ref b), .val (.ref sm), .unset, .val (.ref nm), .val (.ref a4), .val (.int (Int32.ofNat ln)), .val (.int (Int32.ofNat k)), .unset, .unset] [] h Q := by
  intro r
  induction r with
  | zero =>
    intro k l s h e B M h1 h2 h3 h4 hi hl K
    rw [r51_11, if_neg (by rw [i_lt (by omega) (by omega)]; omega)]
    refine ⟨B.kd, bt_s (j := 23) B (by decide) (by decide) (by decide) (by omega) hN hU (fun h5 B5 E5 => ?_)⟩
    refine K h5 [] rfl ?_ (M.ek E5) (FS.ek E5 M.kds.2.2) (by decide)
    rw [List.nil_append, lb_close]
    exact B5
  | succ r ih =>
    intro k l s h e B M h1 h2 h3 h4 hi hl K
    have I := hi k (by omega)
    refine i51b B M ⟨h1, h2, h4⟩ (by omega) hln I hn hf (by omega) hN hU (fun h5 Y y1 B5 M5 F5 y2 => ?_)
    rw [r51_183, i_ofNat1, i_add]
    have kds := M.kds
    have nW : ¬ (k2 (p_kd h a4) ∨ p_kd h a4 = 15 ∨ a4 = nm ∨ a4 = lt ∨ a4 = sm) := fun q => by
      rcases q with q | q | q | q | q
      · rw [h1] at q; rcases q with q | q <;> cases q
      · rw [h1] at q; cases q
      · rw [q, kds.1] at h1; cases h1
      · rw [q, kds.2.1] at h1; cases h1
      · rw [q, kds.2.2] at h1; cases h1
    refine ih (k + 1) _ _ h5 (by omega) B5 M5 (by rw [F5.1.kd h3, h1]) h2 (F5.1.lt h3) (by rw [F5.1.ln h3, h4]) (fun j hj => ?_) (by rw [List.length_append]; omega) (fun h6 Z z1 B6 M6 F6 z2 => ?_)
    · rw [F5.1.rm h3 nW]
      exact (hi j hj).fs F5 kds
    · refine K h6 (Y ++ Z) (Or.inr ⟨Y, Z, rfl, y1, z1⟩) ?_ (by rw [sn_app]; exact M6) (F5.tr F6) (by rw [lbs_app, List.length_append]; omega)
      rw [List.append_assoc] at B6
      rw [List.append_assoc, lbs_app]
      exact B6
/-- a clause's block is said -/
theorem s51b {d n f c L N U b sm nm lt a4 : Nat} {xs : Nat → Int32} {l : List Int32} {s : List Nat} {h : PH} {Q : PH → Prop} (hn : n ≤ 20) (hf : f ≤ 20) (hN : N ≤ 300000) (hU : U ≤ 1000000) (B : BT L xs N U h b l) (M : NM sm nm lt s h) (I : BK0 n f c h a4) (hl : l.length ≤ 16000)
    (K : ∀ h1 Y, isB0 n f c Y → BT L xs N U h1 b (l ++ lbs Y) → NM sm nm lt (sn s Y) h1 → FS sm nm lt h h1 → (lbs Y).length ≤ 460 → Q h1) : CV (d + 9) 51 [.ref b, .ref sm, .ref a4, .ref nm] h Q := by
  obtain ⟨i1, i2, i3, i4, i5⟩ := id I
  have z4 : ¬ a4 = 0 := by omega
  rw [e51]
  have l11 : (c_sb.getD 11 []).length = 2 := by decide
  refine ⟨B.kd, bt_s (j := 11) B (by decide) (by decide) (by decide) (by omega) hN hU (fun h1 B1 E1 => ?_)⟩
  have F1 : FS sm nm lt h h1 := FS.ek E1 M.kds.2.2
  have nk : ¬ k2 (p_kd h a4) := fun q => by rw [i1] at q; rcases q with q | q <;> cases q
  have k1 : p_kd h1 a4 = 313 := by rw [Ext.kd E1 i3, i1]
  have h4 : p_ln h1 a4 = p_ln h a4 := Ext.ln E1 i3
  rw [k1, h4]
  refine ⟨⟨by decide, z4⟩, ?_⟩
  refine l51b (d := d) (c := c) (B0 := a4) (Q := fun v h1 => onV v (Q h1)) i4 hn hf hN hU (p_ln h a4) 0 _ s h1 (by omega) B1 (M.ek E1) k1 z4 (Ext.lt E1 i3) h4 (fun j hj => ?_) (by rw [List.length_append]; omega) (fun h2 Z z1 B2 M2 F2 z2 => ?_)
  · rw [Ext.rm E1 i3 nk]
    exact (i5 j hj).fs F1 M.kds
  refine K h2 ((21, 0, 1) :: (Z ++ [(22, 0, 1)])) ⟨Z, cat_mono i4 z1, rfl⟩ ?_ ?_ (F1.tr F2) ?_
  · rw [List.append_assoc] at B2
    exact B2
  · have : sn s ((21, 0, 1) :: (Z ++ [(22, 0, 1)])) = sn s (Z ++ [(22, 0, 1)]) := rfl
    rw [this, sn_cl]
    exact M2
  · have : lbs ((21, 0, 1) :: (Z ++ [(22, 0, 1)])) = lbs [(21, 0, 1)] ++ lbs (Z ++ [(22, 0, 1)]) := rfl
    rw [this, lbs_app, lb_open, lb_close, List.length_append, List.length_append, l11, show (c_sb.getD 23 []).length = 2 from by decide]
    omega
