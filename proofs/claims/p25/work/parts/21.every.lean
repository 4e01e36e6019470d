/-! Every instruction. -/
theorem ite_inv {c : Prop} [Decidable c] {A B : Prop} (h : if c then A else B) : (c ∧ A) ∨ (¬ c ∧ B) := by
  by_cases hc : c
  · rw [if_pos hc] at h; exact Or.inl ⟨hc, h⟩
  · rw [if_neg hc] at h; exact Or.inr ⟨hc, h⟩
set_option maxHeartbeats 4000000 in
theorem sem_MR {G : GG} {l : Launch} (hG : GOK G) {d k pc : Nat} {ls : List Slot} {st : List Value} {h : PH} {Q : Option Value → PH → Prop} (H : Sem (MR G l) d k pc ls st h Q) : MR G l d k pc ls st h Q := by
  unfold Sem at H
  generalize hgi : (z_code k).getD pc .athrow = i at H
  have hi0 : i ≠ .athrow → (z_code k)[pc]? = some i := fun q => code_at hgi q
  cases i with
  | nop =>
    have hi := hi0 (by intro h; cases h)
    intro hk
    have h9 := List.all_eq_true.mp (List.all_eq_true.mp no_all k (List.mem_range.mpr hk)) _ (List.mem_of_getElem? hi)
    cases h9
  | dload j =>
    have hi := hi0 (by intro h; cases h)
    intro hk
    have h9 := List.all_eq_true.mp (List.all_eq_true.mp no_all k (List.mem_range.mpr hk)) _ (List.mem_of_getElem? hi)
    cases h9
  | dstore j =>
    have hi := hi0 (by intro h; cases h)
    intro hk
    have h9 := List.all_eq_true.mp (List.all_eq_true.mp no_all k (List.mem_range.mpr hk)) _ (List.mem_of_getElem? hi)
    cases h9
  | iconst n =>
    have hi := hi0 (by intro h; cases h)
    exact MR.same H (fun _ => S_iconst hi)
  | ldc2_w n =>
    have hi := hi0 (by intro h; cases h)
    exact MR.same H (fun _ => S_lconst hi)
  | dconst n =>
    have hi := hi0 (by intro h; cases h)
    exact MR.same H (fun _ => S_dconst hi)
  | aconst_null =>
    have hi := hi0 (by intro h; cases h)
    exact MR.same H (fun _ => S_null hG hi)
  | ldc a =>
    have hi := hi0 (by intro h; cases h)
    exact MR.same H (fun _ => S_ldc hG hi)
  | iload j =>
    have hi := hi0 (by intro h; cases h)
    obtain ⟨x, hx, H⟩ := l_I_inv H
    exact MR.same H (fun _ => S_iload hi hx)
  | lload j =>
    have hi := hi0 (by intro h; cases h)
    obtain ⟨x, hx, H⟩ := l_L_inv H
    exact MR.same H (fun _ => S_lload hi hx)
  | aload j =>
    have hi := hi0 (by intro h; cases h)
    obtain ⟨x, hx, H⟩ := l_R_inv H
    exact MR.same H (fun _ => S_aload hi hx)
  | iinc j n =>
    have hi := hi0 (by intro h; cases h)
    obtain ⟨x, hx, H⟩ := l_I_inv H
    obtain ⟨h1, H⟩ := l_ok_inv H
    exact MR.same H (fun _ => S_iinc hi hx h1)
  | istore j =>
    have hi := hi0 (by intro h; cases h)
    obtain ⟨x, r, rfl, H⟩ := t_I_inv H
    obtain ⟨h1, H⟩ := l_ok_inv H
    have h1 := Bool.and_eq_true_iff.mp h1
    exact MR.same H (fun _ => S_istore hi (lt_of h1.1) h1.2)
  | astore j =>
    have hi := hi0 (by intro h; cases h)
    obtain ⟨x, r, rfl, H⟩ := t_R_inv H
    obtain ⟨h1, H⟩ := l_ok_inv H
    have h1 := Bool.and_eq_true_iff.mp h1
    exact MR.same H (fun _ => S_astore hi (lt_of h1.1) h1.2)
  | lstore j =>
    have hi := hi0 (by intro h; cases h)
    obtain ⟨x, r, rfl, H⟩ := t_L_inv H
    obtain ⟨h1, H⟩ := l_ok_inv H
    have h1 := Bool.and_eq_true_iff.mp h1
    exact MR.same H (fun _ => S_lstore hi (lt_of h1.1) h1.2)
  | iadd =>
    have hi := hi0 (by intro h; cases h)
    obtain ⟨x, y, r, rfl, H⟩ := t_II_inv H
    exact MR.same H (fun _ => S_iadd hi)
  | isub =>
    have hi := hi0 (by intro h; cases h)
    obtain ⟨x, y, r, rfl, H⟩ := t_II_inv H
    exact MR.same H (fun _ => S_isub hi)
  | imul =>
    have hi := hi0 (by intro h; cases h)
    obtain ⟨x, y, r, rfl, H⟩ := t_II_inv H
    exact MR.same H (fun _ => S_imul hi)
  | iand =>
    have hi := hi0 (by intro h; cases h)
    obtain ⟨x, y, r, rfl, H⟩ := t_II_inv H
    exact MR.same H (fun _ => S_iand hi)
  | ior =>
    have hi := hi0 (by intro h; cases h)
    obtain ⟨x, y, r, rfl, H⟩ := t_II_inv H
    exact MR.same H (fun _ => S_ior hi)
  | ixor =>
    have hi := hi0 (by intro h; cases h)
    obtain ⟨x, y, r, rfl, H⟩ := t_II_inv H
    exact MR.same H (fun _ => S_ixor hi)
  | ishl =>
    have hi := hi0 (by intro h; cases h)
    obtain ⟨x, y, r, rfl, H⟩ := t_II_inv H
    exact MR.same H (fun _ => S_ishl hi)
  | ishr =>
    have hi := hi0 (by intro h; cases h)
    obtain ⟨x, y, r, rfl, H⟩ := t_II_inv H
    exact MR.same H (fun _ => S_ishr hi)
  | iushr =>
    have hi := hi0 (by intro h; cases h)
    obtain ⟨x, y, r, rfl, H⟩ := t_II_inv H
    exact MR.same H (fun _ => S_iushr hi)
  | idiv =>
    have hi := hi0 (by intro h; cases h)
    obtain ⟨x, y, r, rfl, hne, H⟩ := t_II_inv H
    exact MR.same H (fun _ => S_idiv hi hne)
  | irem =>
    have hi := hi0 (by intro h; cases h)
    obtain ⟨x, y, r, rfl, hne, H⟩ := t_II_inv H
    exact MR.same H (fun _ => S_irem hi hne)
  | ineg =>
    have hi := hi0 (by intro h; cases h)
    obtain ⟨x, r, rfl, H⟩ := t_I_inv H
    exact MR.same H (fun _ => S_ineg hi)
  | i2b =>
    have hi := hi0 (by intro h; cases h)
    obtain ⟨x, r, rfl, H⟩ := t_I_inv H
    exact MR.same H (fun _ => S_i2b hi)
  | i2c =>
    have hi := hi0 (by intro h; cases h)
    obtain ⟨x, r, rfl, H⟩ := t_I_inv H
    exact MR.same H (fun _ => S_i2c hi)
  | i2l =>
    have hi := hi0 (by intro h; cases h)
    obtain ⟨x, r, rfl, H⟩ := t_I_inv H
    exact MR.same H (fun _ => S_i2l hi)
  | i2d =>
    have hi := hi0 (by intro h; cases h)
    obtain ⟨x, r, rfl, H⟩ := t_I_inv H
    exact MR.same H (fun _ => S_i2d hi)
  | l2i =>
    have hi := hi0 (by intro h; cases h)
    obtain ⟨x, r, rfl, H⟩ := t_L_inv H
    exact MR.same H (fun _ => S_l2i hi)
  | lneg =>
    have hi := hi0 (by intro h; cases h)
    obtain ⟨x, r, rfl, H⟩ := t_L_inv H
    exact MR.same H (fun _ => S_lneg hi)
  | ladd =>
    have hi := hi0 (by intro h; cases h)
    obtain ⟨x, y, r, rfl, H⟩ := t_LL_inv H
    exact MR.same H (fun _ => S_ladd hi)
  | lcmp =>
    have hi := hi0 (by intro h; cases h)
    obtain ⟨x, y, r, rfl, H⟩ := t_LL_inv H
    exact MR.same H (fun _ => S_lcmp hi)
  | ldiv =>
    have hi := hi0 (by intro h; cases h)
    obtain ⟨x, y, r, rfl, hne, H⟩ := t_LL_inv H
    exact MR.same H (fun _ => S_ldiv hi hne)
  | lrem =>
    have hi := hi0 (by intro h; cases h)
    obtain ⟨x, y, r, rfl, hne, H⟩ := t_LL_inv H
    exact MR.same H (fun _ => S_lrem hi hne)
  | ddiv =>
    have hi := hi0 (by intro h; cases h)
    obtain ⟨x, y, r, rfl, hne, H⟩ := t_DD_inv H
    exact MR.same H (fun _ => S_ddiv hi hne)
  | dcmp op =>
    have hi := hi0 (by intro h; cases h)
    obtain ⟨x, y, r, rfl, H⟩ := t_DD_inv H
    exact MR.same H (fun _ => S_dcmp hi)
  | dup =>
    have hi := hi0 (by intro h; cases h)
    obtain ⟨v, r, rfl, hv, H⟩ := t_V1_inv (f := fun v r => MR G l d k (pc + 1) (l_kl k (pc + 1) ls) (v :: v :: r) h Q) H
    exact MR.same H (fun _ => S_dup hi hv)
  | pop =>
    have hi := hi0 (by intro h; cases h)
    obtain ⟨v, r, rfl, hv, H⟩ := t_V1_inv (f := fun _ r => MR G l d k (pc + 1) (l_kl k (pc + 1) ls) r h Q) H
    exact MR.same H (fun _ => S_pop hi hv)
  | dup_x1 =>
    have hi := hi0 (by intro h; cases h)
    obtain ⟨v, r, rfl, hv, H⟩ := t_V1_inv (f := fun v r => t_V1 r (fun w r2 => MR G l d k (pc + 1) (l_kl k (pc + 1) ls) (v :: w :: v :: r2) h Q)) H
    obtain ⟨w, r, rfl, hw, H⟩ := t_V1_inv H
    exact MR.same H (fun _ => S_dup_x1 hi hv hw)
  | dup2 =>
    have hi := hi0 (by intro h; cases h)
    obtain ⟨v, r, rfl, hv, H⟩ := t_V1_inv (f := fun v r => t_V1 r (fun w r2 => MR G l d k (pc + 1) (l_kl k (pc + 1) ls) (v :: w :: v :: w :: r2) h Q)) H
    obtain ⟨w, r, rfl, hw, H⟩ := t_V1_inv H
    exact MR.same H (fun _ => S_dup2 hi hv hw)
  | ifCond c t =>
    have hi := hi0 (by intro h; cases h)
    obtain ⟨x, r, rfl, H⟩ := t_I_inv H
    cases c with
    | eq =>
      rcases ite_inv (c := x = 0) H with ⟨hc, H⟩ | ⟨hc, H⟩
      · exact MR.same H (fun _ => S_if_eq_j hi hc)
      · exact MR.same H (fun _ => S_if_eq_n hi hc)
    | ne =>
      rcases ite_inv (c := x = 0) H with ⟨hc, H⟩ | ⟨hc, H⟩
      · exact MR.same H (fun _ => S_if_ne_n hi hc)
      · exact MR.same H (fun _ => S_if_ne_j hi hc)
    | lt =>
      rcases ite_inv (c := x < 0) H with ⟨hc, H⟩ | ⟨hc, H⟩
      · exact MR.same H (fun _ => S_if_lt_j hi hc)
      · exact MR.same H (fun _ => S_if_lt_n hi hc)
    | ge =>
      rcases ite_inv (c := x < 0) H with ⟨hc, H⟩ | ⟨hc, H⟩
      · exact MR.same H (fun _ => S_if_ge_n hi hc)
      · exact MR.same H (fun _ => S_if_ge_j hi hc)
    | gt =>
      rcases ite_inv (c := 0 < x) H with ⟨hc, H⟩ | ⟨hc, H⟩
      · exact MR.same H (fun _ => S_if_gt_j hi hc)
      · exact MR.same H (fun _ => S_if_gt_n hi hc)
    | le =>
      rcases ite_inv (c := 0 < x) H with ⟨hc, H⟩ | ⟨hc, H⟩
      · exact MR.same H (fun _ => S_if_le_n hi hc)
      · exact MR.same H (fun _ => S_if_le_j hi hc)
  | if_icmp c t =>
    have hi := hi0 (by intro h; cases h)
    obtain ⟨x, y, r, rfl, H⟩ := t_II_inv H
    cases c with
    | eq =>
      rcases ite_inv (c := x = y) H with ⟨hc, H⟩ | ⟨hc, H⟩
      · exact MR.same H (fun _ => S_ic_eq_j hi hc)
      · exact MR.same H (fun _ => S_ic_eq_n hi hc)
    | ne =>
      rcases ite_inv (c := x = y) H with ⟨hc, H⟩ | ⟨hc, H⟩
      · exact MR.same H (fun _ => S_ic_ne_n hi hc)
      · exact MR.same H (fun _ => S_ic_ne_j hi hc)
    | lt =>
      rcases ite_inv (c := x < y) H with ⟨hc, H⟩ | ⟨hc, H⟩
      · exact MR.same H (fun _ => S_ic_lt_j hi hc)
      · exact MR.same H (fun _ => S_ic_lt_n hi hc)
    | ge =>
      rcases ite_inv (c := x < y) H with ⟨hc, H⟩ | ⟨hc, H⟩
      · exact MR.same H (fun _ => S_ic_ge_n hi hc)
      · exact MR.same H (fun _ => S_ic_ge_j hi hc)
    | gt =>
      rcases ite_inv (c := y < x) H with ⟨hc, H⟩ | ⟨hc, H⟩
      · exact MR.same H (fun _ => S_ic_gt_j hi hc)
      · exact MR.same H (fun _ => S_ic_gt_n hi hc)
    | le =>
      rcases ite_inv (c := y < x) H with ⟨hc, H⟩ | ⟨hc, H⟩
      · exact MR.same H (fun _ => S_ic_le_n hi hc)
      · exact MR.same H (fun _ => S_ic_le_j hi hc)
  | if_acmp c t =>
    have hi := hi0 (by intro h; cases h)
    obtain ⟨x, y, r, rfl, ⟨hx, hy⟩, H⟩ := t_RR_inv H
    cases c with
    | eq =>
      rcases ite_inv (c := x = y) H with ⟨hc, H⟩ | ⟨hc, H⟩
      · exact MR.same H (fun _ => S_ac_eq_j hG hi hx hy hc)
      · exact MR.same H (fun _ => S_ac_eq_n hG hi hx hy hc)
    | ne =>
      rcases ite_inv (c := x = y) H with ⟨hc, H⟩ | ⟨hc, H⟩
      · exact MR.same H (fun _ => S_ac_ne_n hG hi hx hy hc)
      · exact MR.same H (fun _ => S_ac_ne_j hG hi hx hy hc)
  | ifnull t =>
    have hi := hi0 (by intro h; cases h)
    obtain ⟨x, r, rfl, hx, H⟩ := t_R_inv H
    rcases ite_inv (c := x = 0) H with ⟨hc, H⟩ | ⟨hc, H⟩
    · subst hc
      exact MR.same H (fun _ => S_ifnull_z hG hi)
    · exact MR.same H (fun _ => S_ifnull_r hG (hx.resolve_left hc) hi)
  | ifnonnull t =>
    have hi := hi0 (by intro h; cases h)
    obtain ⟨x, r, rfl, hx, H⟩ := t_R_inv H
    rcases ite_inv (c := x = 0) H with ⟨hc, H⟩ | ⟨hc, H⟩
    · subst hc
      exact MR.same H (fun _ => S_ifnonnull_z hG hi)
    · exact MR.same H (fun _ => S_ifnonnull_r hG (hx.resolve_left hc) hi)
  | goto t =>
    have hi := hi0 (by intro h; cases h)
    exact MR.same H (fun _ => S_goto hi)
  | tableswitch dflt lo hi1 offs =>
    have hi := hi0 (by intro h; cases h)
    obtain ⟨x, r, rfl, H⟩ := t_I_inv H
    intro hk
    obtain ⟨g1, g2, g3, -⟩ := at_sw hk hi
    rcases sw_inv g1 (by omega) H with ⟨i, o, h3, h4, h5⟩ | ⟨h3, h4⟩
    · exact MR.same h5 (fun _ => S_sw_in hi h3 h4) hk
    · exact MR.same h4 (fun _ => S_sw_out hi h3) hk
  | getfield n =>
    have hi := hi0 (by intro h; cases h)
    obtain ⟨x, r, rfl, ⟨hx, h0⟩, H⟩ := t_R_inv H
    exact MR.same H (fun _ => S_getfield hG hi hx h0)
  | putfield n =>
    have hi := hi0 (by intro h; cases h)
    have H : f_put (z_ft n) n st h (fun r h1 => MR G l d k (pc + 1) (l_kl k (pc + 1) ls) r h1 Q) := H
    cases hz : z_ft n with
    | zero =>
      rw [hz] at H
      obtain ⟨x, v, r, rfl, ⟨hx, hge⟩, H⟩ := t_RR_inv H
      exact MR.step H (fun _ => S_put hG hi hx hge (by rw [hz]; exact g_rv_or G v) rfl rfl rfl rfl wr_o (wr_f hx hz)) (Nat.le_refl _) (Nat.le_refl _)
    | succ z =>
      cases z with
      | zero =>
        rw [hz] at H
        obtain ⟨x, v, r, rfl, ⟨hx, hge⟩, H⟩ := t_RI_inv H
        exact MR.step H (fun _ => S_put hG hi hx hge (by rw [hz]; exact ⟨v, rfl⟩) rfl rfl rfl rfl wi_o (wi_f hx (by rw [hz]; decide))) (Nat.le_refl _) (Nat.le_refl _)
      | succ z =>
        rw [hz] at H
        obtain ⟨x, v, r, rfl, ⟨⟨hx, hge⟩, hv⟩, H⟩ := t_RI_inv H
        exact MR.step H (fun _ => S_put hG hi hx hge (by rw [hz]; rcases hv with rfl | rfl; exact Or.inl rfl; exact Or.inr rfl) rfl rfl rfl rfl wi_o (wi_f hx (by rw [hz]; omega))) (Nat.le_refl _) (Nat.le_refl _)
  | new c1 =>
    have hi := hi0 (by intro h; cases h)
    obtain ⟨hc, H⟩ := H
    exact MR.step H (fun _ => S_new hG hi) (Nat.le_succ _) (Nat.le_add_right _ _)
  | newarray t =>
    have hi := hi0 (by intro h; cases h)
    obtain ⟨n, r, rfl, ⟨hn, hc1, hc2⟩, H⟩ := t_I_inv H
    cases t with
    | int => exact MR.step H (fun _ => S_newarray hG hi (Or.inl ⟨rfl, rfl⟩) hn hc2) (Nat.le_succ _) (Nat.le_add_right _ _)
    | byte => exact MR.step H (fun _ => S_newarray hG hi (Or.inr (Or.inl ⟨rfl, rfl⟩)) hn hc2) (Nat.le_succ _) (Nat.le_add_right _ _)
    | boolean => exact MR.step H (fun _ => S_newarray hG hi (Or.inr (Or.inr ⟨rfl, rfl⟩)) hn hc2) (Nat.le_succ _) (Nat.le_add_right _ _)
    | _ => exact (show False from H).elim
  | anewarray k1 =>
    have hi := hi0 (by intro h; cases h)
    obtain ⟨n, r, rfl, ⟨hn, hc1, hc2⟩, H⟩ := t_I_inv H
    exact MR.step H (fun _ => S_anewarray hG hi hn hc2) (Nat.le_succ _) (Nat.le_add_right _ _)
  | iaload =>
    have hi := hi0 (by intro h; cases h)
    obtain ⟨a, j, r, rfl, ⟨⟨hk1, h0⟩, hj⟩, H⟩ := t_RI_inv H
    exact MR.same H (fun _ => S_iaload hG hi hk1 hj)
  | baload =>
    have hi := hi0 (by intro h; cases h)
    obtain ⟨a, j, r, rfl, ⟨⟨hk1, h0⟩, hj⟩, H⟩ := t_RI_inv H
    exact MR.same H (fun _ => S_baload hG hi hk1 hj)
  | aaload =>
    have hi := hi0 (by intro h; cases h)
    obtain ⟨a, j, r, rfl, ⟨⟨hk1, h0⟩, hj⟩, H⟩ := t_RI_inv H
    exact MR.same H (fun _ => S_aaload hG hi hk1 hj)
  | iastore =>
    have hi := hi0 (by intro h; cases h)
    obtain ⟨a, j, v, r, rfl, ⟨⟨hk1, h0⟩, hj⟩, H⟩ := t_RII_inv H
    exact MR.step H (fun _ => S_iastore hG hi hk1 h0 hj) (Nat.le_refl _) (Nat.le_refl _)
  | bastore =>
    have hi := hi0 (by intro h; cases h)
    obtain ⟨a, j, v, r, rfl, ⟨⟨hk1, h0⟩, hj⟩, H⟩ := t_RII_inv H
    exact MR.step H (fun _ => S_bastore hG hi hk1 h0 hj) (Nat.le_refl _) (Nat.le_refl _)
  | castore =>
    have hi := hi0 (by intro h; cases h)
    obtain ⟨a, j, v, r, rfl, ⟨⟨⟨hk1, h0⟩, hv⟩, hj⟩, H⟩ := t_RII_inv H
    exact MR.step H (fun _ => S_castore hG hi hk1 hv h0 hj) (Nat.le_refl _) (Nat.le_refl _)
  | aastore =>
    have hi := hi0 (by intro h; cases h)
    obtain ⟨a, j, v, r, rfl, ⟨⟨⟨hk1, h0⟩, hv⟩, hj⟩, H⟩ := t_RIR_inv H
    exact MR.step H (fun _ => S_aastore hG hi hk1 h0 hv hj) (Nat.le_refl _) (Nat.le_refl _)
  | arraylength =>
    have hi := hi0 (by intro h; cases h)
    obtain ⟨a, r, rfl, ⟨hk1, h0⟩, H⟩ := t_R_inv H
    exact MR.same H (fun _ => S_len hG hi hk1)
  | checkcast n =>
    have hi := hi0 (by intro h; cases h)
    obtain ⟨a, r, rfl, ⟨hk1, h0⟩, H⟩ := t_R_inv H
    exact MR.same H (fun _ => S_cast hG hi hk1 h0)
  | invokestatic k1 =>
    have hi := hi0 (by intro h; cases h)
    have H : l_if (Nat.beq k1 900) _ _ := H
    cases hb : Nat.beq k1 900 with
    | true =>
      rw [hb] at H
      have e := Nat.eq_of_beq_eq_true hb
      subst e
      obtain ⟨s, sp, dd, dp, n, r, rfl, H⟩ := t_cp_inv H
      obtain ⟨hr, ⟨⟨⟨⟨h1, h2⟩, ⟨h3, h4⟩⟩, ⟨h5, h6, h7⟩, h8, h9⟩, H⟩⟩ := l_ok_inv H
      exact MR.step H (fun _ => S_copy hG hi h1 h3 h4 h5 h6 h7 h8 h9 (Nat.le_of_ble_eq_true hr)) (Nat.le_refl _) (Nat.le_refl _)
    | false =>
      rw [hb] at H
      refine call_case hG hi rfl (fun r len h2 => ?_) (fun hk => ?_) H
      · cases r <;> first
          | exact absurd h2 (by intro h; cases h)
          | exact Nat.eq_of_beq_eq_true (Bool.and_eq_true_iff.mp h2).2
      · obtain ⟨q, len, d1, d2, d3⟩ := at_pc hk hi
        cases q <;> first
          | exact absurd d2 (by intro h; cases h)
          | skip
        rename_i x
        have d2 := Bool.and_eq_true_iff.mp d2
        have e3 := Nat.eq_of_beq_eq_true d2.2
        subst e3
        have d5 := d2.1
        rw [hb] at d5
        exact Or.inl ⟨rfl, x, d5, d1⟩
  | invokevirtual k1 =>
    have hi := hi0 (by intro h; cases h)
    have H : l_if (Nat.beq k1 901) _ _ := H
    cases hb : Nat.beq k1 901 with
    | true =>
      rw [hb] at H
      have e := Nat.eq_of_beq_eq_true hb
      subst e
      obtain ⟨a, r, rfl, H⟩ := t_R_inv H
      obtain ⟨hr, ⟨⟨h1, h2⟩, h3, h4⟩, H⟩ := l_ok_inv H
      exact MR.step H (fun _ => S_clone hG hi h1 h2 (Nat.le_of_ble_eq_true hr)) (Nat.le_succ _) (Nat.le_add_right _ _)
    | false =>
      rw [hb] at H
      obtain ⟨hrc, H⟩ := H
      have hrc : ∃ (x0 : Nat) (as : List Value), (st.take (z_na k1)).reverse = .ref x0 :: as ∧ p_kd h x0 = z_rk k1 ∧ ¬ x0 = 0 := by
        unfold c_rcv at hrc
        split at hrc
        · next a as ha => exact ⟨a, as, ha, hrc⟩
        · exact hrc.elim
      obtain ⟨x0, as, e1, e2, e4⟩ := hrc
      refine call_case hG hi rfl (fun r len h2 => ?_) (fun hk => ?_) H
      · cases r <;> first
          | exact absurd h2 (by intro h; cases h)
          | exact Nat.eq_of_beq_eq_true (Bool.and_eq_true_iff.mp h2).2
          | exact Nat.eq_of_beq_eq_true (Bool.and_eq_true_iff.mp (Bool.and_eq_true_iff.mp h2).1).2
      · obtain ⟨q, len, d1, d2, d3⟩ := at_pc hk hi
        cases q <;> first
          | exact absurd d2 (by intro h; cases h)
          | skip
        · rename_i x
          have d2 := Bool.and_eq_true_iff.mp (Bool.and_eq_true_iff.mp d2).1
          have e3 := Nat.eq_of_beq_eq_true d2.2
          subst e3
          exact Or.inr (Or.inl ⟨x0, as, e1, e2, e4, x, Or.inr ⟨d2.1, d1⟩⟩)
        · rename_i x
          have d2 := Bool.and_eq_true_iff.mp d2
          have e3 := Nat.eq_of_beq_eq_true d2.2
          subst e3
          have d5 := d2.1
          rw [hb] at d5
          exact Or.inr (Or.inl ⟨x0, as, e1, e2, e4, x, Or.inl ⟨d5, d1⟩⟩)
  | invokespecial k1 =>
    have hi := hi0 (by intro h; cases h)
    have H : l_if (Nat.beq k1 902) _ _ := H
    cases hb : Nat.beq k1 902 with
    | true =>
      rw [hb] at H
      have e := Nat.eq_of_beq_eq_true hb
      subst e
      obtain ⟨a, r, rfl, H⟩ := t_R_inv H
      obtain ⟨hr, h1, H⟩ := l_ok_inv H
      exact MR.same H (fun _ => S_objinit hG hi h1 (Nat.le_of_ble_eq_true hr))
    | false =>
      rw [hb] at H
      obtain ⟨hrc, H⟩ := H
      have hrc : ∃ (x0 : Nat) (as : List Value), (st.take (z_na k1)).reverse = .ref x0 :: as ∧ 1000 ≤ x0 := by
        unfold c_ini at hrc
        split at hrc
        · next a as ha => exact ⟨a, as, ha, hrc⟩
        · exact hrc.elim
      obtain ⟨x0, as, e1, e2⟩ := hrc
      refine call_case hG hi rfl (fun r len h2 => ?_) (fun hk => ?_) H
      · cases r <;> first
          | exact absurd h2 (by intro h; cases h)
          | exact Nat.eq_of_beq_eq_true (Bool.and_eq_true_iff.mp h2).2
      · obtain ⟨q, len, d1, d2, d3⟩ := at_pc hk hi
        cases q <;> first
          | exact absurd d2 (by intro h; cases h)
          | skip
        rename_i x
        have d2 := Bool.and_eq_true_iff.mp d2
        have e3 := Nat.eq_of_beq_eq_true d2.2
        subst e3
        have d5 := d2.1
        rw [hb] at d5
        exact Or.inr (Or.inr ⟨x0, as, e1, e2, x, d5, d1⟩)
  | ireturn =>
    have hi := hi0 (by intro h; cases h)
    obtain ⟨x, r, rfl, H⟩ := t_I_inv H
    obtain ⟨h1, H⟩ := l_ok_inv H
    have h1 := isEmpty_nil h1
    subst h1
    exact MR.ret (v := some (.int x)) rfl hi H trivial
  | areturn =>
    have hi := hi0 (by intro h; cases h)
    obtain ⟨x, r, rfl, H⟩ := t_R_inv H
    obtain ⟨h1, H⟩ := l_ok_inv H
    have h1 := isEmpty_nil h1
    subst h1
    exact MR.ret (v := some (.ref x)) rfl hi H trivial
  | dreturn =>
    have hi := hi0 (by intro h; cases h)
    obtain ⟨x, r, rfl, H⟩ := t_D_inv H
    obtain ⟨h1, H⟩ := l_ok_inv H
    have h1 := isEmpty_nil h1
    subst h1
    exact MR.ret (v := some (.double x)) rfl hi H trivial
  | return_ =>
    have hi := hi0 (by intro h; cases h)
    obtain ⟨h1, H⟩ := l_ok_inv H
    have h1 := isEmpty_nil h1
    subst h1
    exact MR.ret (v := none) rfl hi H trivial
  | _ => exact (show False from H).elim
/-- a run of the picture is a run of the machine -/
theorem wp_MR {G : GG} {l : Launch} (hG : GOK G) {d k pc : Nat} {ls : List Slot} {st : List Value} {h : PH} {Q : Option Value → PH → Prop} (H : wp d k pc ls st h Q) : MR G l d k pc ls st h Q := H (MR G l) (fun _ _ _ _ _ _ _ q => sem_MR hG q)
