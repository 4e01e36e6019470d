/-! Branches. -/
theorem jt_inv {raw : List (Nat × Instr × Nat)} {pc : Nat} {off t : Int} (h : e_jt raw pc off t = true) : (pc : Int) + off = ((n_pc raw t.toNat : Nat) : Int) := by
  simp only [e_jt, Bool.and_eq_true, decide_eq_true_eq] at h
  exact h.2
section S3
variable {G : GG} {l : Launch} {k pc : Nat} {ls : List Slot} {r : List Value} {h : PH}
theorem at_if {c : Jvm.ClassFile.Cond} {t : Int} (hk : k < 190) (hi : (z_code k)[pc]? = some (.ifCond c t)) : ∃ off : Int, decode (z_b k) (n_pc (z_raw k) pc) = .ok (.ifCond c off, 3) ∧ ((n_pc (z_raw k) pc : Nat) : Int) + off = ((n_pc (z_raw k) t.toNat : Nat) : Int) ∧ n_pc (z_raw k) (pc + 1) = n_pc (z_raw k) pc + 3 := by
  obtain ⟨q, len, d1, d2, d3⟩ := at_pc hk hi
  have d3 := d3.resolve_left (by intro h; cases h)
  cases q <;> first
    | exact absurd d2 (by intro h; cases h)
    | skip
  rename_i c1 off
  simp only [e_rel, Bool.and_eq_true, decide_eq_true_eq] at d2
  obtain ⟨⟨rfl, e2⟩, e3⟩ := d2
  have e3 := Nat.eq_of_beq_eq_true e3
  subst e3
  exact ⟨off, d1, jt_inv e2, d3⟩
theorem at_ic {c : Jvm.ClassFile.Cond} {t : Int} (hk : k < 190) (hi : (z_code k)[pc]? = some (.if_icmp c t)) : ∃ off : Int, decode (z_b k) (n_pc (z_raw k) pc) = .ok (.if_icmp c off, 3) ∧ ((n_pc (z_raw k) pc : Nat) : Int) + off = ((n_pc (z_raw k) t.toNat : Nat) : Int) ∧ n_pc (z_raw k) (pc + 1) = n_pc (z_raw k) pc + 3 := by
  obtain ⟨q, len, d1, d2, d3⟩ := at_pc hk hi
  have d3 := d3.resolve_left (by intro h; cases h)
  cases q <;> first
    | exact absurd d2 (by intro h; cases h)
    | skip
  rename_i c1 off
  simp only [e_rel, Bool.and_eq_true, decide_eq_true_eq] at d2
  obtain ⟨⟨rfl, e2⟩, e3⟩ := d2
  have e3 := Nat.eq_of_beq_eq_true e3
  subst e3
  exact ⟨off, d1, jt_inv e2, d3⟩
theorem at_ac {c : Jvm.ClassFile.ACond} {t : Int} (hk : k < 190) (hi : (z_code k)[pc]? = some (.if_acmp c t)) : ∃ off : Int, decode (z_b k) (n_pc (z_raw k) pc) = .ok (.if_acmp c off, 3) ∧ ((n_pc (z_raw k) pc : Nat) : Int) + off = ((n_pc (z_raw k) t.toNat : Nat) : Int) ∧ n_pc (z_raw k) (pc + 1) = n_pc (z_raw k) pc + 3 := by
  obtain ⟨q, len, d1, d2, d3⟩ := at_pc hk hi
  have d3 := d3.resolve_left (by intro h; cases h)
  cases q <;> first
    | exact absurd d2 (by intro h; cases h)
    | skip
  rename_i c1 off
  simp only [e_rel, Bool.and_eq_true, decide_eq_true_eq] at d2
  obtain ⟨⟨rfl, e2⟩, e3⟩ := d2
  have e3 := Nat.eq_of_beq_eq_true e3
  subst e3
  exact ⟨off, d1, jt_inv e2, d3⟩
theorem at_ifnull {t : Int} (hk : k < 190) (hi : (z_code k)[pc]? = some (.ifnull t)) : ∃ off : Int, decode (z_b k) (n_pc (z_raw k) pc) = .ok (.ifnull off, 3) ∧ ((n_pc (z_raw k) pc : Nat) : Int) + off = ((n_pc (z_raw k) t.toNat : Nat) : Int) ∧ n_pc (z_raw k) (pc + 1) = n_pc (z_raw k) pc + 3 := by
  obtain ⟨q, len, d1, d2, d3⟩ := at_pc hk hi
  cases q <;> first
    | exact absurd d2 (by intro h; cases h)
    | skip
  rename_i off
  simp only [e_rel, Bool.and_eq_true, decide_eq_true_eq] at d2
  obtain ⟨e2, e3⟩ := d2
  have e3 := Nat.eq_of_beq_eq_true e3
  subst e3
  exact ⟨off, d1, jt_inv e2, d3.resolve_left (by intro h; cases h)⟩
theorem at_ifnonnull {t : Int} (hk : k < 190) (hi : (z_code k)[pc]? = some (.ifnonnull t)) : ∃ off : Int, decode (z_b k) (n_pc (z_raw k) pc) = .ok (.ifnonnull off, 3) ∧ ((n_pc (z_raw k) pc : Nat) : Int) + off = ((n_pc (z_raw k) t.toNat : Nat) : Int) ∧ n_pc (z_raw k) (pc + 1) = n_pc (z_raw k) pc + 3 := by
  obtain ⟨q, len, d1, d2, d3⟩ := at_pc hk hi
  cases q <;> first
    | exact absurd d2 (by intro h; cases h)
    | skip
  rename_i off
  simp only [e_rel, Bool.and_eq_true, decide_eq_true_eq] at d2
  obtain ⟨e2, e3⟩ := d2
  have e3 := Nat.eq_of_beq_eq_true e3
  subst e3
  exact ⟨off, d1, jt_inv e2, d3.resolve_left (by intro h; cases h)⟩
theorem at_goto {t : Int} (hk : k < 190) (hi : (z_code k)[pc]? = some (.goto t)) : ∃ off : Int, decode (z_b k) (n_pc (z_raw k) pc) = .ok (.goto off, 3) ∧ ((n_pc (z_raw k) pc : Nat) : Int) + off = ((n_pc (z_raw k) t.toNat : Nat) : Int) := by
  obtain ⟨q, len, d1, d2, d3⟩ := at_pc hk hi
  cases q <;> first
    | exact absurd d2 (by intro h; cases h)
    | skip
  rename_i off
  simp only [e_rel, Bool.and_eq_true, decide_eq_true_eq] at d2
  obtain ⟨e2, e3⟩ := d2
  have e3 := Nat.eq_of_beq_eq_true e3
  subst e3
  exact ⟨off, d1, jt_inv e2⟩
theorem S_if_eq_j {x : Int32} {t : Int} (hi : (z_code k)[pc]? = some (.ifCond .eq t)) (hc : x = 0) : STEP G l k pc ls (.int x :: r) h t.toNat ls r h := by
  intro d p e R s m args below meth c H locs lsm h0 Z C hR hS hL n0 u0 nc uc kk
  obtain ⟨off, d1, d2, d3⟩ := at_if (Cx C) hi
  have K := kk H locs lsm hR hS hL
  exact lv_if_eq C.1 C.2.1 d1 d2 (fun q => K) (fun q => absurd hc q)
theorem S_if_eq_n {x : Int32} {t : Int} (hi : (z_code k)[pc]? = some (.ifCond .eq t)) (hc : ¬ x = 0) : STEP G l k pc ls (.int x :: r) h (pc + 1) ls r h := by
  intro d p e R s m args below meth c H locs lsm h0 Z C hR hS hL n0 u0 nc uc kk
  obtain ⟨off, d1, d2, d3⟩ := at_if (Cx C) hi
  have K := kk H locs lsm hR hS hL
  rw [d3] at K
  exact lv_if_eq C.1 C.2.1 d1 d2 (fun q => absurd q hc) (fun q => K)
theorem S_if_ne_j {x : Int32} {t : Int} (hi : (z_code k)[pc]? = some (.ifCond .ne t)) (hc : ¬ x = 0) : STEP G l k pc ls (.int x :: r) h t.toNat ls r h := by
  intro d p e R s m args below meth c H locs lsm h0 Z C hR hS hL n0 u0 nc uc kk
  obtain ⟨off, d1, d2, d3⟩ := at_if (Cx C) hi
  have K := kk H locs lsm hR hS hL
  exact lv_if_ne C.1 C.2.1 d1 d2 (fun q => K) (fun q => absurd q hc)
theorem S_if_ne_n {x : Int32} {t : Int} (hi : (z_code k)[pc]? = some (.ifCond .ne t)) (hc : x = 0) : STEP G l k pc ls (.int x :: r) h (pc + 1) ls r h := by
  intro d p e R s m args below meth c H locs lsm h0 Z C hR hS hL n0 u0 nc uc kk
  obtain ⟨off, d1, d2, d3⟩ := at_if (Cx C) hi
  have K := kk H locs lsm hR hS hL
  rw [d3] at K
  exact lv_if_ne C.1 C.2.1 d1 d2 (fun q => absurd hc q) (fun q => K)
theorem S_if_lt_j {x : Int32} {t : Int} (hi : (z_code k)[pc]? = some (.ifCond .lt t)) (hc : x < 0) : STEP G l k pc ls (.int x :: r) h t.toNat ls r h := by
  intro d p e R s m args below meth c H locs lsm h0 Z C hR hS hL n0 u0 nc uc kk
  obtain ⟨off, d1, d2, d3⟩ := at_if (Cx C) hi
  have K := kk H locs lsm hR hS hL
  exact lv_if_lt C.1 C.2.1 d1 d2 (fun q => K) (fun q => absurd hc q)
theorem S_if_lt_n {x : Int32} {t : Int} (hi : (z_code k)[pc]? = some (.ifCond .lt t)) (hc : ¬ x < 0) : STEP G l k pc ls (.int x :: r) h (pc + 1) ls r h := by
  intro d p e R s m args below meth c H locs lsm h0 Z C hR hS hL n0 u0 nc uc kk
  obtain ⟨off, d1, d2, d3⟩ := at_if (Cx C) hi
  have K := kk H locs lsm hR hS hL
  rw [d3] at K
  exact lv_if_lt C.1 C.2.1 d1 d2 (fun q => absurd q hc) (fun q => K)
theorem S_if_ge_j {x : Int32} {t : Int} (hi : (z_code k)[pc]? = some (.ifCond .ge t)) (hc : ¬ x < 0) : STEP G l k pc ls (.int x :: r) h t.toNat ls r h := by
  intro d p e R s m args below meth c H locs lsm h0 Z C hR hS hL n0 u0 nc uc kk
  obtain ⟨off, d1, d2, d3⟩ := at_if (Cx C) hi
  have K := kk H locs lsm hR hS hL
  exact lv_if_ge C.1 C.2.1 d1 d2 (fun q => K) (fun q => absurd (Int32.not_lt.mp hc) q)
theorem S_if_ge_n {x : Int32} {t : Int} (hi : (z_code k)[pc]? = some (.ifCond .ge t)) (hc : x < 0) : STEP G l k pc ls (.int x :: r) h (pc + 1) ls r h := by
  intro d p e R s m args below meth c H locs lsm h0 Z C hR hS hL n0 u0 nc uc kk
  obtain ⟨off, d1, d2, d3⟩ := at_if (Cx C) hi
  have K := kk H locs lsm hR hS hL
  rw [d3] at K
  exact lv_if_ge C.1 C.2.1 d1 d2 (fun q => absurd hc (Int32.not_lt.mpr q)) (fun q => K)
theorem S_if_gt_j {x : Int32} {t : Int} (hi : (z_code k)[pc]? = some (.ifCond .gt t)) (hc : 0 < x) : STEP G l k pc ls (.int x :: r) h t.toNat ls r h := by
  intro d p e R s m args below meth c H locs lsm h0 Z C hR hS hL n0 u0 nc uc kk
  obtain ⟨off, d1, d2, d3⟩ := at_if (Cx C) hi
  have K := kk H locs lsm hR hS hL
  exact lv_if_gt C.1 C.2.1 d1 d2 (fun q => K) (fun q => absurd hc q)
theorem S_if_gt_n {x : Int32} {t : Int} (hi : (z_code k)[pc]? = some (.ifCond .gt t)) (hc : ¬ 0 < x) : STEP G l k pc ls (.int x :: r) h (pc + 1) ls r h := by
  intro d p e R s m args below meth c H locs lsm h0 Z C hR hS hL n0 u0 nc uc kk
  obtain ⟨off, d1, d2, d3⟩ := at_if (Cx C) hi
  have K := kk H locs lsm hR hS hL
  rw [d3] at K
  exact lv_if_gt C.1 C.2.1 d1 d2 (fun q => absurd q hc) (fun q => K)
theorem S_if_le_j {x : Int32} {t : Int} (hi : (z_code k)[pc]? = some (.ifCond .le t)) (hc : ¬ 0 < x) : STEP G l k pc ls (.int x :: r) h t.toNat ls r h := by
  intro d p e R s m args below meth c H locs lsm h0 Z C hR hS hL n0 u0 nc uc kk
  obtain ⟨off, d1, d2, d3⟩ := at_if (Cx C) hi
  have K := kk H locs lsm hR hS hL
  exact lv_if_le C.1 C.2.1 d1 d2 (fun q => K) (fun q => absurd (Int32.not_lt.mp hc) q)
theorem S_if_le_n {x : Int32} {t : Int} (hi : (z_code k)[pc]? = some (.ifCond .le t)) (hc : 0 < x) : STEP G l k pc ls (.int x :: r) h (pc + 1) ls r h := by
  intro d p e R s m args below meth c H locs lsm h0 Z C hR hS hL n0 u0 nc uc kk
  obtain ⟨off, d1, d2, d3⟩ := at_if (Cx C) hi
  have K := kk H locs lsm hR hS hL
  rw [d3] at K
  exact lv_if_le C.1 C.2.1 d1 d2 (fun q => absurd hc (Int32.not_lt.mpr q)) (fun q => K)
theorem S_ic_eq_j {x y : Int32} {t : Int} (hi : (z_code k)[pc]? = some (.if_icmp .eq t)) (hc : x = y) : STEP G l k pc ls (.int y :: .int x :: r) h t.toNat ls r h := by
  intro d p e R s m args below meth c H locs lsm h0 Z C hR hS hL n0 u0 nc uc kk
  obtain ⟨off, d1, d2, d3⟩ := at_ic (Cx C) hi
  have K := kk H locs lsm hR hS hL
  exact lv_icmp_eq C.1 C.2.1 d1 d2 (fun q => K) (fun q => absurd hc q)
theorem S_ic_eq_n {x y : Int32} {t : Int} (hi : (z_code k)[pc]? = some (.if_icmp .eq t)) (hc : ¬ x = y) : STEP G l k pc ls (.int y :: .int x :: r) h (pc + 1) ls r h := by
  intro d p e R s m args below meth c H locs lsm h0 Z C hR hS hL n0 u0 nc uc kk
  obtain ⟨off, d1, d2, d3⟩ := at_ic (Cx C) hi
  have K := kk H locs lsm hR hS hL
  rw [d3] at K
  exact lv_icmp_eq C.1 C.2.1 d1 d2 (fun q => absurd q hc) (fun q => K)
theorem S_ic_ne_j {x y : Int32} {t : Int} (hi : (z_code k)[pc]? = some (.if_icmp .ne t)) (hc : ¬ x = y) : STEP G l k pc ls (.int y :: .int x :: r) h t.toNat ls r h := by
  intro d p e R s m args below meth c H locs lsm h0 Z C hR hS hL n0 u0 nc uc kk
  obtain ⟨off, d1, d2, d3⟩ := at_ic (Cx C) hi
  have K := kk H locs lsm hR hS hL
  exact lv_icmp_ne C.1 C.2.1 d1 d2 (fun q => K) (fun q => absurd q hc)
theorem S_ic_ne_n {x y : Int32} {t : Int} (hi : (z_code k)[pc]? = some (.if_icmp .ne t)) (hc : x = y) : STEP G l k pc ls (.int y :: .int x :: r) h (pc + 1) ls r h := by
  intro d p e R s m args below meth c H locs lsm h0 Z C hR hS hL n0 u0 nc uc kk
  obtain ⟨off, d1, d2, d3⟩ := at_ic (Cx C) hi
  have K := kk H locs lsm hR hS hL
  rw [d3] at K
  exact lv_icmp_ne C.1 C.2.1 d1 d2 (fun q => absurd hc q) (fun q => K)
theorem S_ic_lt_j {x y : Int32} {t : Int} (hi : (z_code k)[pc]? = some (.if_icmp .lt t)) (hc : x < y) : STEP G l k pc ls (.int y :: .int x :: r) h t.toNat ls r h := by
  intro d p e R s m args below meth c H locs lsm h0 Z C hR hS hL n0 u0 nc uc kk
  obtain ⟨off, d1, d2, d3⟩ := at_ic (Cx C) hi
  have K := kk H locs lsm hR hS hL
  exact lv_icmp_lt C.1 C.2.1 d1 d2 (fun q => K) (fun q => absurd hc q)
theorem S_ic_lt_n {x y : Int32} {t : Int} (hi : (z_code k)[pc]? = some (.if_icmp .lt t)) (hc : ¬ x < y) : STEP G l k pc ls (.int y :: .int x :: r) h (pc + 1) ls r h := by
  intro d p e R s m args below meth c H locs lsm h0 Z C hR hS hL n0 u0 nc uc kk
  obtain ⟨off, d1, d2, d3⟩ := at_ic (Cx C) hi
  have K := kk H locs lsm hR hS hL
  rw [d3] at K
  exact lv_icmp_lt C.1 C.2.1 d1 d2 (fun q => absurd q hc) (fun q => K)
theorem S_ic_ge_j {x y : Int32} {t : Int} (hi : (z_code k)[pc]? = some (.if_icmp .ge t)) (hc : ¬ x < y) : STEP G l k pc ls (.int y :: .int x :: r) h t.toNat ls r h := by
  intro d p e R s m args below meth c H locs lsm h0 Z C hR hS hL n0 u0 nc uc kk
  obtain ⟨off, d1, d2, d3⟩ := at_ic (Cx C) hi
  have K := kk H locs lsm hR hS hL
  exact lv_icmp_ge C.1 C.2.1 d1 d2 (fun q => K) (fun q => absurd (Int32.not_lt.mp hc) q)
theorem S_ic_ge_n {x y : Int32} {t : Int} (hi : (z_code k)[pc]? = some (.if_icmp .ge t)) (hc : x < y) : STEP G l k pc ls (.int y :: .int x :: r) h (pc + 1) ls r h := by
  intro d p e R s m args below meth c H locs lsm h0 Z C hR hS hL n0 u0 nc uc kk
  obtain ⟨off, d1, d2, d3⟩ := at_ic (Cx C) hi
  have K := kk H locs lsm hR hS hL
  rw [d3] at K
  exact lv_icmp_ge C.1 C.2.1 d1 d2 (fun q => absurd hc (Int32.not_lt.mpr q)) (fun q => K)
theorem S_ic_gt_j {x y : Int32} {t : Int} (hi : (z_code k)[pc]? = some (.if_icmp .gt t)) (hc : y < x) : STEP G l k pc ls (.int y :: .int x :: r) h t.toNat ls r h := by
  intro d p e R s m args below meth c H locs lsm h0 Z C hR hS hL n0 u0 nc uc kk
  obtain ⟨off, d1, d2, d3⟩ := at_ic (Cx C) hi
  have K := kk H locs lsm hR hS hL
  exact lv_icmp_gt C.1 C.2.1 d1 d2 (fun q => K) (fun q => absurd hc q)
theorem S_ic_gt_n {x y : Int32} {t : Int} (hi : (z_code k)[pc]? = some (.if_icmp .gt t)) (hc : ¬ y < x) : STEP G l k pc ls (.int y :: .int x :: r) h (pc + 1) ls r h := by
  intro d p e R s m args below meth c H locs lsm h0 Z C hR hS hL n0 u0 nc uc kk
  obtain ⟨off, d1, d2, d3⟩ := at_ic (Cx C) hi
  have K := kk H locs lsm hR hS hL
  rw [d3] at K
  exact lv_icmp_gt C.1 C.2.1 d1 d2 (fun q => absurd q hc) (fun q => K)
theorem S_ic_le_j {x y : Int32} {t : Int} (hi : (z_code k)[pc]? = some (.if_icmp .le t)) (hc : ¬ y < x) : STEP G l k pc ls (.int y :: .int x :: r) h t.toNat ls r h := by
  intro d p e R s m args below meth c H locs lsm h0 Z C hR hS hL n0 u0 nc uc kk
  obtain ⟨off, d1, d2, d3⟩ := at_ic (Cx C) hi
  have K := kk H locs lsm hR hS hL
  exact lv_icmp_le C.1 C.2.1 d1 d2 (fun q => K) (fun q => absurd (Int32.not_lt.mp hc) q)
theorem S_ic_le_n {x y : Int32} {t : Int} (hi : (z_code k)[pc]? = some (.if_icmp .le t)) (hc : y < x) : STEP G l k pc ls (.int y :: .int x :: r) h (pc + 1) ls r h := by
  intro d p e R s m args below meth c H locs lsm h0 Z C hR hS hL n0 u0 nc uc kk
  obtain ⟨off, d1, d2, d3⟩ := at_ic (Cx C) hi
  have K := kk H locs lsm hR hS hL
  rw [d3] at K
  exact lv_icmp_le C.1 C.2.1 d1 d2 (fun q => absurd hc (Int32.not_lt.mpr q)) (fun q => K)
theorem S_goto {t : Int} (hi : (z_code k)[pc]? = some (.goto t)) : STEP G l k pc ls r h t.toNat ls r h := by
  intro d p e R s m args below meth c H locs lsm h0 Z C hR hS hL n0 u0 nc uc kk
  obtain ⟨off, d1, d2⟩ := at_goto (Cx C) hi
  exact lv_goto C.1 C.2.1 d1 d2 (kk H locs lsm hR hS hL)
theorem g_op_eq (hG : GOK G) {H : Heap} (R : Rep G h H) {x y : Nat} (hx : x = 0 ∨ p_kd h x = 16) (hy : y = 0 ∨ p_kd h y = 16) (henum : ∀ a, p_kd h a = 16 → a < 1000) : g_op G x = g_op G y ↔ x = y := by
  constructor
  · intro q
    rcases hx with rfl | hx <;> rcases hy with rfl | hy
    · rfl
    · have := R.k70 hG (x := y) (by omega)
      rw [hG.1, hG.2.1 y this.1 this.2] at q; cases q
    · have := R.k70 hG (x := x) (by omega)
      rw [hG.1, hG.2.1 x this.1 this.2] at q; cases q
    · have h1 := R.k70 hG (x := x) (by omega)
      have h2 := R.k70 hG (x := y) (by omega)
      rw [hG.2.1 y h2.1 h2.2, hG.2.1 x h1.1 h1.2] at q
      have hx1 := henum x hx
      have hy1 := henum y hy
      exact hG.2.2.2.2.2 x y hx1 hy1 ((R.2.2.2.2.2.1 x hx1).1.symm.trans hx) ((R.2.2.2.2.2.1 y hy1).1.symm.trans hy) (Option.some.inj q)
  · rintro rfl; rfl
theorem S_ac_eq_j (hG : GOK G) {x y : Nat} {t : Int} (hi : (z_code k)[pc]? = some (.if_acmp .eq t)) (hx : x = 0 ∨ p_kd h x = 16) (hy : y = 0 ∨ p_kd h y = 16) (hc : x = y) : STEP G l k pc ls (.ref y :: .ref x :: r) h t.toNat ls r h := by
  intro d p e R s m args below meth c H locs lsm h0 Z C hR hS hL n0 u0 nc uc kk
  obtain ⟨off, d1, d2, d3⟩ := at_ac (Cx C) hi
  have K := kk H locs lsm hR hS hL
  have E := g_op_eq hG hR hx hy hR.enum
  exact lv_acmp_eq C.1 C.2.1 d1 d2 (fun q => K) (fun q => absurd (E.mpr hc) q)
theorem S_ac_eq_n (hG : GOK G) {x y : Nat} {t : Int} (hi : (z_code k)[pc]? = some (.if_acmp .eq t)) (hx : x = 0 ∨ p_kd h x = 16) (hy : y = 0 ∨ p_kd h y = 16) (hc : ¬ x = y) : STEP G l k pc ls (.ref y :: .ref x :: r) h (pc + 1) ls r h := by
  intro d p e R s m args below meth c H locs lsm h0 Z C hR hS hL n0 u0 nc uc kk
  obtain ⟨off, d1, d2, d3⟩ := at_ac (Cx C) hi
  have K := kk H locs lsm hR hS hL
  have E := g_op_eq hG hR hx hy hR.enum
  rw [d3] at K
  exact lv_acmp_eq C.1 C.2.1 d1 d2 (fun q => absurd (E.mp q) hc) (fun q => K)
theorem S_ac_ne_j (hG : GOK G) {x y : Nat} {t : Int} (hi : (z_code k)[pc]? = some (.if_acmp .ne t)) (hx : x = 0 ∨ p_kd h x = 16) (hy : y = 0 ∨ p_kd h y = 16) (hc : ¬ x = y) : STEP G l k pc ls (.ref y :: .ref x :: r) h t.toNat ls r h := by
  intro d p e R s m args below meth c H locs lsm h0 Z C hR hS hL n0 u0 nc uc kk
  obtain ⟨off, d1, d2, d3⟩ := at_ac (Cx C) hi
  have K := kk H locs lsm hR hS hL
  have E := g_op_eq hG hR hx hy hR.enum
  exact lv_acmp_ne C.1 C.2.1 d1 d2 (fun q => K) (fun q => absurd (E.mp q) hc)
theorem S_ac_ne_n (hG : GOK G) {x y : Nat} {t : Int} (hi : (z_code k)[pc]? = some (.if_acmp .ne t)) (hx : x = 0 ∨ p_kd h x = 16) (hy : y = 0 ∨ p_kd h y = 16) (hc : x = y) : STEP G l k pc ls (.ref y :: .ref x :: r) h (pc + 1) ls r h := by
  intro d p e R s m args below meth c H locs lsm h0 Z C hR hS hL n0 u0 nc uc kk
  obtain ⟨off, d1, d2, d3⟩ := at_ac (Cx C) hi
  have K := kk H locs lsm hR hS hL
  have E := g_op_eq hG hR hx hy hR.enum
  rw [d3] at K
  exact lv_acmp_ne C.1 C.2.1 d1 d2 (fun q => absurd (E.mpr hc) q) (fun q => K)
theorem S_ifnull_z (hG : GOK G) {t : Int} (hi : (z_code k)[pc]? = some (.ifnull t)) : STEP G l k pc ls (.ref 0 :: r) h t.toNat ls r h := by
  intro d p e R s m args below meth c H locs lsm h0 Z C hR hS hL n0 u0 nc uc kk
  obtain ⟨off, d1, d2, d3⟩ := at_ifnull (Cx C) hi
  have K := kk H locs lsm hR hS hL
  rw [List.map_cons, show g_v G (.ref 0) = .null from g_rv0 hG]
  exact lv_ifnullN C.1 C.2.1 d1 d2 K
theorem S_ifnull_r (hG : GOK G) {x : Nat} (hx : ¬ p_kd h x = 0) {t : Int} (hi : (z_code k)[pc]? = some (.ifnull t)) : STEP G l k pc ls (.ref x :: r) h (pc + 1) ls r h := by
  intro d p e R s m args below meth c H locs lsm h0 Z C hR hS hL n0 u0 nc uc kk
  obtain ⟨off, d1, d2, d3⟩ := at_ifnull (Cx C) hi
  have K := kk H locs lsm hR hS hL
  rw [d3] at K
  rw [List.map_cons, show g_v G (.ref x) = .ref (g_ad G x) from hR.rv hG hx]
  exact lv_ifnull C.1 C.2.1 d1 K
theorem S_ifnonnull_z (hG : GOK G) {t : Int} (hi : (z_code k)[pc]? = some (.ifnonnull t)) : STEP G l k pc ls (.ref 0 :: r) h (pc + 1) ls r h := by
  intro d p e R s m args below meth c H locs lsm h0 Z C hR hS hL n0 u0 nc uc kk
  obtain ⟨off, d1, d2, d3⟩ := at_ifnonnull (Cx C) hi
  have K := kk H locs lsm hR hS hL
  rw [d3] at K
  rw [List.map_cons, show g_v G (.ref 0) = .null from g_rv0 hG]
  exact lv_ifnonnullN C.1 C.2.1 d1 K
theorem S_ifnonnull_r (hG : GOK G) {x : Nat} (hx : ¬ p_kd h x = 0) {t : Int} (hi : (z_code k)[pc]? = some (.ifnonnull t)) : STEP G l k pc ls (.ref x :: r) h t.toNat ls r h := by
  intro d p e R s m args below meth c H locs lsm h0 Z C hR hS hL n0 u0 nc uc kk
  obtain ⟨off, d1, d2, d3⟩ := at_ifnonnull (Cx C) hi
  have K := kk H locs lsm hR hS hL
  rw [List.map_cons, show g_v G (.ref x) = .ref (g_ad G x) from hR.rv hG hx]
  exact lv_ifnonnull C.1 C.2.1 d1 d2 K
end S3
