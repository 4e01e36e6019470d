/-! Rows: made, read, written. -/
section S6
variable {G : GG} {l : Launch} {k pc : Nat} {ls : List Slot} {r : List Value} {h : PH}
theorem n_pos {n : Int32} (h : ¬ n < 0) : 0 ≤ n.toInt := by
  have := Int32.not_lt.mp h
  simpa using Int32.le_iff_toInt_le.mp this
theorem p_in_vp {j : Int32} {n : Nat} (h : p_in j n) : vp_in j n := by
  intro q
  rcases q with q | q
  · have := Int32.lt_iff_toInt_lt.mp q
    have h1 := h.1
    simp at this
    omega
  · have := h.2
    omega
theorem S_newarray (hG : GOK G) {t : Jvm.ClassFile.ArrayType} {k1 : Nat} {n : Int32} (hi : (z_code k)[pc]? = some (.newarray t)) (hk1 : (t = .int ∧ k1 = 100) ∨ (t = .byte ∧ k1 = 120) ∨ (t = .boolean ∧ k1 = 300)) (hn : ¬ n < 0) (hcap : p_us h + n.toNatClampNeg ≤ p_CS) : STEP G l k pc ls (.int n :: r) h (pc + 1) ls (.ref (p_nx h) :: r) (p_new h k1 n.toNatClampNeg n.toNatClampNeg) := by
  intro d p e R s m args below meth c H locs lsm h0 Z C hR hS hL n0 u0 nc uc kk
  obtain ⟨q, len, d1, d2, d3⟩ := at_pc (Cx C) hi
  have d4 := d3.resolve_left (by intro h; cases h)
  obtain ⟨C1, C2, C3, C4, C5, C6, E, C8, C9⟩ := C
  cases q <;> first
    | exact absurd d2 (by intro h; cases h)
    | skip
  rename_i t1
  have d2 := Bool.and_eq_true_iff.mp d2
  have e3 := Nat.eq_of_beq_eq_true d2.2
  subst e3
  have e1 := of_decide_eq_true d2.1
  subst e1
  have hnx : p_nx (p_new h k1 n.toNatClampNeg n.toNatClampNeg) = p_nx h + 1 := rfl
  have hus : p_us (p_new h k1 n.toNatClampNeg n.toNatClampNeg) = p_us h + n.toNatClampNeg := rfl
  rw [hnx] at nc
  rw [hus] at uc
  have hety : z_ety k1 = some (newarray.typeOf t) ∧ k_new k1 = true ∧ 100 ≤ k1 ∧ p_kR k1 = false ∧ defaultValue (newarray.typeOf t) = .int 0 ∧ (Cond.arrayClass (newarray.typeOf t)) ∈ w_all ∧ ∃ z, newarray.typeOf t = z ∧ (z = .int ∨ z = .byte ∨ z = .boolean) := by
    rcases hk1 with ⟨rfl, rfl⟩ | ⟨rfl, rfl⟩ | ⟨rfl, rfl⟩
    · exact ⟨rfl, rfl, by decide, rfl, rfl, w_ac.1.1, _, rfl, Or.inl rfl⟩
    · exact ⟨rfl, rfl, by decide, rfl, rfl, w_ac.1.2, _, rfl, Or.inr (Or.inl rfl)⟩
    · exact ⟨rfl, rfl, by decide, rfl, rfl, w_ac.2, _, rfl, Or.inr (Or.inr rfl)⟩
  obtain ⟨y1, y2, y3, y4, y5, y6, y7⟩ := hety
  have hbytes : n.toNatClampNeg * componentBytes (newarray.typeOf t) ≤ 536870912 := by
    have hb : componentBytes (newarray.typeOf t) ≤ 4 := by
      rcases hk1 with ⟨rfl, rfl⟩ | ⟨rfl, rfl⟩ | ⟨rfl, rfl⟩ <;> decide
    have := Nat.mul_le_mul_left n.toNatClampNeg hb
    unfold p_CS at hcap
    omega
  refine W.newa C1 C2 (C6 _ (List.mem_filter.mpr ⟨y6, rfl⟩)) rfl d1 rfl hn hbytes (by omega) (by omega) (fun cA kA comp f1 f2 f3 => ?_)
  have hcA : cA = g_A G k1 := by
    have := (E.2.1 k1 _ y1).2.1
    have h2 : s.vm.findClass ("[" ++ (newarray.typeOf t).toString) = some (g_A G k1) := by
      obtain ⟨z, hz, hz2⟩ := y7
      rw [hz] at this ⊢
      rcases hz2 with rfl | rfl | rfl <;> exact this
    exact Option.some.inj (f1.symm.trans h2)
  obtain ⟨hR1, hrv⟩ := S_row (n := n) hG hR E y1 y2 y3 (fun j => by
    unfold g_e
    rw [new_kd, y4, new_im]
    exact y5.symm) hcA
  have K := kk _ locs lsm hR1 (hS.more (by simp) (fun q hq => push_at hq)) hL
  rw [d4, hnx, hus, List.map_cons, show g_v G (.ref (p_nx h)) = g_rv G (p_nx h) from rfl, hrv] at K
  have t1 : p_nx h - p_nx h0 + 1 = p_nx h + 1 - p_nx h0 := by omega
  have t2 : p_us h - p_us h0 + n.toNatClampNeg = p_us h + n.toNatClampNeg - p_us h0 := by omega
  rw [t1, t2]
  exact K
theorem S_anewarray (hG : GOK G) {k1 : Nat} {n : Int32} (hi : (z_code k)[pc]? = some (.anewarray k1)) (hn : ¬ n < 0) (hcap : p_us h + n.toNatClampNeg ≤ p_CS) : STEP G l k pc ls (.int n :: r) h (pc + 1) ls (.ref (p_nx h) :: r) (p_new h k1 n.toNatClampNeg n.toNatClampNeg) := by
  intro d p e R s m args below meth c H locs lsm h0 Z C hR hS hL n0 u0 nc uc kk
  obtain ⟨q, len, d1, d2, d3⟩ := at_pc (Cx C) hi
  have d4 := d3.resolve_left (by intro h; cases h)
  obtain ⟨C1, C2, C3, C4, C5, C6, E, C8, C9⟩ := C
  cases q <;> first
    | exact absurd d2 (by intro h; cases h)
    | skip
  rename_i x
  have d2 := Bool.and_eq_true_iff.mp d2
  have e3 := Nat.eq_of_beq_eq_true d2.2
  subst e3
  obtain ⟨q, hq, h1⟩ := List.any_eq_true.mp d2.1
  simp only [Bool.and_eq_true] at h1
  obtain ⟨⟨e1, e2⟩, e3⟩ := h1
  have e1 := Nat.eq_of_beq_eq_true e1
  have e2 := Nat.eq_of_beq_eq_true e2
  have e3 := Nat.eq_of_beq_eq_true e3
  have h2 := List.all_eq_true.mp la_all q hq
  simp only [la_chk, Bool.and_eq_true, decide_eq_true_eq] at h2
  obtain ⟨a1, a2⟩ := h2
  have hover := E.2.2.2.2.1 q hq
  rw [e1, e2] at a1
  rw [e3] at a2 hover
  have hnx : p_nx (p_new h k1 n.toNatClampNeg n.toNatClampNeg) = p_nx h + 1 := rfl
  have hus : p_us (p_new h k1 n.toNatClampNeg n.toNatClampNeg) = p_us h + n.toNatClampNeg := rfl
  rw [hnx] at nc
  rw [hus] at uc
  have hbytes : n.toNatClampNeg * 4 ≤ 536870912 := by
    unfold p_CS at hcap
    omega
  have hmem : ∀ q ∈ z_la, k_new q.2.2.1 = true ∧ 100 ≤ q.2.2.1 ∧ p_kR q.2.2.1 = true := by decide +kernel
  have hm := hmem q hq
  rw [e3] at hm
  obtain ⟨y2, y3, y4⟩ := hm
  have fin : ∀ (t : FieldType) (cA : ClassId), z_ety k1 = some t → defaultValue t = .null → cA = g_A G k1 → W p l e R s m args below meth c (H.push { cls := cA, slots := Array.replicate n.toNatClampNeg .null, vm := .none }) locs (p_nx h - p_nx h0 + 1) (p_us h - p_us h0 + n.toNatClampNeg) Z (F0 m (n_pc (z_raw k) pc + 3) lsm (.ref H.size :: r.map (g_v G))) := by
    intro t cA y1 yd hcA
    obtain ⟨hR1, hrv⟩ := S_row (n := n) hG hR E y1 y2 y3 (fun j => by
      unfold g_e
      rw [new_kd, y4, new_rm]
      exact (g_rv0 hG).trans yd.symm) hcA
    rw [yd] at hR1
    have K := kk _ locs lsm hR1 (hS.more (by simp) (fun q hq => push_at hq)) hL
    rw [d4, hnx, hus, List.map_cons, show g_v G (.ref (p_nx h)) = g_rv G (p_nx h) from rfl, hrv] at K
    have t1 : p_nx h - p_nx h0 + 1 = p_nx h + 1 - p_nx h0 := by omega
    have t2 : p_us h - p_us h0 + n.toNatClampNeg = p_us h + n.toNatClampNeg - p_us h0 := by omega
    rw [t1, t2]
    exact K
  cases hz : z_ety k1 with
  | none => rw [hz] at a2; cases a2
  | some t =>
    rw [hz] at a2 hover
    have hRA := (E.2.1 k1 t hz).2.1
    cases t <;> first
      | exact absurd (show false = true from a2) Bool.false_ne_true
      | skip
    · rename_i C
      have a2 := of_decide_eq_true a2
      rw [← a2] at a1
      refine W.anew C1 C2 C5 (C6 _ (w_at a1 rfl)) hover rfl d1 rfl hn hbytes (by omega) (by omega) (fun cA kA comp f1 f2 f3 f4 => fin _ cA hz rfl ?_)
      obtain ⟨kA2, comp2, g1, g2, g3, g4⟩ := hRA
      exact Option.some.inj (f1.symm.trans g4)
    · rename_i t1
      have a2 := of_decide_eq_true a2
      rw [← a2] at a1
      refine W.anewA C1 C2 C5 (C6 _ (w_at a1 rfl)) hover rfl d1 rfl hn hbytes (by omega) (by omega) (fun cA kA comp f1 f2 f3 f4 => fin _ cA hz rfl ?_)
      exact Option.some.inj (f1.symm.trans hRA)
/-- the cell of a row of the run's own -/
theorem Rep.row {H : Heap} (hR : Rep G h H) {a : Nat} (ha : 1000 ≤ a) (hk : 100 ≤ p_kd h a) : H[g_ad G a]? = some (arrV (g_A G (p_kd h a)) (p_ln h a) (g_e G h a)) ∧ k_new (p_kd h a) = true := by
  have A := hR.cell (x := a) (by omega) ha
  unfold g_at at A
  rw [show Nat.ble 100 (p_kd h a) = true from Nat.ble_eq_true_of_le hk] at A
  exact ⟨A, hR.2.2.2.2.2.2 a ha (by omega)⟩
theorem vp_in_size {cA : ClassId} {n : Nat} {f : Nat → Value} {j : Int32} (h : p_in j n) : ¬ (j < 0 ∨ (arrV cA n f).slots.size ≤ j.toNatClampNeg) := by
  rw [arrV_size]
  exact p_in_vp h
theorem kI_new {k1 : Nat} (h1 : p_kI k1 = true) (h2 : k_new k1 = true) : k1 = 100 := by
  simp only [p_kI, Bool.and_eq_true] at h1
  have a1 := Nat.le_of_ble_eq_true h1.1
  have a2 := Nat.le_of_ble_eq_true h1.2
  simp only [k_new, Bool.or_eq_true, Bool.and_eq_true] at h2
  rcases h2 with (((((((⟨q1, q2⟩ | q) | q) | q) | q) | q) | q) | q) | q
  · have := Nat.le_of_ble_eq_true q2; omega
  all_goals (have := Nat.eq_of_beq_eq_true q; omega)
theorem kB_new {k1 : Nat} (h1 : p_kB k1 = true) (h2 : k_new k1 = true) : k1 = 120 := by
  simp only [p_kB, Bool.and_eq_true] at h1
  have a1 := Nat.le_of_ble_eq_true h1.1
  have a2 := Nat.le_of_ble_eq_true h1.2
  simp only [k_new, Bool.or_eq_true, Bool.and_eq_true] at h2
  rcases h2 with (((((((⟨q1, q2⟩ | q) | q) | q) | q) | q) | q) | q) | q
  · have := Nat.le_of_ble_eq_true q2; omega
  all_goals (have := Nat.eq_of_beq_eq_true q; omega)
theorem kR_new {k1 : Nat} (h1 : p_kR k1 = true) (h2 : k_new k1 = true) : k1 = 310 ∨ k1 = 312 ∨ k1 = 313 ∨ k1 = 314 ∨ k1 = 315 := by
  simp only [p_kR, Bool.and_eq_true] at h1
  have a1 := Nat.le_of_ble_eq_true h1.1
  have a2 := Nat.le_of_ble_eq_true h1.2
  simp only [k_new, Bool.or_eq_true, Bool.and_eq_true] at h2
  rcases h2 with (((((((⟨q1, q2⟩ | q) | q) | q) | q) | q) | q) | q) | q
  · have := Nat.le_of_ble_eq_true q2; omega
  all_goals (have := Nat.eq_of_beq_eq_true q; omega)
theorem g_e_c {H : Heap} (hR : Rep G h H) {a : Nat} (ha : a < 1000) (j : Nat) : g_e G (g_c G) a j = g_e G h a j := by
  obtain ⟨s1, s2, s3, s4⟩ := hR.2.2.2.2.2.1 a ha
  unfold g_e
  rw [s1, s3, s4]
theorem S_iaload (hG : GOK G) {a : Nat} {j : Int32} (hi : (z_code k)[pc]? = some .iaload) (hk : p_kI (p_kd h a) = true) (hj : p_in j (p_ln h a)) : STEP G l k pc ls (.int j :: .ref a :: r) h (pc + 1) ls (.int (p_im h a j.toNatClampNeg) :: r) h := by
  intro d p e R s m args below meth c H locs lsm h0 Z C hR hS hL n0 u0 nc uc kk
  obtain ⟨d1, d2⟩ := at1 (Cx C) hi rfl (fun _ _ => rel1)
  have K := kk H locs lsm hR hS hL
  rw [d2] at K
  obtain ⟨C1, C2, C3, C4, C5, C6, E, C8, C9⟩ := C
  have hk2 := hk
  simp only [p_kI, Bool.and_eq_true] at hk2
  have a1 := Nat.le_of_ble_eq_true hk2.1
  have a2 := Nat.le_of_ble_eq_true hk2.2
  have hkR : p_kR (p_kd h a) = false := by
    unfold p_kR
    cases hz : Nat.ble 310 (p_kd h a)
    · rfl
    · have := Nat.le_of_ble_eq_true hz; omega
  have hge : g_e G h a j.toNatClampNeg = .int (p_im h a j.toNatClampNeg) := by unfold g_e; rw [hkR]
  rw [List.map_cons, List.map_cons, show g_v G (.ref a) = g_rv G a from rfl, hR.rv hG (x := a) (by omega)]
  rcases Nat.lt_or_ge a 1000 with hlt | hge2
  · obtain ⟨s1, s2, s3, s4⟩ := hR.2.2.2.2.2.1 a hlt
    have hT := E.2.2.2.2.2.2.2.2.2.2.2.1 a hlt (by omega)
    rw [show z_cty (p_kd (g_c G) a) = .int by unfold z_cty; rw [← s1, hk]] at hT
    exact va_ti C1 C2 hT hS (p_in_vp (by rw [← s2]; exact hj)) ((g_e_c hR hlt _).trans hge) d1 K
  · obtain ⟨q1, q2⟩ := hR.row hge2 a1
    have h100 := kI_new hk q2
    have hO := (E.2.1 (p_kd h a) .int (by rw [h100]; rfl)).1
    exact W.iald (v := .int (p_im h a j.toNatClampNeg)) C1 C2 q1 (hO _ _) (by intro h; cases h) (vp_in_size hj) (by rw [arrV_read _ _ hj.2, hge]) rfl rfl d1 K
theorem S_baload (hG : GOK G) {a : Nat} {j : Int32} (hi : (z_code k)[pc]? = some .baload) (hk : p_kB (p_kd h a) = true ∨ p_kZ (p_kd h a) = true) (hj : p_in j (p_ln h a)) : STEP G l k pc ls (.int j :: .ref a :: r) h (pc + 1) ls (.int (p_im h a j.toNatClampNeg) :: r) h := by
  intro d p e R s m args below meth c H locs lsm h0 Z C hR hS hL n0 u0 nc uc kk
  obtain ⟨d1, d2⟩ := at1 (Cx C) hi rfl (fun _ _ => rel1)
  have K := kk H locs lsm hR hS hL
  rw [d2] at K
  obtain ⟨C1, C2, C3, C4, C5, C6, E, C8, C9⟩ := C
  have hk2 : 120 ≤ p_kd h a ∧ p_kd h a ≤ 300 := by
    rcases hk with hk | hk
    · simp only [p_kB, Bool.and_eq_true] at hk
      have a1 := Nat.le_of_ble_eq_true hk.1
      have a2 := Nat.le_of_ble_eq_true hk.2
      omega
    · have := Nat.eq_of_beq_eq_true hk
      omega
  have hkR : p_kR (p_kd h a) = false := by
    unfold p_kR
    cases hz : Nat.ble 310 (p_kd h a)
    · rfl
    · have := Nat.le_of_ble_eq_true hz; omega
  have hge : g_e G h a j.toNatClampNeg = .int (p_im h a j.toNatClampNeg) := by unfold g_e; rw [hkR]
  rw [List.map_cons, List.map_cons, show g_v G (.ref a) = g_rv G a from rfl, hR.rv hG (x := a) (by omega)]
  rcases Nat.lt_or_ge a 1000 with hlt | hge2
  · obtain ⟨s1, s2, s3, s4⟩ := hR.2.2.2.2.2.1 a hlt
    have hT := E.2.2.2.2.2.2.2.2.2.2.2.1 a hlt (by omega)
    have hkI : p_kI (p_kd h a) = false := by
      unfold p_kI
      cases hz : Nat.ble (p_kd h a) 119
      · simp
      · have := Nat.le_of_ble_eq_true hz; omega
    rcases hk with hk | hk
    · rw [show z_cty (p_kd (g_c G) a) = .byte by unfold z_cty; rw [← s1, hkI, hk]] at hT
      exact va_tb C1 C2 hT hS (p_in_vp (by rw [← s2]; exact hj)) ((g_e_c hR hlt _).trans hge) d1 K
    · have h9 := E.2.2.2.2.2.2.2.2.2.2.2.2.2 a hlt (by omega)
      rw [← s1, Nat.eq_of_beq_eq_true hk] at h9
      cases h9
  · obtain ⟨q1, q2⟩ := hR.row hge2 (by omega)
    rcases hk with hk | hk
    · have h100 := kB_new hk q2
      have hO := (E.2.1 (p_kd h a) .byte (by rw [h100]; rfl)).1
      exact W.bald (v := .int (p_im h a j.toNatClampNeg)) C1 C2 q1 (hO _ _) (by intro h; cases h) (vp_in_size hj) (by rw [arrV_read _ _ hj.2, hge]) rfl rfl d1 K
    · have h100 := Nat.eq_of_beq_eq_true hk
      have hO := (E.2.1 (p_kd h a) .boolean (by rw [h100]; rfl)).1
      exact W.zald (v := .int (p_im h a j.toNatClampNeg)) C1 C2 q1 (hO _ _) (by intro h; cases h) (vp_in_size hj) (by rw [arrV_read _ _ hj.2, hge]) rfl rfl d1 K
theorem S_aaload (hG : GOK G) {a : Nat} {j : Int32} (hi : (z_code k)[pc]? = some .aaload) (hk : p_kR (p_kd h a) = true) (hj : p_in j (p_ln h a)) : STEP G l k pc ls (.int j :: .ref a :: r) h (pc + 1) ls (.ref (p_rm h a j.toNatClampNeg) :: r) h := by
  intro d p e R s m args below meth c H locs lsm h0 Z C hR hS hL n0 u0 nc uc kk
  obtain ⟨d1, d2⟩ := at1 (Cx C) hi rfl (fun _ _ => rel1)
  have K := kk H locs lsm hR hS hL
  rw [d2] at K
  obtain ⟨C1, C2, C3, C4, C5, C6, E, C8, C9⟩ := C
  have hk2 := hk
  simp only [p_kR, Bool.and_eq_true] at hk2
  have a1 := Nat.le_of_ble_eq_true hk2.1
  have a2 := Nat.le_of_ble_eq_true hk2.2
  have hge : g_e G h a j.toNatClampNeg = g_v G (.ref (p_rm h a j.toNatClampNeg)) := by unfold g_e; rw [hk]; rfl
  rw [List.map_cons] at K
  rw [List.map_cons, List.map_cons, show g_v G (.ref a) = g_rv G a from rfl, hR.rv hG (x := a) (by omega)]
  rcases Nat.lt_or_ge a 1000 with hlt | hge2
  · obtain ⟨s1, s2, s3, s4⟩ := hR.2.2.2.2.2.1 a hlt
    have hT := E.2.2.2.2.2.2.2.2.2.2.2.1 a hlt (by omega)
    have hkI : p_kI (p_kd h a) = false := by
      unfold p_kI
      cases hz : Nat.ble (p_kd h a) 119
      · simp
      · have := Nat.le_of_ble_eq_true hz; omega
    have hkB : p_kB (p_kd h a) = false := by
      unfold p_kB
      cases hz : Nat.ble (p_kd h a) 299
      · simp
      · have := Nat.le_of_ble_eq_true hz; omega
    rw [show z_cty (p_kd (g_c G) a) = .object "ClauseDesk$Kind" by unfold z_cty; rw [← s1, hkI, hkB]] at hT
    exact vb_tq C1 C2 hT hS (p_in_vp (by rw [← s2]; exact hj)) ((g_e_c hR hlt _).trans hge) d1 K
  · obtain ⟨q1, q2⟩ := hR.row hge2 (by omega)
    have hty : ∃ t, z_ety (p_kd h a) = some t ∧ t.isReference = true := by
      rcases kR_new hk q2 with q | q | q | q | q <;> rw [q] <;> exact ⟨_, rfl, rfl⟩
    obtain ⟨t, ht, href⟩ := hty
    have hO := (E.2.1 (p_kd h a) t ht).1
    exact W.aald C1 C2 q1 (hO _ _) href (by intro h; cases h) (vp_in_size hj) (by rw [arrV_read _ _ hj.2, hge]) rfl rfl d1 K
end S6
