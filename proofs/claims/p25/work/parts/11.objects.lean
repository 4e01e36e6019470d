/-! Objects: fields read and written, objects made. -/
def z_fok (k j : Nat) : Bool := match z_ft (100 * k + j) with
  | 0 => (match parseFieldDescriptor (z_T k j).2.2.1 with
    | some (.object _) => true
    | some (.array _) => true
    | _ => false)
  | 1 => decide (parseFieldDescriptor (z_T k j).2.2.1 = some .int)
  | _ => decide (parseFieldDescriptor (z_T k j).2.2.1 = some .boolean) || decide (parseFieldDescriptor (z_T k j).2.2.1 = some .byte)
def lf_chk (q : Nat × Nat × Nat × Nat) : Bool := decide (w_all[q.2.2.2]? = some (Cond.fieldLink (z_cn q.1) q.2.1 (z_T (q.2.2.1 / 100) (q.2.2.1 % 100)).1 (z_T (q.2.2.1 / 100) (q.2.2.1 % 100)).2.1 (z_T (q.2.2.1 / 100) (q.2.2.1 % 100)).2.2.1)) && Nat.ble 1 (q.2.2.1 / 100) && Nat.ble (q.2.2.1 / 100) 16 && Nat.blt (q.2.2.1 % 100) (z_nf (q.2.2.1 / 100))
set_option maxRecDepth 100000 in
theorem lf_all : z_lf.all lf_chk = true := by decide +kernel
set_option maxRecDepth 100000 in
theorem fok_all : (List.range' 1 15).all (fun k => (List.range (z_nf k)).all (z_fok k)) = true := by decide +kernel
set_option maxRecDepth 100000 in
theorem nm_all : (List.range' 1 15).all (fun k => (List.range (z_nf k)).all (fun a => (List.range (z_nf k)).all (fun b => Nat.beq a b || !decide ((z_T k a).2.1 = (z_T k b).2.1)))) = true := by decide +kernel
def lp_chk (k : Nat) : Bool := Nat.beq (z_lp.getD (k - 1) []).length (z_nf k) && (List.range (z_nf k)).all (fun j => decide (w_all[(z_lp.getD (k - 1) []).getD j 0]? = some (u_lay (z_kn k) (z_T k) j)) && goodWord (u_lay (z_kn k) (z_T k) j))
set_option maxRecDepth 100000 in
theorem lp_all : (List.range' 1 15).all lp_chk = true := by decide +kernel
def fin_chk (k : Nat) : Bool := (z_code k).all (fun i => match i with
  | .putfield n => !(z_T (n / 100) (n % 100)).2.2.2 || (z_ini k && decide (z_cn (z_ow k) = (z_T (n / 100) (n % 100)).1))
  | _ => true)
set_option maxRecDepth 100000 in
theorem fin_all : (List.range 190).all fin_chk = true := by decide +kernel
theorem lays_in {k : Nat} (h1 : 1 ≤ k) (h2 : k ≤ 15) : ∀ w ∈ u_ws (z_kn k) (z_T k) (z_nf k), w ∈ w_g := by
  intro w hw
  have h := List.all_eq_true.mp lp_all k (List.mem_range'.mpr ⟨k - 1, by omega, by omega⟩)
  simp only [lp_chk, Bool.and_eq_true] at h
  obtain ⟨j, hj, rfl⟩ := List.mem_map.mp hw
  have h3 := List.all_eq_true.mp h.2 j hj
  simp only [Bool.and_eq_true, decide_eq_true_eq] at h3
  exact w_at h3.1 h3.2
theorem z_ty {k j : Nat} (h1 : 1 ≤ k) (h2 : k ≤ 15) (hj : j < z_nf k) : z_fok k j = true := by
  have h := List.all_eq_true.mp fok_all k (List.mem_range'.mpr ⟨k - 1, by omega, by omega⟩)
  exact List.all_eq_true.mp h j (List.mem_range.mpr hj)
theorem z_some {k j : Nat} (h : z_fok k j = true) : ∃ t, parseFieldDescriptor (z_T k j).2.2.1 = some t := by
  unfold z_fok at h
  cases hp : parseFieldDescriptor (z_T k j).2.2.1 with
  | some t => exact ⟨t, rfl⟩
  | none =>
    rw [hp] at h
    split at h
    · cases h
    · simp at h
    · simp at h
theorem z_names {k a b : Nat} (h1 : 1 ≤ k) (h2 : k ≤ 15) (ha : a < z_nf k) (hb : b < z_nf k) (hne : a ≠ b) : (z_T k a).2.1 ≠ (z_T k b).2.1 := by
  have h := List.all_eq_true.mp nm_all k (List.mem_range'.mpr ⟨k - 1, by omega, by omega⟩)
  have h := List.all_eq_true.mp (List.all_eq_true.mp h a (List.mem_range.mpr ha)) b (List.mem_range.mpr hb)
  simp only [Bool.or_eq_true, Bool.not_eq_true', decide_eq_false_iff_not] at h
  rcases h with h | h
  · exact absurd (Nat.eq_of_beq_eq_true h) hne
  · exact h
theorem g_at.kept {G : GG} {h h1 : PH} {H H1 : Heap} {b : Nat} (hk : p_kd h1 b = p_kd h b) (hl : p_ln h1 b = p_ln h b) (hi : ∀ j, p_im h1 b j = p_im h b j) (hr : ∀ j, p_rm h1 b j = p_rm h b j) (hq : H1[g_ad G b]? = H[g_ad G b]?) (A : g_at G h b H) : g_at G h1 b H1 := by
  have e0 : ∀ t j, f_get t h1 b j = f_get t h b j := by
    intro t j
    unfold f_get
    split
    · rw [hr]
    · rw [hi]
  have e1 : g_f G h1 b = g_f G h b := by
    funext j
    unfold g_f
    rw [hk, e0]
  have e2 : g_e G h1 b = g_e G h b := by
    funext j
    unfold g_e
    rw [hk, hr, hi]
  unfold g_at at A ⊢
  rw [hk, hl, e1, e2]
  cases hb : Nat.ble 100 (p_kd h b)
  · rw [hb] at A; exact A.kept hq
  · rw [hb] at A; exact hq.trans A
theorem g_ad_ne {G : GG} (hG : GOK G) {a b : Nat} (ha : 1000 ≤ a) (hb : 1000 ≤ b) (hne : b ≠ a) : g_ad G b ≠ g_ad G a := by
  have h1 := hG.2.2.1 a ha
  have h2 := hG.2.2.1 b hb
  omega
/-- one object or row of the run's own has changed -/
theorem Rep.put {G : GG} (hG : GOK G) {h h1 : PH} {H H1 : Heap} {a : Nat} (R : Rep G h H) (ha : 1000 ≤ a) (hn : p_nx h1 = p_nx h) (hk : p_kd h1 = p_kd h) (hl : p_ln h1 = p_ln h) (ho : ∀ b, b ≠ a → (∀ j, p_im h1 b j = p_im h b j) ∧ ∀ j, p_rm h1 b j = p_rm h b j)
    (hz : H1.size = H.size) (oq : ∀ q, q ≠ g_ad G a → H1[q]? = H[q]?) (hc : g_at G h1 a H1) (hb : p_kB (p_kd h a) = true → ∀ j, j < p_ln h a → fits .byte (.int (p_im h1 a j)) = true) : Rep G h1 H1 := by
  obtain ⟨r1, r2, r3, r4, r5, r6, r7⟩ := R
  refine ⟨by rw [hz, hn]; exact r1, by rw [hn]; exact r2, fun b hb => by rw [hk]; exact r3 b (by rw [← hn]; exact hb), fun b h1 h2 h3 => ?_, fun b j h1 h2 => ?_, fun b hb => ?_, fun b hb hb1 => by rw [hk] at hb1 ⊢; exact r7 b hb hb1⟩
  · by_cases hba : b = a
    · subst hba; exact hc
    · rw [hn] at h2
      rw [hk] at h3
      exact (r4 b h1 h2 h3).kept (by rw [hk]) (by rw [hl]) (ho b hba).1 (ho b hba).2 (oq _ (g_ad_ne hG ha h1 hba))
  · rw [hk] at h1
    rw [hl] at h2
    by_cases hba : b = a
    · subst hba; exact hb h1 j h2
    · rw [(ho b hba).1 j]; exact r5 b j h1 h2
  · obtain ⟨s1, s2, s3, s4⟩ := r6 b hb
    have hba : b ≠ a := by omega
    exact ⟨by rw [hk]; exact s1, by rw [hl]; exact s2, fun j => by rw [(ho b hba).1 j]; exact s3 j, fun j => by rw [(ho b hba).2 j]; exact s4 j⟩
/-- one more -/
theorem Rep.push {G : GG} (hG : GOK G) {h h1 : PH} {H H1 : Heap} (R : Rep G h H) (hn : p_nx h1 = p_nx h + 1) (ho : ∀ b, b ≠ p_nx h → p_kd h1 b = p_kd h b ∧ p_ln h1 b = p_ln h b ∧ (∀ j, p_im h1 b j = p_im h b j) ∧ ∀ j, p_rm h1 b j = p_rm h b j)
    (hz : H1.size = H.size + 1) (oq : ∀ q, q < H.size → H1[q]? = H[q]?) (hc : g_at G h1 (p_nx h) H1) (hb : p_kB (p_kd h1 (p_nx h)) = true → ∀ j, j < p_ln h1 (p_nx h) → fits .byte (.int (p_im h1 (p_nx h) j)) = true) (he : k_new (p_kd h1 (p_nx h)) = true) : Rep G h1 H1 := by
  obtain ⟨r1, r2, r3, r4, r5, r6, r7⟩ := R
  refine ⟨by omega, by omega, fun b hb => ?_, fun b h1 h2 h3 => ?_, fun b j h1 h2 => ?_, fun b hb => ?_, fun b hb hb1 => ?_⟩
  · rw [(ho b (by omega)).1]; exact r3 b (by omega)
  · by_cases hba : b = p_nx h
    · subst hba; exact hc
    · obtain ⟨o1, o2, o3, o4⟩ := ho b hba
      rw [o1] at h3
      have had := hG.2.2.1 b h1
      exact (r4 b h1 (by omega) h3).kept o1 o2 o3 o4 (oq _ (by omega))
  · by_cases hba : b = p_nx h
    · subst hba; exact hb h1 j h2
    · obtain ⟨o1, o2, o3, o4⟩ := ho b hba
      rw [o1] at h1
      rw [o2] at h2
      rw [o3]; exact r5 b j h1 h2
  · obtain ⟨s1, s2, s3, s4⟩ := r6 b hb
    obtain ⟨o1, o2, o3, o4⟩ := ho b (by omega)
    exact ⟨o1.trans s1, o2.trans s2, fun j => (o3 j).trans (s3 j), fun j => (o4 j).trans (s4 j)⟩
  · by_cases hba : b = p_nx h
    · subst hba; exact he
    · rw [(ho b hba).1] at hb1 ⊢; exact r7 b hb hb1
theorem va_S.more {A : Nat → Prop} {H0 H H1 : Heap} {locs : List Loc} (h : va_S A H0 H locs) (z : H.size ≤ H1.size) (oq : ∀ q, q < H.size → H1[q]? = H[q]?) : va_S A H0 H1 locs :=
  ⟨Nat.le_trans h.1 z, fun q h1 h2 => (oq q (Nat.lt_of_lt_of_le h1 h.1)).trans (h.2.1 q h1 h2), h.2.2⟩
theorem g_free {G : GG} (hG : GOK G) {a : Nat} (ha : 1000 ≤ a) : g_F G (g_ad G a) := by
  have := hG.2.2.1 a ha
  show g_sz G ≤ _
  omega
theorem lf_use {o x n : Nat} (h : z_lf.any (fun q => Nat.beq q.1 o && Nat.beq q.2.1 x && Nat.beq q.2.2.1 n) = true) : Cond.fieldLink (z_cn o) x (z_T (n / 100) (n % 100)).1 (z_T (n / 100) (n % 100)).2.1 (z_T (n / 100) (n % 100)).2.2.1 ∈ w_g ∧ 1 ≤ n / 100 ∧ n / 100 ≤ 16 ∧ n % 100 < z_nf (n / 100) := by
  obtain ⟨q, hq, h1⟩ := List.any_eq_true.mp h
  simp only [Bool.and_eq_true] at h1
  obtain ⟨⟨e1, e2⟩, e3⟩ := h1
  have e1 := Nat.eq_of_beq_eq_true e1
  have e2 := Nat.eq_of_beq_eq_true e2
  have e3 := Nat.eq_of_beq_eq_true e3
  have h2 := List.all_eq_true.mp lf_all q hq
  simp only [lf_chk, Bool.and_eq_true, decide_eq_true_eq] at h2
  obtain ⟨⟨⟨a1, a2⟩, a3⟩, a4⟩ := h2
  rw [e1, e2, e3] at a1
  rw [e3] at a2 a3 a4
  exact ⟨w_at a1 rfl, Nat.le_of_ble_eq_true a2, Nat.le_of_ble_eq_true a3, Nat.le_of_ble_eq_true (n := n % 100 + 1) a4⟩
section S4
variable {G : GG} {l : Launch} {k pc : Nat} {ls : List Slot} {r : List Value} {h : PH}
theorem at_getf {n : Nat} (hk : k < 190) (hi : (z_code k)[pc]? = some (.getfield n)) : ∃ x, decode (z_b k) (n_pc (z_raw k) pc) = .ok (.getfield x, 3) ∧ z_lf.any (fun q => Nat.beq q.1 (z_ow k) && Nat.beq q.2.1 x && Nat.beq q.2.2.1 n) = true ∧ n_pc (z_raw k) (pc + 1) = n_pc (z_raw k) pc + 3 := by
  obtain ⟨q, len, d1, d2, d3⟩ := at_pc hk hi
  have d3 := d3.resolve_left (by intro h; cases h)
  cases q <;> first
    | exact absurd d2 (by intro h; cases h)
    | skip
  rename_i x
  have d2 := Bool.and_eq_true_iff.mp d2
  have e3 := Nat.eq_of_beq_eq_true d2.2
  subst e3
  exact ⟨x, d1, d2.1, d3⟩
theorem at_putf {n : Nat} (hk : k < 190) (hi : (z_code k)[pc]? = some (.putfield n)) : ∃ x, decode (z_b k) (n_pc (z_raw k) pc) = .ok (.putfield x, 3) ∧ z_lf.any (fun q => Nat.beq q.1 (z_ow k) && Nat.beq q.2.1 x && Nat.beq q.2.2.1 n) = true ∧ n_pc (z_raw k) (pc + 1) = n_pc (z_raw k) pc + 3 := by
  obtain ⟨q, len, d1, d2, d3⟩ := at_pc hk hi
  have d3 := d3.resolve_left (by intro h; cases h)
  cases q <;> first
    | exact absurd d2 (by intro h; cases h)
    | skip
  rename_i x
  have d2 := Bool.and_eq_true_iff.mp d2
  have e3 := Nat.eq_of_beq_eq_true d2.2
  subst e3
  exact ⟨x, d1, d2.1, d3⟩
theorem S_getfield (hG : GOK G) {n x : Nat} (hi : (z_code k)[pc]? = some (.getfield n)) (hx : p_kd h x = n / 100) (h0 : ¬ x = 0) : STEP G l k pc ls (.ref x :: r) h (pc + 1) ls (f_get (z_ft n) h x (n % 100) :: r) h := by
  intro d p e R s m args below meth c H locs lsm h0 Z C hR hS hL n0 u0 nc uc kk
  obtain ⟨ix, d1, d2, d3⟩ := at_getf (Cx C) hi
  obtain ⟨w1, w2, w3, w4⟩ := lf_use d2
  have K := kk H locs lsm hR hS hL
  rw [d3] at K
  obtain ⟨C1, C2, C3, C4, C5, C6, E, C8, C9⟩ := C
  have hkd : p_kd h x ≠ 0 := by omega
  have hn : 100 * (n / 100) + n % 100 = n := Nat.div_add_mod n 100
  rw [List.map_cons, show g_v G (.ref x) = g_rv G x from rfl, hR.rv hG hkd]
  rw [List.map_cons] at K
  rcases Nat.lt_or_ge x 1000 with hlt | hge
  · obtain ⟨s1, s2, s3, s4⟩ := hR.2.2.2.2.2.1 x hlt
    obtain ⟨-, -, -, -, -, -, -, -, -, E10, E11, -⟩ := E
    have hkc : p_kd (g_c G) x = n / 100 := by rw [← s1]; exact hx
    have h14 := (E11 x hlt (by omega)).imp_right (fun q => q.resolve_right (by omega))
    have hE := (E10 x hlt h14).2 (n % 100) (by rw [hkc]; exact w4)
    rw [hkc] at hE
    refine vk_getf C1 C2 hE hS C5 (C6 _ w1) (fun _ q => q) d1 ?_
    have e1 : g_f G (g_c G) x (n % 100) = g_v G (f_get (z_ft n) h x (n % 100)) := by
      unfold g_f
      rw [hkc, hn]
      congr 1
      unfold f_get
      split
      · rw [s4]
      · rw [s3]
    rw [e1]
    exact K
  · have h16 : n / 100 ≠ 16 := fun q => absurd (hR.enum x (by rw [hx]; exact q)) (by omega)
    have A := hR.cell hkd hge
    unfold g_at at A
    have hb : Nat.ble 100 (p_kd h x) = false := by
      rw [hx]
      cases hz : Nat.ble 100 (n / 100)
      · rfl
      · have := Nat.le_of_ble_eq_true hz; omega
    rw [hb, hx] at A
    obtain ⟨cell, q1, q2, q3, q4⟩ := A
    obtain ⟨hS1, hfc, kC, hkC, hkind⟩ := E.1 (n / 100) w2 (by omega)
    obtain ⟨cf, kf, fi, f, hif, hsl⟩ := hS1 (n % 100) w4
    refine W.getf C1 C2 C5 (C6 _ w1) hif (u_facts hfc hkC (u_lays C6 (lays_in w2 (by omega)) w4) hif).1 q1 (by rw [q3]; exact fun h => by cases h) (v := g_v G (f_get (z_ft n) h x (n % 100))) ?_ rfl rfl d1 K
    rw [hsl, q4 _ w4]
    unfold g_f
    rw [hx, hn]
end S4
theorem z_apart {G : GG} {s : State} {args : Array Value} (hts : ∀ w ∈ w_g, w.before args s = true) (E : EnvG G s) {k : Nat} (h1 : 1 ≤ k) (h2 : k ≤ 15) : ∀ a b, a < z_nf k → b < z_nf k → a ≠ b → (g_D G).2 (k - 1) a ≠ (g_D G).2 (k - 1) b := by
  intro a b ha hb hne
  obtain ⟨hS, -⟩ := E.1 k h1 (by omega)
  obtain ⟨_, _, _, fa, hia, ea⟩ := hS a ha
  obtain ⟨_, _, _, fb, hib, eb⟩ := hS b hb
  rw [← ea, ← eb]
  obtain ⟨ta, pa⟩ := z_some (z_ty h1 h2 ha)
  obtain ⟨tb, pb⟩ := z_some (z_ty h1 h2 hb)
  refine u_apart (u_lays hts (lays_in h1 h2) ha) (u_lays hts (lays_in h1 h2) hb) hia hib ?_
  rw [(State.fieldFound?_type hia pa).1, (State.fieldFound?_type hib pb).1]
  exact z_names h1 h2 ha hb hne
/-- what fits a field -/
def v_fit (t : Nat) (v : Value) : Prop := match t with
  | 0 => v = .null ∨ ∃ a, v = .ref a
  | 1 => ∃ x, v = .int x
  | _ => v = .int 0 ∨ v = .int 1
theorem v_fits {k j : Nat} {v : Value} (h : z_fok k j = true) (hv : v_fit (z_ft (100 * k + j)) v) : ∃ t, parseFieldDescriptor (z_T k j).2.2.1 = some t ∧ narrow t v = v ∧ fits t v = true := by
  unfold z_fok at h
  cases hp : parseFieldDescriptor (z_T k j).2.2.1 with
  | none => obtain ⟨t, ht⟩ := z_some (k := k) (j := j) h; rw [hp] at ht; cases ht
  | some t =>
    refine ⟨t, rfl, ?_⟩
    rw [hp] at h
    cases hz : z_ft (100 * k + j) with
    | zero =>
      rw [hz] at h hv
      cases t <;> first
        | exact absurd h (by decide)
        | (rcases hv with rfl | ⟨a, rfl⟩ <;> exact ⟨rfl, rfl⟩)
    | succ z =>
      cases z with
      | zero =>
        rw [hz] at h hv
        simp only [decide_eq_true_eq, Option.some.injEq] at h
        subst h
        obtain ⟨x, rfl⟩ := hv
        exact ⟨rfl, rfl⟩
      | succ z =>
        rw [hz] at h hv
        simp only [Bool.or_eq_true, decide_eq_true_eq, Option.some.injEq] at h
        rcases h with rfl | rfl <;> rcases hv with rfl | rfl <;> exact ⟨by decide, by decide⟩
/-- a field is written: the picture h1 has v there, and else nothing new -/
theorem S_put {G : GG} {l : Launch} {k pc : Nat} {ls : List Slot} {r : List Value} {h : PH} (hG : GOK G) {n x : Nat} {v : Value} {h1 : PH} (hi : (z_code k)[pc]? = some (.putfield n)) (hx : p_kd h x = n / 100) (h0x : 1000 ≤ x) (hv : v_fit (z_ft n) (g_v G v)) (hn : p_nx h1 = p_nx h) (hu : p_us h1 = p_us h) (hk : p_kd h1 = p_kd h) (hl : p_ln h1 = p_ln h)
    (ho : ∀ b, b ≠ x → (∀ j, p_im h1 b j = p_im h b j) ∧ ∀ j, p_rm h1 b j = p_rm h b j) (hf : ∀ j, g_f G h1 x j = if j = n % 100 then g_v G v else g_f G h x j) : STEP G l k pc ls (v :: .ref x :: r) h (pc + 1) ls r h1 := by
  intro d p e R s m args below meth c H locs lsm h0 Z C hR hS hL n0 u0 nc uc kk
  obtain ⟨ix, d1, d2, d3⟩ := at_putf (Cx C) hi
  have hk190 := Cx C
  obtain ⟨w1, w2, w3, w4⟩ := lf_use d2
  obtain ⟨C1, C2, C3, C4, C5, C6, E, C8, C9⟩ := C
  have hkd : p_kd h x ≠ 0 := by omega
  have hn100 : 100 * (n / 100) + n % 100 = n := Nat.div_add_mod n 100
  have h16 : n / 100 ≠ 16 := fun q => absurd (hR.enum x (by rw [hx]; exact q)) (by omega)
  have w3 : n / 100 ≤ 15 := by omega
  rw [List.map_cons, List.map_cons, show g_v G (.ref x) = g_rv G x from rfl, hR.rv hG hkd]
  have A := hR.cell hkd h0x
  unfold g_at at A
  have hb : Nat.ble 100 (p_kd h x) = false := by
    rw [hx]
    cases hz : Nat.ble 100 (n / 100)
    · rfl
    · have := Nat.le_of_ble_eq_true hz; omega
  rw [hb, hx] at A
  obtain ⟨cell, q1, q2, q3, q4⟩ := A
  obtain ⟨hS1, hfc, kC, hkC, hkind⟩ := E.1 (n / 100) w2 (by omega)
  obtain ⟨cf, kf, fi, f, hif, hsl⟩ := hS1 (n % 100) w4
  have hap := z_apart C6 E w2 w3
  have hst := (u_facts hfc hkC (u_lays C6 (lays_in w2 w3) w4) hif).1
  obtain ⟨t, ht, ht1, ht2⟩ := v_fits (z_ty w2 w3 w4) (by rw [hn100]; exact hv)
  have hlay := C6 _ (lays_in w2 w3 _ (u_in_lay w4))
  have fin : ∀ H' : Heap, H'[g_ad G x]? = some (cell.setSlot f.slot (g_v G v)) → H'.size = H.size → (∀ q, q ≠ g_ad G x → H'[q]? = H[q]?) → W p l e R s m args below meth c H' (locs ++ [⟨g_ad G x, f.slot⟩]) (p_nx h - p_nx h0) (p_us h - p_us h0) Z (F0 m (n_pc (z_raw k) pc + 3) lsm (r.map (g_v G))) := by
    intro H' e1 e2 e3
    have hR1 : Rep G h1 H' := by
      refine hR.put hG h0x hn hk hl ho e2 e3 ?_ ?_
      · unfold g_at
        rw [hk, hb, hx]
        rw [hsl] at e1
        exact t_OB.to (V := updV (g_f G h x) (n % 100) (g_v G v)) ⟨_, e1, q2, q3, t_set q4 hap w4 (g_v G v)⟩ (fun j _ => (hf j).symm)
      · intro hB
        rw [hx] at hB
        unfold p_kB at hB
        simp only [Bool.and_eq_true] at hB
        have := Nat.le_of_ble_eq_true hB.1
        omega
    have K := kk H' (locs ++ [⟨g_ad G x, f.slot⟩]) lsm hR1 (hS.put e2 e3 (g_free hG h0x)) hL
    rw [d3, hn, hu] at K
    exact K
  cases hfl : (z_T (n / 100) (n % 100)).2.2.2 with
  | false =>
    unfold u_lay at hlay
    rw [if_neg (by rw [hfl]; decide)] at hlay
    have h6 := u_store hfc hkC hkind hlay hif ht ht1 ht2
    exact W.putK C1 C2 (f := f) ⟨C5, C6 _ w1, ⟨_, _, _, hif⟩, hst⟩ (by rw [q2]; exact h6) q1 q3 (by rw [hsl]; exact k2_hasslot (q4 _ w4)) rfl rfl d1 fin
  | true =>
    have hfk := List.all_eq_true.mp (List.all_eq_true.mp fin_all k (List.mem_range.mpr hk190)) _ (List.mem_of_getElem? hi)
    simp only [hfl, Bool.not_true, Bool.false_or, Bool.and_eq_true, decide_eq_true_eq] at hfk
    unfold u_lay at hlay
    rw [if_pos hfl] at hlay
    have hcf : m.cls = cf := by
      obtain ⟨_, _, c', _, _, _, -, -, hf', -, -, -, hown2, -⟩ := Cond.laysFinal_spec hlay
      have e1 : c' = cf := by have := hif.symm.trans hf'; simp at this; exact this.1.symm
      rw [← hfk.2] at hown2
      rw [← e1]; exact Option.some.inj (C5.symm.trans hown2)
    have h6 := u_fits hfc hkC hkind (Or.inr hlay) hif ht ht1 ht2
    exact W.putFinK C1 C2 C5 (C6 _ w1) hif hst hcf (C8 hfk.1) (by rw [q2]; exact h6) q1 q3 (by rw [hsl]; exact k2_hasslot (q4 _ w4)) rfl rfl d1 fin
