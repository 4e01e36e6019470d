/-! Objects and rows are made. -/
def lc_chk (q : Nat × Nat × Nat × Nat × Nat × Nat) : Bool := decide (w_all[q.2.2.2.1]? = some (Cond.classLink (z_cn q.1) q.2.1 (z_kn q.2.2.1))) && decide (w_all[q.2.2.2.2.1]? = some (Cond.instantiable (z_kn q.2.2.1) (z_sl q.2.2.1))) && decide (w_all[q.2.2.2.2.2]? = some (Cond.initialized (z_kn q.2.2.1))) && Nat.ble 1 q.2.2.1 && Nat.ble q.2.2.1 15
set_option maxRecDepth 100000 in
theorem lc_all : z_lc.all lc_chk = true := by decide +kernel
def la_chk (q : Nat × Nat × Nat × String × Nat) : Bool := decide (w_all[q.2.2.2.2]? = some (Cond.classLink (z_cn q.1) q.2.1 q.2.2.2.1)) && (match z_ety q.2.2.1 with
  | some (.object C) => decide (C = q.2.2.2.1)
  | some (.array t) => decide ((FieldType.array t).toString = q.2.2.2.1)
  | _ => false)
set_option maxRecDepth 100000 in
theorem la_all : z_la.all la_chk = true := by decide +kernel
set_option maxRecDepth 100000 in
theorem w_ac : (Cond.arrayClass .int ∈ w_all ∧ Cond.arrayClass .byte ∈ w_all) ∧ Cond.arrayClass .boolean ∈ w_all := by decide +kernel
theorem z_dflt {G : GG} (hG : GOK G) {h : PH} {k j a : Nat} {t : FieldType} (hf : z_fok k j = true) (ht : parseFieldDescriptor (z_T k j).2.2.1 = some t) (hk : p_kd h a = k) (hi : p_im h a j = 0) (hr : p_rm h a j = 0) : defaultValue t = g_f G h a j := by
  unfold g_f
  rw [hk]
  unfold z_fok at hf
  rw [ht] at hf
  cases hz : z_ft (100 * k + j) with
  | zero =>
    rw [hz] at hf
    show _ = g_rv G (p_rm h a j)
    rw [hr, g_rv0 hG]
    cases t <;> first
      | exact absurd hf (by decide)
      | rfl
  | succ z =>
    show _ = Value.int (p_im h a j)
    rw [hi]
    rw [hz] at hf
    cases z with
    | zero =>
      simp only [decide_eq_true_eq, Option.some.injEq] at hf
      subst hf; rfl
    | succ z =>
      simp only [Bool.or_eq_true, decide_eq_true_eq, Option.some.injEq] at hf
      rcases hf with rfl | rfl <;> rfl
theorem push_at {H : Heap} {c : Cell} {q : Nat} (h : q < H.size) : (H.push c)[q]? = H[q]? := by simp [Array.getElem?_push, Nat.ne_of_lt h]
theorem push_end {H : Heap} {c : Cell} : (H.push c)[H.size]? = some c := by simp
section S5
variable {G : GG} {l : Launch} {k pc : Nat} {ls : List Slot} {r : List Value} {h : PH}
theorem new_kd {k1 n u : Nat} : p_kd (p_new h k1 n u) (p_nx h) = k1 := by simp [p_new, p_kd]
theorem new_ln {k1 n u : Nat} : p_ln (p_new h k1 n u) (p_nx h) = n := by simp [p_new, p_ln]
theorem new_im {k1 n u j : Nat} : p_im (p_new h k1 n u) (p_nx h) j = 0 := by simp [p_new, p_im]
theorem new_rm {k1 n u j : Nat} : p_rm (p_new h k1 n u) (p_nx h) j = 0 := by simp [p_new, p_rm]
theorem new_o {k1 n u : Nat} : ∀ b, b ≠ p_nx h → p_kd (p_new h k1 n u) b = p_kd h b ∧ p_ln (p_new h k1 n u) b = p_ln h b ∧ (∀ j, p_im (p_new h k1 n u) b j = p_im h b j) ∧ ∀ j, p_rm (p_new h k1 n u) b j = p_rm h b j := by
  intro b hb
  simp [p_new, p_kd, p_ln, p_im, p_rm, hb]
theorem S_new (hG : GOK G) {c1 : Nat} (hi : (z_code k)[pc]? = some (.new c1)) : STEP G l k pc ls r h (pc + 1) ls (.ref (p_nx h) :: r) (p_new h c1 0 (z_sl c1)) := by
  intro d p e R s m args below meth c H locs lsm h0 Z C hR hS hL n0 u0 nc uc kk
  obtain ⟨q, len, d1, d2, d3⟩ := at_pc (Cx C) hi
  have d4 := d3.resolve_left (by intro h; cases h)
  obtain ⟨C1, C2, C3, C4, C5, C6, E, C8, C9⟩ := C
  cases q <;> first
    | exact absurd d2 (by intro h; cases h)
    | skip
  rename_i x
  have d2 := Bool.and_eq_true_iff.mp d2
  have e3 := Nat.eq_of_beq_eq_true d2.2
  subst e3
  obtain ⟨q, hq, h1⟩ := List.any_eq_true.mp d2.1
  simp only [Bool.and_eq_true] at h1
  obtain ⟨⟨e1, e2⟩, e3⟩ := h1
  have e1 := Nat.eq_of_beq_eq_true e1
  have e2 := Nat.eq_of_beq_eq_true e2
  have e3 := Nat.eq_of_beq_eq_true e3
  have h2 := List.all_eq_true.mp lc_all q hq
  simp only [lc_chk, Bool.and_eq_true, decide_eq_true_eq] at h2
  obtain ⟨⟨⟨⟨a1, a2⟩, a3⟩, a4⟩, a5⟩ := h2
  rw [e1, e2, e3] at a1
  rw [e3] at a2 a3 a4 a5
  have a4 := Nat.le_of_ble_eq_true a4
  have a5 := Nat.le_of_ble_eq_true a5
  have hKn := E.1 c1 a4 (by omega)
  have hsz := hR.1
  have hge := hR.2.1
  have hnx : p_nx (p_new h c1 0 (z_sl c1)) = p_nx h + 1 := rfl
  have hus : p_us (p_new h c1 0 (z_sl c1)) = p_us h + z_sl c1 := rfl
  rw [hnx] at nc
  rw [hus] at uc
  refine W.newcK C1 C2 C5 (C6 _ (w_at a1 rfl)) (C6 _ (w_at a2 rfl)) (C6 _ (w_at a3 rfl)) rfl d1 (by omega) (by omega) hKn.2.1 rfl fun H1 kC hkC g1 z1 o1 => ?_
  have had := hG.2.2.1 (p_nx h) hge
  have hae : g_ad G (p_nx h) = H.size := by omega
  have hb : Nat.ble 100 c1 = false := by
    cases hz : Nat.ble 100 c1
    · rfl
    · have := Nat.le_of_ble_eq_true hz; omega
  have hR1 : Rep G (p_new h c1 0 (z_sl c1)) H1 := by
    refine hR.push hG hnx new_o (by omega) o1 ?_ ?_ ?_
    · unfold g_at
      rw [new_kd, hb, hae]
      exact (u_born (fun j => (parseFieldDescriptor (z_T c1 j).2.2.1).getD .int) C6 (lays_in a4 a5) hKn hkC g1 (fun j hj => by
        obtain ⟨t, ht⟩ := z_some (z_ty a4 a5 hj)
        rw [ht]; rfl)).to (fun j hj => by
        obtain ⟨t, ht⟩ := z_some (z_ty a4 a5 hj)
        show defaultValue ((parseFieldDescriptor (z_T c1 j).2.2.1).getD .int) = _
        rw [ht]
        exact z_dflt hG (z_ty a4 a5 hj) ht new_kd new_im new_rm)
    · intro hB
      rw [new_kd] at hB
      unfold p_kB at hB
      simp only [Bool.and_eq_true] at hB
      have := Nat.le_of_ble_eq_true hB.1
      omega
    · rw [new_kd]
      unfold k_new
      rw [show Nat.ble 1 c1 = true from Nat.ble_eq_true_of_le a4, show Nat.ble c1 15 = true from Nat.ble_eq_true_of_le a5]
      rfl
  have K := kk H1 locs lsm hR1 (hS.more (by omega) o1) hL
  rw [d4, hnx, hus] at K
  rw [List.map_cons, show g_v G (.ref (p_nx h)) = g_rv G (p_nx h) from rfl, hR1.rv hG (by rw [new_kd]; omega), hae] at K
  have t1 : p_nx h - p_nx h0 + 1 = p_nx h + 1 - p_nx h0 := by omega
  have t2 : p_us h - p_us h0 + z_sl c1 = p_us h + z_sl c1 - p_us h0 := by omega
  rw [t1, t2]
  exact K
/-- a row is made -/
theorem S_row (hG : GOK G) {n : Int32} {k1 : Nat} {t : FieldType} {H : Heap} {s : State} {cA : ClassId} (hR : Rep G h H) (E : EnvG G s) (hk : z_ety k1 = some t) (hk1 : k_new k1 = true) (hk2 : 100 ≤ k1) (hd : ∀ j, g_e G (p_new h k1 n.toNatClampNeg n.toNatClampNeg) (p_nx h) j = defaultValue t) (hcA : cA = g_A G k1) :
    Rep G (p_new h k1 n.toNatClampNeg n.toNatClampNeg) (H.push { cls := cA, slots := Array.replicate n.toNatClampNeg (defaultValue t), vm := .none }) ∧ g_rv G (p_nx h) = .ref H.size := by
  have hsz := hR.1
  have hge := hR.2.1
  have had := hG.2.2.1 (p_nx h) hge
  have hae : g_ad G (p_nx h) = H.size := by omega
  refine ⟨?_, ?_⟩
  · refine hR.push hG rfl new_o (by simp) (fun q hq => push_at hq) ?_ ?_ ?_
    · unfold g_at
      rw [new_kd, show Nat.ble 100 k1 = true from Nat.ble_eq_true_of_le hk2, hae]
      show _ = some (arrV _ _ _)
      rw [push_end, hcA, arrV_new, new_ln]
      congr 2
      funext j
      exact (hd j).symm
    · intro hB j hj
      rw [new_im]
      decide
    · rw [new_kd]; exact hk1
  · rw [g_rvr hG (by omega) (by omega), hae]
end S5
