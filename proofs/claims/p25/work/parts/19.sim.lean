/-! THE RUN OF THE PICTURE IS A RUN OF THE MACHINE. -/
def MR (G : GG) (l : Launch) : Wp := fun d k pc ls st h Q => k < 190 → ∃ (v : Option Value) (h2 : PH), Q v h2 ∧ p_nx h ≤ p_nx h2 ∧ p_us h ≤ p_us h2 ∧ MRun G l d k pc ls st h v h2
theorem MR.step {G : GG} {l : Launch} {d k pc : Nat} {ls : List Slot} {st : List Value} {h : PH} {pc1 : Nat} {ls1 : List Slot} {st1 : List Value} {h1 : PH} {Q : Option Value → PH → Prop}
    (K : MR G l d k pc1 (l_kl k pc1 ls1) st1 h1 Q) (S : k < 190 → STEP G l k pc ls st h pc1 ls1 st1 h1) (hn : p_nx h ≤ p_nx h1) (hu : p_us h ≤ p_us h1) : MR G l d k pc ls st h Q := by
  intro hk
  obtain ⟨v, h2, hQ, n2, u2, K⟩ := K hk
  refine ⟨v, h2, hQ, Nat.le_trans hn n2, Nat.le_trans hu u2, ?_⟩
  intro p e R s m args below meth c H locs lsm h0 Z C hR hS hL n0 u0 nc uc hret
  exact S hk d p e R s m args below meth c H locs lsm h0 Z C hR hS hL n0 u0 (by omega) (by omega) (fun H1 locs1 lsm1 hR1 hS1 hL1 => K p e R s m args below meth c H1 locs1 lsm1 h0 Z C hR1 hS1 (hL1.kl k pc1) (by omega) (by omega) nc uc hret)
theorem MR.same {G : GG} {l : Launch} {d k pc : Nat} {ls : List Slot} {st : List Value} {h : PH} {pc1 : Nat} {ls1 : List Slot} {st1 : List Value} {Q : Option Value → PH → Prop}
    (K : MR G l d k pc1 (l_kl k pc1 ls1) st1 h Q) (S : k < 190 → STEP G l k pc ls st h pc1 ls1 st1 h) : MR G l d k pc ls st h Q := K.step S (Nat.le_refl _) (Nat.le_refl _)
/-- the types of what is answered -/
def rt_chk (k : Nat) : Bool := (z_code k).all (fun i => match i with
  | .ireturn => (match z_nr k with
    | 0 => decide (z_ret k = some .int)
    | 1 => decide (z_ret k = some .boolean)
    | 2 => decide (z_ret k = some .char)
    | _ => decide (z_ret k = some .byte))
  | .areturn => Nat.beq (z_nr k) 0 && (match z_ret k with
    | some (.object _) => true
    | some (.array _) => true
    | _ => false)
  | .dreturn => Nat.beq (z_nr k) 0 && decide (z_ret k = some .double)
  | .return_ => Nat.beq (z_nr k) 0 && decide (z_ret k = none)
  | _ => true)
set_option maxRecDepth 100000 in
theorem rt_all : (List.range 190).all rt_chk = true := by decide +kernel
theorem MR.ret {G : GG} {l : Launch} {d k pc : Nat} {ls : List Slot} {st : List Value} {h : PH} {Q : Option Value → PH → Prop} {v : Option Value} (hst : st = v.toList) (hi : (z_code k)[pc]? = some (retI v)) (hq : r_ok (z_nr k) v (Q v h)) (hv : match v with
    | none => True
    | some (.int _) => True
    | some (.ref _) => True
    | some (.double _) => True
    | _ => False) : MR G l d k pc ls st h Q := by
  intro hk
  have hrt := List.all_eq_true.mp (List.all_eq_true.mp rt_all k (List.mem_range.mpr hk)) _ (List.mem_of_getElem? hi)
  obtain ⟨q, len, d1, d2, d3⟩ := at_pc hk hi
  have hr : q = retI v ∧ len = 1 := by
    cases v with
    | none => exact rel1 d2
    | some w => cases w <;> first
      | exact absurd hv (by intro h; exact h)
      | exact rel1 d2
  obtain ⟨rfl, rfl⟩ := hr
  have main : Q v h ∧ e_shape (z_ret k) v := by
    cases v with
    | none =>
      have h2 := Bool.and_eq_true_iff.mp hrt
      have h0 := Nat.eq_of_beq_eq_true h2.1
      rw [h0] at hq
      exact ⟨hq, (of_decide_eq_true h2.2 : z_ret k = none)⟩
    | some w =>
      cases w <;> first
        | exact absurd hv (by intro h; exact h)
        | skip
      · rename_i x
        have hrt : (match z_nr k with
          | 0 => decide (z_ret k = some .int)
          | 1 => decide (z_ret k = some .boolean)
          | 2 => decide (z_ret k = some .char)
          | _ => decide (z_ret k = some .byte)) = true := hrt
        unfold r_ok at hq
        split at hq
        · next hz => rw [hz] at hrt; exact ⟨hq, _, of_decide_eq_true hrt, rfl⟩
        · next hz =>
          rw [hz] at hrt
          exact ⟨hq.2, _, of_decide_eq_true hrt, by rcases hq.1 with rfl | rfl <;> decide⟩
        · next hz =>
          rw [hz] at hrt
          refine ⟨hq.2, _, of_decide_eq_true hrt, ?_⟩
          show Value.int (x.toUInt32 % 65536).toInt32 = _
          rw [hq.1]
        · next h0 h1 h2 =>
          have hb : z_ret k = some .byte := by
            split at hrt
            · next hz => exact absurd hz h0
            · next hz => exact absurd hz h1
            · next hz => exact absurd hz h2
            · exact of_decide_eq_true hrt
          refine ⟨hq.2, _, hb, ?_⟩
          show Value.int x.toInt8.toInt32 = _
          rw [hq.1]
      · have h2 := Bool.and_eq_true_iff.mp hrt
        have h0 := Nat.eq_of_beq_eq_true h2.1
        rw [h0] at hq
        exact ⟨hq, (of_decide_eq_true h2.2 : z_ret k = some .double)⟩
      · have h2 := Bool.and_eq_true_iff.mp hrt
        have h0 := Nat.eq_of_beq_eq_true h2.1
        rw [h0] at hq
        refine ⟨hq, ?_⟩
        have h3 := h2.2
        cases hz : z_ret k with
        | none => rw [hz] at h3; cases h3
        | some t =>
          rw [hz] at h3
          cases t <;> first
            | exact absurd (show false = true from h3) Bool.false_ne_true
            | exact ⟨_, rfl, Or.inl ⟨_, rfl⟩⟩
            | exact ⟨_, rfl, Or.inr ⟨_, rfl⟩⟩
  refine ⟨v, h, main.1, Nat.le_refl _, Nat.le_refl _, ?_⟩
  intro p e R s m args below meth c H locs lsm h0 Z C hR hS hL n0 u0 nc uc hret
  rw [hst]
  exact hret H locs lsm _ hR hS main.2 d1
theorem r_on_inv {t : Nat} {v : Option Value} {st : List Value} {K : List Value → Prop} (h : r_on t v st K) : K (v.toList ++ st) := by
  unfold r_on at h
  split at h
  · unfold onV at h
    split at h
    · exact h
    · exact h.elim
  · unfold onI at h
    split at h
    · exact h
    · exact h.elim
  · unfold onR at h
    split at h
    · exact h
    · exact h.elim
  · unfold onD at h
    split at h
    · exact h
    · exact h.elim
/-- a call -/
theorem MR.call {G : GG} {l : Launch} {d k pc k1 : Nat} {ls : List Slot} {st a rest : List Value} {h h1 : PH} {v : Option Value} {i : Instr} {Q : Option Value → PH → Prop} (hS0 : SITE G l k pc k1 a rest st h) (hk1 : k1 < 189) (hi : (z_code k)[pc]? = some i) (hend : e_end i = false) (hlen : ∀ r len, e_rel (z_ow k) (z_raw k) (n_pc (z_raw k) pc) len r i = true → len = 3)
    (hna : a.length = z_na k1) (hc : ∀ v ∈ a, v.category = 1) (hn1 : p_nx h ≤ p_nx h1) (hu1 : p_us h ≤ p_us h1) (K0 : MRun G l d k1 0 (l_ent (z_ml k1) a) [] h v h1) (K : MR G l (d + 1) k (pc + 1) (l_kl k (pc + 1) ls) (v.toList ++ rest) h1 Q) : MR G l (d + 1) k pc ls st h Q := by
  intro hk
  obtain ⟨v2, h2, hQ, n2, u2, K⟩ := K hk
  refine ⟨v2, h2, hQ, Nat.le_trans hn1 n2, Nat.le_trans hu1 u2, ?_⟩
  intro p e R s m args below meth c H locs lsm h0 Z C hR hS hL n0 u0 nc uc hret
  have hM := met_of (by omega) (by rw [hna]; exact (ow_at (k := k1) (by omega)).2.2.2.2.2) hc K0 (pc0 (by omega))
  have hrun := hS0 d p e R s m args below meth c H locs lsm h0 v h1 C hR hS hL.1 hM (by omega) (by omega)
  obtain ⟨q, len, d1, d2, d3⟩ := at_pc hk hi
  have d4 := d3.resolve_left (by rw [hend]; decide)
  have e3 := hlen q len d2
  subst e3
  intro T hT X
  obtain ⟨v', st₀, t, T', L, g0, X', hL1, e1, e2, ⟨hv, hRep, hF⟩, stp⟩ := hrun T hT X
  cases hv
  rw [← e1] at hRep
  have hSn : va_S (g_F G) s.heap T'.heap (locs ++ L) := ⟨Nat.le_trans hS.1 (by rw [e1, ← g0]; exact hF.1), fun q h3 h4 => by
      rw [e1, hF.2 q (by rw [g0]; exact Nat.lt_of_lt_of_le h3 hS.1) h4, g0]
      exact hS.2.1 q h3 h4, fun q hq => by
      rcases List.mem_append.mp hq with z | z
      · exact hS.2.2 q z
      · exact hL1 q z⟩
  have K2 := K p e R s m args below meth c T'.heap (locs ++ L) lsm h0 Z C hRep hSn (hL.kl k (pc + 1)) (by omega) (by omega) nc uc hret
  rw [d4, show p_nx h1 - p_nx h0 = p_nx h - p_nx h0 + (p_nx h1 - p_nx h) by omega, show p_us h1 - p_us h0 = p_us h - p_us h0 + (p_us h1 - p_us h) by omega] at K2
  obtain ⟨t2, a1, b1⟩ := K2 T' rfl X'
  refine ⟨t2, stp t2 ?_, b1⟩
  have hm : (v.toList ++ rest).map (g_v G) = (v.map (g_v G)).toList ++ rest.map (g_v G) := by cases v <;> simp
  rw [hm] at a1
  exact a1
