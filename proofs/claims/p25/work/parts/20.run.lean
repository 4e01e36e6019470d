/-! Every step: Sem of MR gives MR; so wp gives MR. -/
theorem c_do_inv {k : Nat} {st : List Value} {Cl : Nat → List Value → (Option Value → PH → Prop) → Prop} {K : List Value → PH → Prop} (h : c_do k st Cl K) : z_na k ≤ st.length ∧ c_sum (st.drop (z_na k)) ≤ 8 ∧ (∀ v ∈ st.take (z_na k), v.category = 1) ∧ Cl k (st.take (z_na k)).reverse (fun v h1 => r_on (z_rt k) v (st.drop (z_na k)) (fun st1 => K st1 h1)) := by
  obtain ⟨h1, h2⟩ := l_ok_inv h
  have h1 := Bool.and_eq_true_iff.mp h1
  have h3 := Bool.and_eq_true_iff.mp h1.1
  exact ⟨Nat.le_of_ble_eq_true h3.1, Nat.le_of_ble_eq_true h3.2, fun v hv => Nat.eq_of_beq_eq_true (List.all_eq_true.mp h1.2 v hv), h2⟩
theorem isEmpty_nil {α : Type} {l : List α} (h : l.isEmpty = true) : l = [] := by cases l; rfl; cases h
theorem lm_lt {o x k : Nat} {hows : List Nat} (h : e_lm o x k hows = true) : k < 189 := by
  obtain ⟨q, -, -, -, e3, -, e5⟩ := lm_use h
  simp only [lm_chk, Bool.and_eq_true] at e5
  rw [e3] at e5
  exact Nat.le_of_ble_eq_true (n := k + 1) e5.1
theorem l_I_inv {ls : List Slot} {j : Nat} {f : Int32 → Prop} (h : l_I ls j f) : ∃ x, ls[j]? = some (.val (.int x)) ∧ f x := by
  unfold l_I at h
  split at h
  · next x hx => exact ⟨x, hx, h⟩
  · exact h.elim
theorem l_L_inv {ls : List Slot} {j : Nat} {f : Int64 → Prop} (h : l_L ls j f) : ∃ x, ls[j]? = some (.val (.long x)) ∧ f x := by
  unfold l_L at h
  split at h
  · next x hx => exact ⟨x, hx, h⟩
  · exact h.elim
theorem l_R_inv {ls : List Slot} {j : Nat} {f : Nat → Prop} (h : l_R ls j f) : ∃ x, ls[j]? = some (.val (.ref x)) ∧ f x := by
  unfold l_R at h
  split at h
  · next x hx => exact ⟨x, hx, h⟩
  · exact h.elim
theorem t_cp_inv {st : List Value} {f : Nat → Int32 → Nat → Int32 → Int32 → List Value → Prop} (h : t_cp st f) : ∃ s sp d dp n r, st = .int n :: .int dp :: .ref d :: .int sp :: .ref s :: r ∧ f s sp d dp n r := by
  unfold t_cp at h
  split at h
  · exact ⟨_, _, _, _, _, _, rfl, h⟩
  · exact h.elim
def no_chk (k : Nat) : Bool := (z_code k).all (fun i => match i with
  | .nop => false
  | .dload _ => false
  | .dstore _ => false
  | _ => true)
set_option maxRecDepth 100000 in
theorem no_all : (List.range 190).all no_chk = true := by decide +kernel
theorem lt_of {j n : Nat} (h : (Nat.blt j n) = true) : j < n := Nat.le_of_ble_eq_true (n := j + 1) h
theorem wr_f {G : GG} {h : PH} {n x v : Nat} (hx : p_kd h x = n / 100) (hz : z_ft n = 0) (j : Nat) : g_f G (p_wr h x (n % 100) v) x j = if j = n % 100 then g_v G (.ref v) else g_f G h x j := by
  have hn : 100 * (n / 100) + n % 100 = n := Nat.div_add_mod n 100
  unfold g_f
  show g_v G (f_get (z_ft (100 * p_kd h x + j)) (p_wr h x (n % 100) v) x j) = _
  rw [hx]
  by_cases hj : j = n % 100
  · rw [if_pos hj, hj, hn, hz]
    show g_v G (.ref (if x = x ∧ n % 100 = n % 100 then v else p_rm h x (n % 100))) = _
    rw [if_pos ⟨rfl, rfl⟩]
  · rw [if_neg hj]
    congr 1
    unfold f_get
    split
    · show Value.ref (if x = x ∧ j = n % 100 then v else p_rm h x j) = _
      rw [if_neg (fun q => hj q.2)]
    · rfl
theorem wi_f {G : GG} {h : PH} {n x : Nat} {v : Int32} (hx : p_kd h x = n / 100) (hz : z_ft n ≠ 0) (j : Nat) : g_f G (p_wi h x (n % 100) v) x j = if j = n % 100 then g_v G (.int v) else g_f G h x j := by
  have hn : 100 * (n / 100) + n % 100 = n := Nat.div_add_mod n 100
  unfold g_f
  show g_v G (f_get (z_ft (100 * p_kd h x + j)) (p_wi h x (n % 100) v) x j) = _
  rw [hx]
  by_cases hj : j = n % 100
  · rw [if_pos hj, hj, hn]
    congr 1
    unfold f_get
    split
    · next hq => exact absurd hq hz
    · show Value.int (if x = x ∧ n % 100 = n % 100 then v else p_im h x (n % 100)) = _
      rw [if_pos ⟨rfl, rfl⟩]
  · rw [if_neg hj]
    congr 1
    unfold f_get
    split
    · rfl
    · show Value.int (if x = x ∧ j = n % 100 then v else p_im h x j) = _
      rw [if_neg (fun q => hj q.2)]
section RUN
variable {G : GG} {l : Launch} {d k pc : Nat} {ls : List Slot} {st : List Value} {h : PH} {Q : Option Value → PH → Prop}
/-- a call, from what the step asks -/
theorem call_case (hG : GOK G) {k1 : Nat} {i : Instr} (hi : (z_code k)[pc]? = some i) (hend : e_end i = false) (hlen : ∀ r len, e_rel (z_ow k) (z_raw k) (n_pc (z_raw k) pc) len r i = true → len = 3)
    (hh : k < 190 → (i = .invokestatic k1 ∧ ∃ x, e_lm (z_ow k) x k1 [3, 4] = true ∧ decode (z_b k) (n_pc (z_raw k) pc) = .ok (.invokestatic x, 3)) ∨
      (∃ (x0 : Nat) (as : List Value), (st.take (z_na k1)).reverse = .ref x0 :: as ∧ p_kd h x0 = z_rk k1 ∧ ¬ x0 = 0 ∧ ∃ x, (e_lm (z_ow k) x k1 [0, 1, 2, 8] = true ∧ decode (z_b k) (n_pc (z_raw k) pc) = .ok (.invokevirtual x, 3)) ∨ (e_lm (z_ow k) x k1 [7] = true ∧ decode (z_b k) (n_pc (z_raw k) pc) = .ok (.invokespecial x, 3))) ∨
      (∃ (x0 : Nat) (as : List Value), (st.take (z_na k1)).reverse = .ref x0 :: as ∧ 1000 ≤ x0 ∧ ∃ x, e_lm (z_ow k) x k1 [5, 6] = true ∧ decode (z_b k) (n_pc (z_raw k) pc) = .ok (.invokespecial x, 3)))
    (H : c_do k1 st (fun k2 a Kc => (match d with
      | 0 => False
      | d1 + 1 => ∃ R : Option Value → PH → Prop, MR G l d1 k2 0 (l_ent (z_ml k2) a) [] h R ∧ ∀ v h2, R v h2 → Kc v h2)) (fun st1 h1 => MR G l d k (pc + 1) (l_kl k (pc + 1) ls) st1 h1 Q)) : MR G l d k pc ls st h Q := by
  intro hk
  obtain ⟨n1, n2, hcat, H⟩ := c_do_inv H
  have hk1 : k1 < 189 := by
    rcases hh hk with ⟨-, x, z, -⟩ | ⟨-, -, -, -, -, x, z⟩ | ⟨-, -, -, -, x, z, -⟩
    · exact lm_lt z
    · exact z.elim (fun z => lm_lt z.1) (fun z => lm_lt z.1)
    · exact lm_lt z
  cases d with
  | zero => exact H.elim
  | succ d =>
    obtain ⟨R, K0, HR⟩ := H
    obtain ⟨v, h1, hv, hn, hu, K0⟩ := K0 (by omega)
    have K := r_on_inv (HR v h1 hv)
    have hna : (st.take (z_na k1)).reverse.length = z_na k1 := by simp; omega
    refine MR.call (SITE.of hG hi ?_ hna n2 (hh hk)) hk1 hi hend hlen hna (fun v hv => hcat v (List.mem_reverse.mp hv)) hn hu K0 K hk
    rw [List.reverse_reverse, List.take_append_drop]
end RUN
