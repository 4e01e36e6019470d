/-! Every step: Sem of MR gives MR; so wp gives MR. -/
theorem c_do_inv {k : Nat} {st : List Value} {Cl : Nat → List Value → (Option Value → PH → Prop) → Prop} {K : List Value → PH → Prop} (h : c_do k st Cl K) : z_na k ≤ st.length ∧ c_sum (st.drop (z_na k)) ≤ 8 ∧ Cl k (st.take (z_na k)).reverse (fun v h1 => r_on (z_rt k) v (st.drop (z_na k)) (fun st1 => K st1 h1)) := by
  obtain ⟨h1, h2⟩ := l_ok_inv h
  have h1 := Bool.and_eq_true_iff.mp h1
  exact ⟨Nat.le_of_ble_eq_true h1.1, Nat.le_of_ble_eq_true h1.2, h2⟩
theorem isEmpty_nil {α : Type} {l : List α} (h : l.isEmpty = true) : l = [] := by cases l; rfl; cases h
/-- places of one each -/
def v_1 (st : List Value) : Prop := ∀ v ∈ st, v.category = 1
section RUN
variable {G : GG} {l : Launch} {d k pc : Nat} {ls : List Slot} {st : List Value} {h : PH} {Q : Option Value → PH → Prop}
/-- a call, from what the step asks -/
theorem call_case (hG : GOK G) {k1 : Nat} {i : Instr} (hi : (z_code k)[pc]? = some i) (hend : e_end i = false) (hlen : ∀ r len, e_rel (z_ow k) (z_raw k) (n_pc (z_raw k) pc) len r i = true → len = 3) (hk1 : k < 190 → k1 < 189) (hcat : v_1 (st.take (z_na k1)))
    (hh : k < 190 → (i = .invokestatic k1 ∧ ∃ x, e_lm (z_ow k) x k1 [3, 4] = true ∧ decode (z_b k) (n_pc (z_raw k) pc) = .ok (.invokestatic x, 3)) ∨
      (∃ (x0 : Nat) (as : List Value), (st.take (z_na k1)).reverse = .ref x0 :: as ∧ p_kd h x0 = z_rk k1 ∧ ¬ x0 = 0 ∧ ∃ x, (e_lm (z_ow k) x k1 [0, 1, 2, 8] = true ∧ decode (z_b k) (n_pc (z_raw k) pc) = .ok (.invokevirtual x, 3)) ∨ (e_lm (z_ow k) x k1 [7] = true ∧ decode (z_b k) (n_pc (z_raw k) pc) = .ok (.invokespecial x, 3))) ∨
      (∃ (x0 : Nat) (as : List Value), (st.take (z_na k1)).reverse = .ref x0 :: as ∧ 1000 ≤ x0 ∧ ∃ x, e_lm (z_ow k) x k1 [5, 6] = true ∧ decode (z_b k) (n_pc (z_raw k) pc) = .ok (.invokespecial x, 3)))
    (H : c_do k1 st (fun k2 a Kc => (match d with
      | 0 => False
      | d1 + 1 => ∃ R : Option Value → PH → Prop, MR G l d1 k2 0 (l_ent (z_ml k2) a) [] h R ∧ ∀ v h2, R v h2 → Kc v h2)) (fun st1 h1 => MR G l d k (pc + 1) (l_kl k (pc + 1) ls) st1 h1 Q)) : MR G l d k pc ls st h Q := by
  intro hk
  obtain ⟨n1, n2, H⟩ := c_do_inv H
  have hk1 := hk1 hk
  cases d with
  | zero => exact H.elim
  | succ d =>
    obtain ⟨R, K0, HR⟩ := H
    obtain ⟨v, h1, hv, hn, hu, K0⟩ := K0 (by omega)
    have K := r_on_inv (HR v h1 hv)
    have hna : (st.take (z_na k1)).reverse.length = z_na k1 := by simp; omega
    refine MR.call (SITE.of hG hi ?_ hna n2 (hh hk)) hk1 hi hend hlen hna (fun v hv => hcat v (List.mem_reverse.mp hv)) hn hu K0 K hk
    rw [List.reverse_reverse, List.take_append_drop]
end RUN
