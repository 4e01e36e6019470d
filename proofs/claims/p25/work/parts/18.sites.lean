/-! Where methods are called. -/
theorem pc0 {k : Nat} (hk : k < 190) : n_pc (z_raw k) 0 = 0 := Nat.eq_of_beq_eq_true (List.all_eq_true.mp pc0_all k (List.mem_range.mpr hk))
theorem lm_use {o x k : Nat} {hows : List Nat} (h : e_lm o x k hows = true) : ∃ q ∈ z_lm, q.1 = o ∧ q.2.1 = x ∧ q.2.2.1 = k ∧ q.2.2.2.1 ∈ hows ∧ lm_chk q = true := by
  obtain ⟨q, hq, h1⟩ := List.any_eq_true.mp h
  simp only [Bool.and_eq_true] at h1
  obtain ⟨⟨⟨e1, e2⟩, e3⟩, e4⟩ := h1
  exact ⟨q, hq, Nat.eq_of_beq_eq_true e1, Nat.eq_of_beq_eq_true e2, Nat.eq_of_beq_eq_true e3, List.mem_of_elem_eq_true e4, List.all_eq_true.mp lm_all q hq⟩
theorem params_of {ds : String} {n j : Nat} (h : (parseMethodDescriptor ds).map (fun d => d.parameters.length + j) = some n) : ∀ sig, parseMethodDescriptor ds = some sig → n - j = sig.parameters.length := by
  intro sig hs
  rw [hs] at h
  have h3 : sig.parameters.length + j = n := Option.some.inj h
  omega
set_option maxRecDepth 100000 in
theorem lm_rk_all : z_lm.all (fun q => bif Nat.beq q.2.2.2.1 7 then Nat.ble (z_rk q.2.2.1) 15 else true) = true := by decide +kernel
theorem lm_rk (q : Nat × Nat × Nat × Nat × MethodName × List Nat) (hq : q ∈ z_lm) (h7 : q.2.2.2.1 = 7) : z_rk q.2.2.1 ≤ 15 := by
  have h := List.all_eq_true.mp lm_rk_all q hq
  rw [h7] at h
  exact Nat.le_of_ble_eq_true h
/-- a call is a run of the one that is called -/
def SITE (G : GG) (l : Launch) (k pc k1 : Nat) (a rest : List Value) (st : List Value) (h : PH) : Prop :=
  ∀ (d : Nat) (p : Program) (e : Env) (R : Room) (s : State) (m : MethodId) (args : Array Value) (below : List Frame) (meth : Method) (c : Code) (H : Heap) (locs : List Loc) (lsm : Array Slot) (h0 : PH) (v : Option Value) (h2 : PH),
    KC G k (d + 1) p R s m args meth c h0 → Rep G h H → va_S (g_F G) s.heap H locs → lsm.size = z_ml k →
    Met l (z_y k1) (z_ws k1) ({ frames := d + 1, cells := p_nx h2 - p_nx h, slots := p_us h2 - p_us h, locals := 60 * (d + 1) }) (PcK G a h) (QcK G v h2) (p_nx h2 - p_nx h) (p_us h2 - p_us h) (g_F G) →
    p_nx h - p_nx h0 + (p_nx h2 - p_nx h) ≤ R.cells → p_us h - p_us h0 + (p_us h2 - p_us h) ≤ R.slots →
    va_Run p l e R s m args below meth c H locs (p_nx h - p_nx h0) (p_us h - p_us h0) (p_nx h2 - p_nx h) (p_us h2 - p_us h) (F0 m (n_pc (z_raw k) pc) lsm (st.map (g_v G))) (rest.map (g_v G)) (QcK G v h2 (a.map (g_v G)).toArray) (g_F G)
theorem recv {G : GG} (hG : GOK G) {h : PH} {H : Heap} {s : State} {locs : List Loc} (hR : Rep G h H) (E : EnvG G s) (hS : va_S (g_F G) s.heap H locs) {x k1 : Nat} (hx : p_kd h x = k1) (h1 : 1 ≤ k1) (h2 : k1 ≤ 16) : ∃ cellB : Cell, H[g_ad G x]? = some cellB ∧ cellB.vm.isStatics = false ∧ s.vm.findClass (z_kn k1) = some cellB.cls := by
  rcases Nat.lt_or_ge x 1000 with hlt | hge
  · obtain ⟨s1, -⟩ := hR.2.2.2.2.2.1 x hlt
    have h14 := (E.2.2.2.2.2.2.2.2.2.2.1 x hlt (by rw [← s1]; omega)).imp_right (fun q => q.resolve_right (by rw [← s1]; omega))
    have hO := (E.2.2.2.2.2.2.2.2.2.1 x hlt h14).1
    rw [← s1, hx] at hO
    obtain ⟨cell, w1, w2, w3, -⟩ := hO.kept hS.2.1
    exact ⟨cell, w1, w2, w3⟩
  · have A := hR.cell (x := x) (by omega) hge
    unfold g_at at A
    rw [hx, show Nat.ble 100 k1 = false by
      cases hz : Nat.ble 100 k1
      · rfl
      · have := Nat.le_of_ble_eq_true hz; omega] at A
    obtain ⟨cell, w1, w2, w3, -⟩ := A
    have h16 : k1 ≠ 16 := fun q => absurd (hR.enum x (by rw [hx]; exact q)) (by omega)
    obtain ⟨-, hfc, -⟩ := E.1 k1 h1 (by omega)
    exact ⟨cell, w1, by rw [w3]; rfl, by rw [w2]; exact hfc⟩
theorem pre_of {G : GG} {a : List Value} {h : PH} {H : Heap} {s : State} {locs : List Loc} (hR : Rep G h H) (E : EnvG G s) (hS : va_S (g_F G) s.heap H locs) : ∀ U : State, U.heap = H → s.WarmedH U.vm → PcK G a h (a.map (g_v G)).toArray U := by
  intro U hU hW
  refine ⟨rfl, by rw [hU]; exact hR, E.to hW ?_ (fun q h1 h2 => by rw [hU]; exact hS.2.1 q h1 h2)⟩
  rw [hU]
  exact Nat.le_trans E.2.2.2.2.2.2.2.2.2.2.2.2.1 hS.1
theorem ws_ok {G : GG} {s : State} {args : Array Value} {k1 : Nat} (hk : k1 < 189) (C6 : ∀ w ∈ w_g, w.before args s = true) : ∀ w ∈ z_ws k1, ∀ (a' : Array Value) (U : State), s.WarmedH U.vm → w.before a' U = true := by
  intro w hw a' U hW
  have hg : w ∈ w_g := by
    rcases List.mem_cons.mp hw with rfl | hw
    · exact cp_in hk
    · exact hw
  exact word_at hW (w_good w hg) (C6 w hg)
theorem SITE.of {G : GG} {l : Launch} (hG : GOK G) {k pc k1 : Nat} {i : Instr} {st rest a : List Value} {h : PH} (hi : (z_code k)[pc]? = some i) (hst : st = a.reverse ++ rest) (hna : a.length = z_na k1) (hsum : c_sum rest ≤ 8)
    (hh : (i = .invokestatic k1 ∧ ∃ x, e_lm (z_ow k) x k1 [3, 4] = true ∧ decode (z_b k) (n_pc (z_raw k) pc) = .ok (.invokestatic x, 3)) ∨
      (∃ (x0 : Nat) (as : List Value), a = .ref x0 :: as ∧ p_kd h x0 = z_rk k1 ∧ ¬ x0 = 0 ∧ ∃ x, (e_lm (z_ow k) x k1 [0, 1, 2, 8] = true ∧ decode (z_b k) (n_pc (z_raw k) pc) = .ok (.invokevirtual x, 3)) ∨ (e_lm (z_ow k) x k1 [7] = true ∧ decode (z_b k) (n_pc (z_raw k) pc) = .ok (.invokespecial x, 3))) ∨
      (∃ (x0 : Nat) (as : List Value), a = .ref x0 :: as ∧ 1000 ≤ x0 ∧ ∃ x, e_lm (z_ow k) x k1 [5, 6] = true ∧ decode (z_b k) (n_pc (z_raw k) pc) = .ok (.invokespecial x, 3))) : SITE G l k pc k1 a rest st h := by
  subst hst
  intro d p e R s m args below meth c H locs lsm h0 v h2 C hR hS hsz hM hc1 hc2
  obtain ⟨C1, C2, C3, C4, C5, C6, E, C8, C9, C10, C11⟩ := C
  have hW : 2 * (F0 m (n_pc (z_raw k) pc) lsm ((a.reverse ++ rest).map (g_v G))).monitorRoom + ((rest.map (g_v G)).map fun v => v.category).sum ≤ 8 := by
    rw [g_csum]
    show 2 * 0 + _ ≤ 8
    omega
  have hpre := pre_of (a := a) hR E hS
  rcases hh with ⟨-, x, hx, hdg⟩ | ⟨x0, as, rfl, hx0, hx1, x, hx⟩ | ⟨x0, as, rfl, hx0, x, hx, hdg⟩
  · obtain ⟨q, hq, e1, e2, e3, e4, e5⟩ := lm_use hx
    obtain ⟨q1, q2, q3, q4, qx, qp⟩ := q
    simp only at e1 e2 e3 e4
    subst e2 e3
    have hlt : q3 < 189 := by
      simp only [lm_chk, Bool.and_eq_true] at e5
      exact Nat.le_of_ble_eq_true (n := q3 + 1) e5.1
    obtain ⟨o1, o2, o3, o4, o5, o6⟩ := ow_at (k := q3) (by omega)
    have hstk : ((a.reverse ++ rest).map (g_v G)) = (a.map (g_v G)).reverse ++ rest.map (g_v G) := by simp
    simp only [List.mem_cons, List.not_mem_nil, or_false] at e4
    rcases e4 with rfl | rfl
    · simp only [lm_chk, Bool.and_eq_true, decide_eq_true_eq] at e5
      obtain ⟨-, ⟨⟨w1, w2⟩, w3⟩, w4⟩ := e5
      rw [e1] at w1
      exact va_runS (n := z_na q3) (nL := z_ml k) (Ts := w_g) ⟨C1, C2, C4, C5, C6⟩ hM ⟨⟨rfl, rfl, (show d + 1 + 1 ≤ R.frames by omega), (show 8 + (z_ml q3 + 11) + 60 * (d + 1) ≤ R.locals by omega), ws_ok (G := G) hlt C6, List.mem_cons_self, C6 _ (cp_in hlt), C6 _ (wa_in w3), o4, params_of (j := 0) w4, C6 _ (wa_in w1)⟩, C6 _ (wa_in w2)⟩ ⟨PcK.blind, hpre⟩ rfl (by simp [hna]) hsz hstk hW hdg ⟨hc1, hc2⟩
    · simp only [lm_chk, Bool.and_eq_true, decide_eq_true_eq] at e5
      obtain ⟨-, ⟨w2, w3⟩, w4⟩ := e5
      obtain ⟨host, hn⟩ := E.2.2.2.1 _ hq (Or.inr (Or.inl rfl))
      rw [show z_cn (q1, q2, q3, 4, qx, qp).1 = z_cn (z_ow k) by rw [← e1]] at hn
      exact va_runSN (n := z_na q3) (nL := z_ml k) (Ts := w_g) ⟨C1, C2, C4, C5, C6⟩ hM ⟨⟨⟨rfl, rfl, (show d + 1 + 1 ≤ R.frames by omega), (show 8 + (z_ml q3 + 11) + 60 * (d + 1) ≤ R.locals by omega), ws_ok (G := G) hlt C6, List.mem_cons_self⟩, C6 _ (cp_in hlt), C6 _ (wa_in w3), o4, params_of (j := 0) w4, va_Nw.use rfl hn⟩, C6 _ (wa_in w2), trivial⟩ ⟨PcK.blind, hpre⟩ rfl (by simp [hna]) hsz hstk hW hdg ⟨hc1, hc2⟩
  · have hrk : 1 ≤ z_rk k1 ∧ z_rk k1 ≤ 16 := by
      have hx2 : e_lm (z_ow k) x k1 [0, 1, 2, 8] = true ∨ e_lm (z_ow k) x k1 [7] = true := hx.imp And.left And.left
      have key : ∀ q : Nat × Nat × Nat × Nat × MethodName × List Nat, q ∈ z_lm → q.2.2.1 = k1 → (q.2.2.2.1 = 0 ∨ q.2.2.2.1 = 1 ∨ q.2.2.2.1 = 2 ∨ q.2.2.2.1 = 8 ∨ q.2.2.2.1 = 7) → 1 ≤ z_rk k1 ∧ z_rk k1 ≤ 16 := by
        intro q hq e3 e4
        have h := List.all_eq_true.mp rk_all q hq
        rw [e3] at h
        rcases e4 with e | e | e | e | e <;> rw [e] at h <;> exact ⟨Nat.le_of_ble_eq_true (Bool.and_eq_true_iff.mp h).1, Nat.le_of_ble_eq_true (Bool.and_eq_true_iff.mp h).2⟩
      rcases hx2 with z | z
      · obtain ⟨q, hq, -, -, e3, e4, -⟩ := lm_use z
        simp only [List.mem_cons, List.not_mem_nil, or_false] at e4
        exact key q hq e3 (by rcases e4 with e | e | e | e <;> simp [e])
      · obtain ⟨q, hq, -, -, e3, e4, -⟩ := lm_use z
        simp only [List.mem_cons, List.not_mem_nil, or_false] at e4
        exact key q hq e3 (by simp [e4])
    have hrv : g_rv G x0 = .ref (g_ad G x0) := hR.rv hG (by omega)
    have hrecv := recv hG hR E hS hx0 hrk.1 hrk.2
    have hmap : ((Value.ref x0 :: as).map (g_v G)) = .ref (g_ad G x0) :: as.map (g_v G) := by rw [List.map_cons]; congr 1
    have hstk : (((Value.ref x0 :: as).reverse ++ rest).map (g_v G)) = (as.map (g_v G)).reverse ++ .ref (g_ad G x0) :: rest.map (g_v G) := by
      rw [← hrv]
      simp [g_v]
    rw [hmap] at hpre ⊢
    have hnas : as.length = z_na k1 - 1 := by simp at hna; omega
    rcases hx with ⟨hx, hdg⟩ | ⟨hx, hdg⟩
    · obtain ⟨q, hq, e1, e2, e3, e4, e5⟩ := lm_use hx
      obtain ⟨q1, q2, q3, q4, qx, qp⟩ := q
      simp only at e1 e2 e3 e4
      subst e2 e3
      have hlt : q3 < 189 := by
        simp only [lm_chk, Bool.and_eq_true] at e5
        exact Nat.le_of_ble_eq_true (n := q3 + 1) e5.1
      obtain ⟨o1, o2, o3, o4, o5, o6⟩ := ow_at (k := q3) (by omega)
      simp only [List.mem_cons, List.not_mem_nil, or_false] at e4
      rcases e4 with rfl | rfl | rfl | rfl
      · simp only [lm_chk, Bool.and_eq_true, decide_eq_true_eq] at e5
        obtain ⟨-, ⟨⟨⟨w1, w2⟩, w3⟩, w4⟩, w5⟩ := e5
        rw [e1] at w1
        exact va_runV (n := z_na q3 - 1) (nL := z_ml k) (Ts := w_g) ⟨C1, C2, C4, C5, C6⟩ hM ⟨⟨rfl, rfl, (show d + 1 + 1 ≤ R.frames by omega), (show 8 + (z_ml q3 + 11) + 60 * (d + 1) ≤ R.locals by omega), ws_ok (G := G) hlt C6, List.mem_cons_self, C6 _ (cp_in hlt), C6 _ (wa_in w4), o4, params_of w5, C6 _ (wa_in w1)⟩, C6 _ (wa_in w2), C6 _ (wa_in w3)⟩ ⟨PcK.blind, hrecv, hpre⟩ rfl (by simp [hnas]) hsz hstk hW hdg ⟨hc1, hc2⟩
      · simp only [lm_chk, Bool.and_eq_true, decide_eq_true_eq] at e5
        obtain ⟨-, ⟨⟨⟨⟨⟨w1, w2⟩, w3⟩, w4⟩, w5⟩, w6⟩, w7⟩ := e5
        rw [e1] at w1
        exact va_runU (n := z_na q3 - 1) (nL := z_ml k) (Ts := w_g) (owner := (z_y q3).cls) ⟨C1, C2, C4, C5, C6⟩ hM ⟨⟨rfl, rfl, (show d + 1 + 1 ≤ R.frames by omega), (show 8 + (z_ml q3 + 11) + 60 * (d + 1) ≤ R.locals by omega), ws_ok (G := G) hlt C6, List.mem_cons_self⟩, C6 _ (cp_in hlt), C6 _ (wa_in w5), o4, params_of w7, C6 _ (wa_in w1), C6 _ (wa_in w2), by rw [← w6]; exact va_Decl.of (C6 _ (wa_in w4)) (C6 _ (cp_in hlt)), C6 _ (wa_in w3), C6 _ (wa_in w4)⟩ ⟨PcK.blind, hrecv, hpre⟩ rfl (by simp [hnas]) hsz hstk hW hdg ⟨hc1, hc2⟩
      · simp only [lm_chk, Bool.and_eq_true, decide_eq_true_eq] at e5
        obtain ⟨-, ⟨⟨w2, w3⟩, w4⟩, w5⟩ := e5
        obtain ⟨host, hn⟩ := E.2.2.2.1 _ hq (Or.inl rfl)
        rw [show z_cn (q1, q2, q3, 2, qx, qp).1 = z_cn (z_ow k) by rw [← e1]] at hn
        exact va_runVN (n := z_na q3 - 1) (nL := z_ml k) (Ts := w_g) ⟨C1, C2, C4, C5, C6⟩ hM ⟨⟨⟨rfl, rfl, (show d + 1 + 1 ≤ R.frames by omega), (show 8 + (z_ml q3 + 11) + 60 * (d + 1) ≤ R.locals by omega), ws_ok (G := G) hlt C6, List.mem_cons_self⟩, C6 _ (cp_in hlt), C6 _ (wa_in w4), o4, params_of w5, va_Nw.use rfl hn⟩, C6 _ (wa_in w2), C6 _ (wa_in w3)⟩ ⟨PcK.blind, hrecv, hpre⟩ rfl (by simp [hnas]) hsz hstk hW hdg ⟨hc1, hc2⟩
      · simp only [lm_chk, Bool.and_eq_true, decide_eq_true_eq] at e5
        obtain ⟨-, ⟨⟨⟨⟨⟨⟨w1, w2⟩, w3⟩, w4⟩, w5⟩, w6⟩, w7⟩, w8⟩ := e5
        rw [e1] at w1
        exact va_runU (n := z_na q3 - 1) (nL := z_ml k) (Ts := w_g) (owner := "java/lang/AbstractStringBuilder") ⟨C1, C2, C4, C5, C6⟩ hM ⟨⟨rfl, rfl, (show d + 1 + 1 ≤ R.frames by omega), (show 8 + (z_ml q3 + 11) + 60 * (d + 1) ≤ R.locals by omega), ws_ok (G := G) hlt C6, List.mem_cons_self⟩, C6 _ (cp_in hlt), C6 _ (wa_in w6), ⟨by decide, by decide⟩, params_of w7, C6 _ (wa_in w1), C6 _ (wa_in w2), va_Decl.of (C6 _ (wa_in w3)) (by rw [w8.1, w8.2]; exact C6 _ (cp_in (k := 34) (by omega))), C6 _ (wa_in w4), C6 _ (wa_in w5)⟩ ⟨PcK.blind, hrecv, hpre⟩ rfl (by simp [hnas]) hsz hstk hW hdg ⟨hc1, hc2⟩
    · obtain ⟨q, hq, e1, e2, e3, e4, e5⟩ := lm_use hx
      obtain ⟨q1, q2, q3, q4, qx, qp⟩ := q
      simp only at e1 e2 e3 e4
      subst e2 e3
      have hlt : q3 < 189 := by
        simp only [lm_chk, Bool.and_eq_true] at e5
        exact Nat.le_of_ble_eq_true (n := q3 + 1) e5.1
      obtain ⟨o1, o2, o3, o4, o5, o6⟩ := ow_at (k := q3) (by omega)
      simp only [List.mem_cons, List.not_mem_nil, or_false] at e4
      subst e4
      simp only [lm_chk, Bool.and_eq_true, decide_eq_true_eq] at e5
      obtain ⟨-, ⟨⟨⟨⟨⟨w1, w2⟩, w3⟩, w4⟩, w5⟩, w6⟩, w7⟩ := e5
      rw [e1] at w1 w3
      exact va_runSU (n := z_na q3 - 1) (nL := z_ml k) (Ts := w_g) (E.1 (z_rk q3) hrk.1 (lm_rk _ hq rfl)).2 ⟨C1, C2, C4, C5, C6⟩ hM ⟨⟨rfl, rfl, (show d + 1 + 1 ≤ R.frames by omega), (show 8 + (z_ml q3 + 11) + 60 * (d + 1) ≤ R.locals by omega), ws_ok (G := G) hlt C6, List.mem_cons_self⟩, C6 _ (wa_in w1), C6 _ (wa_in w2), C6 _ (wa_in w3), C6 _ (wa_in w4), C6 _ (wa_in w5), C6 _ (cp_in hlt), w6, params_of w7⟩ ⟨PcK.blind, hrecv, hpre⟩ rfl (by simp [hnas]) hsz hstk hW hdg ⟨hc1, hc2⟩
  · have hrv : g_rv G x0 = .ref (g_ad G x0) := g_rvr hG (by omega) (by omega)
    have hmap : ((Value.ref x0 :: as).map (g_v G)) = .ref (g_ad G x0) :: as.map (g_v G) := by rw [List.map_cons]; congr 1
    have hstk : (((Value.ref x0 :: as).reverse ++ rest).map (g_v G)) = (as.map (g_v G)).reverse ++ .ref (g_ad G x0) :: rest.map (g_v G) := by
      rw [← hrv]
      simp [g_v]
    rw [hmap] at hpre ⊢
    have hnas : as.length = z_na k1 - 1 := by simp at hna; omega
    obtain ⟨q, hq, e1, e2, e3, e4, e5⟩ := lm_use hx
    obtain ⟨q1, q2, q3, q4, qx, qp⟩ := q
    simp only at e1 e2 e3 e4
    subst e2 e3
    have hlt : q3 < 189 := by
      simp only [lm_chk, Bool.and_eq_true] at e5
      exact Nat.le_of_ble_eq_true (n := q3 + 1) e5.1
    obtain ⟨o1, o2, o3, o4, o5, o6⟩ := ow_at (k := q3) (by omega)
    simp only [List.mem_cons, List.not_mem_nil, or_false] at e4
    have hcode : ∀ (_ : z_ret q3 = none), Cond.code (z_y q3) (z_b q3) (z_ml q3) none ∈ w_g ∧ Cond.code (z_y q3) (z_b q3) (z_ml q3) none ∈ z_ws q3 := by
      intro hz
      have h1 := cp_in hlt
      rw [hz] at h1
      exact ⟨h1, by unfold z_ws; rw [hz]; exact List.mem_cons_self⟩
    rcases e4 with rfl | rfl
    · simp only [lm_chk, Bool.and_eq_true, decide_eq_true_eq] at e5
      obtain ⟨-, ⟨⟨⟨⟨w1, w2⟩, w3⟩, w4⟩, w5⟩, w6⟩ := e5
      rw [e1] at w1
      obtain ⟨g1, g2⟩ := hcode w5
      exact va_runI (n := z_na q3 - 1) (nL := z_ml k) (Ts := w_g) ⟨C1, C2, C4, C5, C6⟩ hM ⟨⟨rfl, rfl, (show d + 1 + 1 ≤ R.frames by omega), (show 8 + (z_ml q3 + 11) + 60 * (d + 1) ≤ R.locals by omega), ws_ok (G := G) hlt C6, g2, C6 _ g1, C6 _ (wa_in w3), o4, params_of w6, C6 _ (wa_in w1)⟩, w4, C6 _ (wa_in w2)⟩ ⟨PcK.blind, hpre⟩ rfl (by simp [hnas]) hsz hstk hW hdg ⟨hc1, hc2⟩
    · simp only [lm_chk, Bool.and_eq_true, decide_eq_true_eq] at e5
      obtain ⟨-, ⟨⟨⟨w2, w3⟩, w4⟩, w5⟩, w6⟩ := e5
      obtain ⟨host, hn⟩ := E.2.2.2.1 _ hq (Or.inr (Or.inr rfl))
      rw [show z_cn (q1, q2, q3, 6, qx, qp).1 = z_cn (z_ow k) by rw [← e1]] at hn
      obtain ⟨g1, g2⟩ := hcode w5
      exact va_runIN (n := z_na q3 - 1) (nL := z_ml k) (Ts := w_g) ⟨C1, C2, C4, C5, C6⟩ hM ⟨⟨⟨rfl, rfl, (show d + 1 + 1 ≤ R.frames by omega), (show 8 + (z_ml q3 + 11) + 60 * (d + 1) ≤ R.locals by omega), ws_ok (G := G) hlt C6, g2⟩, C6 _ g1, C6 _ (wa_in w3), o4, params_of w6, va_Nw.use rfl hn⟩, w4, C6 _ (wa_in w2)⟩ ⟨PcK.blind, hpre⟩ rfl (by simp [hnas]) hsz hstk hW hdg ⟨hc1, hc2⟩
