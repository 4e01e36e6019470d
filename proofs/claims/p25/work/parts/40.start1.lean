/-! The start: the classes, the words that go another way. -/
def z_iw : List (Nat × Nat) := [(104, 14), (112, 12), (118, 6), (124, 7), (157, 3), (176, 11), (318, 10), (324, 4), (344, 8), (377, 7), (383, 2), (1346, 28), (1352, 4), (1574, 4), (1658, 5)]
set_option maxRecDepth 100000 in
theorem iw_all : (List.range 15).all (fun k => wa (z_iw.getD k (0, 0)).1 (Cond.instantiable (z_kn (k + 1)) (z_iw.getD k (0, 0)).2)) = true := by decide +kernel
theorem en_cls {args : Array Value} {s : State} (hts : ∀ w ∈ w_g, w.before args s = true) : ∃ D : va_G, ∀ k, 1 ≤ k → k ≤ 15 → u_Kn s (z_kn k) (z_T k) (z_nf k) (D.1 (k - 1)) (D.2 (k - 1)) := by
  have h : ∀ k : Nat, ∃ q : ClassId × (Nat → Nat), k < 15 → u_Kn s (z_kn (k + 1)) (z_T (k + 1)) (z_nf (k + 1)) q.1 q.2 := by
    intro k
    by_cases hk : k < 15
    · have hi := wa_in (i := (z_iw.getD k (0, 0)).1) (w := Cond.instantiable (z_kn (k + 1)) (z_iw.getD k (0, 0)).2) (List.all_eq_true.mp iw_all k (List.mem_range.mpr hk))
      obtain ⟨c, i, h⟩ := u_known hts (lays_in (k := k + 1) (by omega) (by omega)) (hts _ hi)
      exact ⟨(c, i), fun _ => h⟩
    · exact ⟨(0, fun _ => 0), fun z => absurd z hk⟩
  obtain ⟨f, hf⟩ := Classical.axiomOfChoice h
  refine ⟨(fun k => (f k).1, fun k => (f k).2), fun k h1 h2 => ?_⟩
  obtain ⟨j, rfl⟩ : ∃ j, k = j + 1 := ⟨k - 1, by omega⟩
  exact hf j (by omega)
def z_ak (c1 c2 c3 c4 c5 c6 c7 c8 : ClassId) (k : Nat) : ClassId := match k with
  | 100 => c1
  | 120 => c2
  | 300 => c3
  | 310 => c4
  | 312 => c5
  | 313 => c6
  | 314 => c7
  | 315 => c8
  | _ => 0
def w_1 (i : Nat) (w : Cond) : Bool := decide (w_all[i]? = some w)
theorem w_1in {i : Nat} {w : Cond} {args : Array Value} {s : State} (hall : ∀ w ∈ w_all, w.before args s = true) (h : w_1 i w = true) : w.before args s = true := hall _ (List.mem_of_getElem? (of_decide_eq_true h))
set_option maxRecDepth 100000 in
theorem en_arr {args : Array Value} {s : State} (hall : ∀ w ∈ w_all, w.before args s = true) : ∃ A : Nat → ClassId, ∀ k t, z_ety k = some t → ArrOfT s (A k) t ∧ va_RA s (A k) t ∧ (t.isReference = true → ∃ (kA : Class) (comp : ClassId), s.vm.classes[A k]? = some kA ∧ kA.kind = .array comp t ∧ (k ≤ 313 → s.vm.findClass (z_kn (p_el k)) = some comp) ∧ (314 ≤ k → comp = A (p_el k))) := by
  obtain ⟨c1, k1, d1, a1, a2, a3⟩ := Cond.arrayClass_spec (w_1in (i := 155) (w := .arrayClass .int) hall (by decide +kernel))
  obtain ⟨c2, k2, d2, b1, b2, b3⟩ := Cond.arrayClass_spec (w_1in (i := 154) (w := .arrayClass .byte) hall (by decide +kernel))
  obtain ⟨c3, k3, d3, e1, e2, e3⟩ := Cond.arrayClass_spec (w_1in (i := 1679) (w := .arrayClass .boolean) hall (by decide +kernel))
  obtain ⟨d4, c4, k4, f1, f2, f3, f4, f5⟩ := Cond.arrayOver_spec (w_1in (i := 130) (w := .arrayOver (.object "ClauseDesk$Kind")) hall (by decide +kernel))
  obtain ⟨d5, c5, k5, g1, g2, g3, g4, g5⟩ := Cond.arrayOver_spec (w_1in (i := 175) (w := .arrayOver (.object "ClauseDesk$Clause")) hall (by decide +kernel))
  obtain ⟨d6, c6, k6, h1, h2, h3, h4, h5⟩ := Cond.arrayOver_spec (w_1in (i := 1657) (w := .arrayOver (.object "ClauseDeskLaw$Item")) hall (by decide +kernel))
  obtain ⟨d7, c7, k7, i1, i2, i3, i4⟩ := Cond.arrayOver_specA (w_1in (i := 1647) (w := .arrayOver (.array .int)) hall (by decide +kernel))
  obtain ⟨d8, c8, k8, j1, j2, j3, j4⟩ := Cond.arrayOver_specA (w_1in (i := 1649) (w := .arrayOver (.array (.object "ClauseDeskLaw$Item"))) hall (by decide +kernel))
  refine ⟨z_ak c1 c2 c3 c4 c5 c6 c7 c8, fun k t ht => ?_⟩
  unfold z_ety at ht
  split at ht
  · cases ht; exact ⟨fun n z => ⟨(fun k h => by cases h), k1, a2, d1, a3⟩, a1, fun h => absurd h (by decide)⟩
  · cases ht; exact ⟨fun n z => ⟨(fun k h => by cases h), k2, b2, d2, b3⟩, b1, fun h => absurd h (by decide)⟩
  · cases ht; exact ⟨fun n z => ⟨(fun k h => by cases h), k3, e2, d3, e3⟩, e1, fun h => absurd h (by decide)⟩
  · cases ht; exact ⟨fun n z => ⟨(fun k h => by cases h), k4, f3, d4, f4⟩, ⟨k4, d4, f3, f4, f1, f5⟩, fun _ => ⟨k4, d4, f3, f4, fun _ => f1, fun h => absurd h (by decide)⟩⟩
  · cases ht; exact ⟨fun n z => ⟨(fun k h => by cases h), k5, g3, d5, g4⟩, ⟨k5, d5, g3, g4, g1, g5⟩, fun _ => ⟨k5, d5, g3, g4, fun _ => g1, fun h => absurd h (by decide)⟩⟩
  · cases ht; exact ⟨fun n z => ⟨(fun k h => by cases h), k6, h3, d6, h4⟩, ⟨k6, d6, h3, h4, h1, h5⟩, fun _ => ⟨k6, d6, h3, h4, fun _ => h1, fun h => absurd h (by decide)⟩⟩
  · cases ht; exact ⟨fun n z => ⟨(fun k h => by cases h), k7, i2, d7, i3⟩, i4, fun _ => ⟨k7, d7, i2, i3, fun h => absurd h (by decide), fun _ => Option.some.inj (i1.symm.trans a1)⟩⟩
  · cases ht; exact ⟨fun n z => ⟨(fun k h => by cases h), k8, j2, d8, j3⟩, j4, fun _ => ⟨k8, d8, j2, j3, fun h => absurd h (by decide), fun _ => Option.some.inj (j1.symm.trans h5)⟩⟩
  · cases ht
set_option maxRecDepth 100000 in
theorem en_nw {args : Array Value} {s : State} (hall : ∀ w ∈ w_all, w.before args s = true) : ∀ w ∈ z_nw, va_Nw w s := by
  intro w hw
  simp only [z_nw, List.mem_cons, List.not_mem_nil, or_false] at hw
  rcases hw with rfl | rfl
  · exact va_Nw.of rfl (w_1in (i := 1059) hall (by decide +kernel))
  · exact va_Nw.of rfl (w_1in (i := 1491) hall (by decide +kernel))
def lmn_w (o : Option Cond) (C : String) (n : Nat) (y : MethodName) : Bool := match o with
  | some (.methodLinkNest a b c _) => decide (a = C) && Nat.beq b n && decide (c = y)
  | _ => false
theorem lmn_of {o : Option Cond} {C : String} {n : Nat} {y : MethodName} (h : lmn_w o C n y = true) : ∃ host, o = some (.methodLinkNest C n y host) := by
  unfold lmn_w at h
  split at h
  · rename_i a b c host
    simp only [Bool.and_eq_true, decide_eq_true_eq] at h
    obtain ⟨⟨h1, h2⟩, h3⟩ := h
    have h2 := Nat.eq_of_beq_eq_true h2
    subst h1 h2 h3
    exact ⟨_, rfl⟩
  · cases h
def lmn_chk (q : Nat × Nat × Nat × Nat × MethodName × List Nat) : Bool := bif Nat.beq q.2.2.2.1 2 || Nat.beq q.2.2.2.1 4 || Nat.beq q.2.2.2.1 6 then lmn_w w_all[q.2.2.2.2.2.getD 0 0]? (z_cn q.1) q.2.1 (z_y q.2.2.1) else true
set_option maxRecDepth 100000 in
theorem lmn_all : z_lm.all lmn_chk = true := by decide +kernel
theorem en_lm {args : Array Value} {s : State} (hall : ∀ w ∈ w_all, w.before args s = true) : ∀ q ∈ z_lm, q.2.2.2.1 = 2 ∨ q.2.2.2.1 = 4 ∨ q.2.2.2.1 = 6 → ∃ host, va_Nw (.methodLinkNest (z_cn q.1) q.2.1 (z_y q.2.2.1) host) s := by
  intro q hq hw
  have h := List.all_eq_true.mp lmn_all q hq
  unfold lmn_chk at h
  have h1 : (Nat.beq q.2.2.2.1 2 || Nat.beq q.2.2.2.1 4 || Nat.beq q.2.2.2.1 6) = true := by
    rcases hw with e | e | e <;> rw [e] <;> rfl
  rw [h1] at h
  obtain ⟨host, e⟩ := lmn_of h
  exact ⟨host, va_Nw.of rfl (hall _ (List.mem_of_getElem? e))⟩
set_option maxRecDepth 100000 in
theorem en_la {args : Array Value} {s : State} (hall : ∀ w ∈ w_all, w.before args s = true) : ∀ q ∈ z_la, va_Nw (.arrayOver (match z_ety q.2.2.1 with | some t => t | none => .int)) s := by
  have h1 : va_Nw (.arrayOver (.object "ClauseDesk$Kind")) s := by
    have z := w_1in (i := 130) (w := (.arrayOver (.object "ClauseDesk$Kind"))) hall (by decide +kernel)
    exact z
  have h2 : va_Nw (.arrayOver (.object "ClauseDesk$Clause")) s := by
    have z := w_1in (i := 175) (w := (.arrayOver (.object "ClauseDesk$Clause"))) hall (by decide +kernel)
    exact z
  have h3 : va_Nw (.arrayOver (.object "ClauseDeskLaw$Item")) s := by
    have z := w_1in (i := 1657) (w := (.arrayOver (.object "ClauseDeskLaw$Item"))) hall (by decide +kernel)
    exact z
  have h4 : va_Nw (.arrayOver (.array .int)) s := by
    have z := w_1in (i := 1647) (w := (.arrayOver (.array .int))) hall (by decide +kernel)
    exact z
  have h5 : va_Nw (.arrayOver (.array (.object "ClauseDeskLaw$Item"))) s := by
    have z := w_1in (i := 1649) (w := (.arrayOver (.array (.object "ClauseDeskLaw$Item")))) hall (by decide +kernel)
    exact z
  intro q hq
  simp only [z_la, List.mem_cons, List.not_mem_nil, or_false] at hq
  rcases hq with rfl | rfl | rfl | rfl | rfl | rfl
  · exact h1
  · exact h1
  · exact h2
  · exact h3
  · exact h4
  · exact h5
