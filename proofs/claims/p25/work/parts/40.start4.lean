/-! The start: the world. -/
theorem c_16 {a : Nat} (h : c_kd a = 16) : 1 ≤ a ∧ a ≤ 43 := by
  rcases c_cases (a := a) (by omega) with ⟨h1, h2, -⟩ | rfl | rfl | rfl | rfl | rfl | ⟨j, -, -, h1⟩ | ⟨j, -, -, h1⟩
  · exact ⟨h1, h2⟩
  · exact absurd h (by decide)
  · exact absurd h (by decide)
  · exact absurd h (by decide)
  · exact absurd h (by decide)
  · exact absurd h (by decide)
  · omega
  · omega
theorem c_14 {a : Nat} (h : c_kd a = 14) : ∃ j, j < 58 ∧ a = 100 + j := by
  rcases c_cases (a := a) (by omega) with ⟨-, -, h1⟩ | rfl | rfl | rfl | rfl | rfl | ⟨j, h1, h2, -⟩ | ⟨j, -, -, h1⟩
  · omega
  · exact absurd h (by decide)
  · exact absurd h (by decide)
  · exact absurd h (by decide)
  · exact absurd h (by decide)
  · exact absurd h (by decide)
  · exact ⟨j, h1, h2⟩
  · omega
theorem c_hi {a : Nat} (h : 1000 ≤ a) : c_kd a = 0 := by
  unfold c_kd
  rw [ble_of (show 200 ≤ a by omega)]
  show (bif Nat.blt a 258 then a - 70 else 0) = 0
  rw [show Nat.blt a 258 = false from ble_no (by omega)]
  rfl
theorem c_nm_k {a : Nat} (h : a ≤ 43) : c_nm a = ("ClauseDesk$Kind", c_kn.getD (a - 1) "", "LClauseDesk$Kind;") := by
  unfold c_nm
  rw [beq_no (show a ≠ 45 by omega), beq_no (show a ≠ 61 by omega), beq_no (show a ≠ 62 by omega), beq_no (show a ≠ 70 by omega)]
  rfl
theorem va_T_to {ty : FieldType} {t N : Nat} {f g : Nat → Value} {A : Nat → Prop} {U : State} {H : Heap} (h : va_T ty t N f A U H) (e : ∀ j, j < N → f j = g j) : va_T ty t N g A U H := by
  obtain ⟨cell, h1, h2, h3, h4, h5, h6, h7⟩ := h
  exact ⟨cell, h1, h2, h3, h4, h5, fun j hj => by rw [h6 j hj, e j hj], h7⟩
theorem all_getD {α : Type} {l : List α} {p : α → Bool} (h : l.all p = true) {j : Nat} (hj : j < l.length) (d : α) : p (l.getD j d) = true := by
  have e : l.getD j d = l[j] := by simp [List.getD, hj]
  rw [e]
  exact List.all_eq_true.mp h _ (List.getElem_mem hj)
set_option maxRecDepth 100000 in
theorem zc_b : ∀ j, j < 58 → z_cty (130 + j) = .byte ∧ p_kR (130 + j) = false ∧ k_new (130 + j) = false := by decide +kernel
/-- the world of the start -/
def c_G (sz : Nat) (D : va_G) (AA : Nat → ClassId) (ad : Nat → Nat) (fm : Option Nat) (L : Nat) (xs : Nat → Int32) : GG := (sz, ad, c_op ad fm, D, AA, c_w L xs)
theorem c_rv {ad : Nat → Nat} {fm : Option Nat} (x : Nat) (h1 : x ≠ 0) (h2 : x ≠ 70) : va_rf (c_op ad fm x) = .ref (ad x) := by
  unfold c_op
  rw [beq_no h1, beq_no h2]
  rfl
set_option maxRecDepth 100000 in
theorem en_all {args : Array Value} {s : State} (h0 : n_T.before args s = true) (hall : ∀ w ∈ w_all, w.before args s = true) (hts : ∀ w ∈ w_g, w.before args s = true) {b L : Nat} {xs : Nat → Int32} (hX : va_X b L xs s s.heap) (hb : b < s.heap.size) :
    ∃ G : GG, GOK G ∧ EnvG G s ∧ Rep G (c_w L xs) s.heap ∧ g_ad G 60 = b ∧ g_sz G = s.heap.size := by
  have hA : ∀ a : Nat, a < s.heap.size → ¬ (fun q => s.heap.size ≤ q) a := fun a h1 h2 => absurd h1 (Nat.not_lt.mpr h2)
  obtain ⟨D, hD⟩ := en_cls hts
  obtain ⟨AA, hAA⟩ := en_arr hall
  obtain ⟨ak, hk⟩ := en_kind (A := fun q => s.heap.size ≤ q) h0 hA
  obtain ⟨as, av, hs⟩ := en_str (A := fun q => s.heap.size ≤ q) h0 hA
  have hkt := en_kt h0 hA (fun i hi => (hk i hi).1) (fun j hj => (hs j hj).1)
  obtain ⟨⟨ks, ks1, ks2⟩, ⟨sw, sw1, sw2⟩, ⟨d1, d11, d12⟩, d2, d21, d22⟩ := en_rows h0 hA (fun i hi => (hk i hi).1)
  obtain ⟨fm, hfm⟩ : ∃ fm : Option Nat, tFM.eval args s none [] s = some (va_rf fm) := by
    have hr := n_in h0 n1_3.1
    cases hv : tFM.eval args s none [] s with
    | none => simp [Cond.before, Cond.holds, Cond.value, hv] at hr
    | some w =>
      cases w with
      | null => exact ⟨none, rfl⟩
      | ref a => exact ⟨some a, rfl⟩
      | _ => simp [Cond.before, Cond.holds, Cond.value, hv, Value.isRef] at hr
  obtain ⟨ad, had⟩ : ∃ ad : Nat → Nat, ad = c_ad s.heap.size b ks sw d1 d2 ak as av := ⟨_, rfl⟩
  have a_n : ∀ a, 1000 ≤ a → ad a = s.heap.size + (a - 1000) := fun a h => by rw [had]; exact c_ad_n h
  have a_v : ∀ j, j < 58 → ad (200 + j) = av j := fun j h => by rw [had]; exact c_ad_v h
  have a_s : ∀ j, j < 58 → ad (100 + j) = as j := fun j h => by rw [had]; exact c_ad_s h
  have a_k : ∀ a, a ≤ 43 → ad a = ak (a - 1) := fun a h => by rw [had]; exact c_ad_k h
  have a44 : ad 44 = ks := by rw [had]; rfl
  have a45 : ad 45 = sw := by rw [had]; rfl
  have a60 : ad 60 = b := by rw [had]; rfl
  have a61 : ad 61 = d1 := by rw [had]; rfl
  have a62 : ad 62 = d2 := by rw [had]; rfl
  clear had
  refine ⟨c_G s.heap.size D AA ad fm L xs, ?_, ?_, ?_, a60, rfl⟩
  · refine ⟨rfl, fun x h1 h2 => ?_, fun a ha => ?_, rfl, rfl, fun a1 b1 ha hb h1 h2 h3 => ?_⟩
    · show c_op ad fm x = some (ad x)
      unfold c_op
      rw [beq_no h1, beq_no h2]
      rfl
    · show ad a + 1000 = s.heap.size + a
      rw [a_n a ha]
      omega
    · obtain ⟨g1, g2⟩ := c_16 h1
      obtain ⟨g3, g4⟩ := c_16 h2
      have h3 : ad a1 = ad b1 := h3
      rw [a_k _ g2, a_k _ g4] at h3
      have := c_apart (fun i hi => (hk i hi).2.2) (by omega) (by omega) h3
      omega
  · refine ⟨hD, hAA, en_nw hall, en_lm hall, en_la hall, fun q hq => ?_, fun q hq => ?_, fun q hq => ?_, fun q hq => ?_, fun a ha h => ?_, fun a ha h => ?_, fun a ha h => ?_, Nat.le_refl _, fun a ha h => ?_⟩
    · have h := List.all_eq_true.mp lgs_all q hq
      simp only [lgs_chk, Bool.and_eq_true, Bool.or_eq_true, decide_eq_true_eq] at h
      obtain ⟨⟨⟨h1, h2⟩, h3⟩, h4⟩ := h
      have hv : (Term.static q.2.2.2.1.1 q.2.2.2.1.2.1 q.2.2.2.1.2.2).eval args s none [] s = some (va_rf (c_op ad fm q.2.2.1)) := by
        rw [h1]
        rcases h4 with (((h | h) | h) | h) | h
        · rw [Nat.eq_of_beq_eq_true h, c_rv 45 (by decide) (by decide), a45]; exact sw1
        · rw [Nat.eq_of_beq_eq_true h, c_rv 61 (by decide) (by decide), a61]; exact d11
        · rw [Nat.eq_of_beq_eq_true h, c_rv 62 (by decide) (by decide), a62]; exact d21
        · rw [Nat.eq_of_beq_eq_true h]; exact hfm
        · have g1 := Nat.le_of_ble_eq_true h.1
          have g2 := Nat.le_of_ble_eq_true h.2
          rw [c_rv _ (by omega) (by omega), a_k _ g2, c_nm_k g2]
          exact (hk _ (by omega)).1
      exact va_Zof (w_1in hall h2) (w_1in hall h3) hv hA
    · simp only [z_lgi, List.mem_cons, List.not_mem_nil, or_false] at hq
      rcases hq with rfl | rfl
      · show va_Z "java/lang/String" "COMPACT_STRINGS" "Z" (.int (Int32.ofInt 1)) _ s s.heap
        rw [show Int32.ofInt 1 = 1 from by decide]
        exact va_Zof (w_1in hall c_lays.1) (w_1in hall c_lays.2.2.2) (va_eqt (n_in h0 n1_3.2)) hA
      · show va_Z "java/lang/String" "COMPACT_STRINGS" "Z" (.int (Int32.ofInt 1)) _ s s.heap
        rw [show Int32.ofInt 1 = 1 from by decide]
        exact va_Zof (w_1in hall c_lays.1) (w_1in hall c_lays.2.2.2) (va_eqt (n_in h0 n1_3.2)) hA
    · simp only [z_lgn, List.mem_cons, List.not_mem_nil, or_false] at hq
      subst hq
      show va_Z "ClauseDesk" "KINDS" "[LClauseDesk$Kind;" (va_rf (c_op ad fm 44)) _ s s.heap
      rw [c_rv 44 (by decide) (by decide), a44]
      exact va_Zof (w_1in hall c_lays.2.1) (w_1in hall c_lays.2.2.1) ks1 hA
    · have h := List.all_eq_true.mp lss_all q hq
      simp only [lss_chk, Bool.and_eq_true, decide_eq_true_eq] at h
      obtain ⟨⟨⟨h1, h2⟩, h3⟩, h4⟩ := h
      have h3 := Nat.le_of_ble_eq_true h3
      have h4 : q.2.2.1 + 1 ≤ 124 := Nat.le_of_ble_eq_true h4
      obtain ⟨j, hj⟩ : ∃ j, q.2.2.1 = 100 + j := ⟨q.2.2.1 - 100, by omega⟩
      rw [hj, show 100 + j - 100 = j by omega] at h2
      show vk_R _ _ _ (ad q.2.2.1) s
      rw [hj, a_s j (by omega)]
      exact vk_R.of (w_1in hall h1) (by rw [← h2]; exact (hs j (by omega)).1)
    · have h : c_kd a = 14 ∨ c_kd a = 16 := h
      show va_O (z_kn (c_kd a)) (ad a) _ s s.heap ∧ ∀ j, j < z_nf (c_kd a) → va_OF (z_T (c_kd a) j).1 (z_T (c_kd a) j).2.1 (z_T (c_kd a) j).2.2.1 (g_v (c_G s.heap.size D AA ad fm L xs) (f_get (z_ft (100 * c_kd a + j)) (c_w L xs) a j)) (ad a) _ s s.heap
      rcases h with h | h <;> rw [h]
      · obtain ⟨j0, hj0, rfl⟩ := c_14 h
        rw [a_s j0 hj0]
        refine ⟨(hs j0 hj0).2.1, fun j hj => ?_⟩
        have hj : j < 2 := hj
        obtain rfl | rfl : j = 0 ∨ j = 1 := by omega
        · have e : g_v (c_G s.heap.size D AA ad fm L xs) (f_get (z_ft (100 * 14 + 0)) (c_w L xs) (100 + j0) 0) = .ref (av j0) := by
            show va_rf (c_op ad fm (c_rm (100 + j0) 0)) = _
            rw [c_rm_s, c_rv _ (by omega) (by omega), a_v j0 hj0]
          rw [e]
          exact (hs j0 hj0).2.2.1
        · have e : g_v (c_G s.heap.size D AA ad fm L xs) (f_get (z_ft (100 * 14 + 1)) (c_w L xs) (100 + j0) 1) = .int 0 := by
            show Value.int (c_im xs (100 + j0) 1) = _
            rw [c_im_s hj0]
          rw [e]
          exact (hs j0 hj0).2.2.2.1
      · obtain ⟨g1, g2⟩ := c_16 h
        rw [a_k a g2]
        refine ⟨(hk (a - 1) (by omega)).2.1, fun j hj => ?_⟩
        have hj : j < 2 := hj
        obtain rfl | rfl : j = 0 ∨ j = 1 := by omega
        · have e : g_v (c_G s.heap.size D AA ad fm L xs) (f_get (z_ft (100 * 16 + 0)) (c_w L xs) a 0) = .int (Int32.ofNat (a - 1)) := by
            show Value.int (c_im xs a 0) = _
            rw [c_im_k g2]
          rw [e]
          exact (hk (a - 1) (by omega)).2.2
        · obtain ⟨g3, g4⟩ := hkt (a - 1) (by omega)
          have e : g_v (c_G s.heap.size D AA ad fm L xs) (f_get (z_ft (100 * 16 + 1)) (c_w L xs) a 1) = .ref (as (c_kt.getD (a - 1) 0)) := by
            show va_rf (c_op ad fm (c_rm a 1)) = _
            rw [c_rm_k g2, c_rv _ (by omega) (by omega), a_s _ g3]
          rw [e]
          exact g4
    · have h : c_kd a ≠ 0 := h
      show c_kd a = 14 ∨ c_kd a = 16 ∨ 100 ≤ c_kd a
      rcases c_cases h with ⟨-, -, g⟩ | rfl | rfl | rfl | rfl | rfl | ⟨j, -, -, g⟩ | ⟨j, -, -, g⟩
      · omega
      · exact Or.inr (Or.inr (by decide))
      · exact Or.inr (Or.inr (by decide))
      · exact Or.inr (Or.inr (by decide))
      · exact Or.inr (Or.inr (by decide))
      · exact Or.inr (Or.inr (by decide))
      · omega
      · omega
    · have h : 100 ≤ c_kd a := h
      rcases c_cases (a := a) (by omega) with ⟨-, -, g⟩ | rfl | rfl | rfl | rfl | rfl | ⟨j, -, -, g⟩ | ⟨j, hj, rfl, g⟩
      · omega
      · show va_T (.object "ClauseDesk$Kind") (ad 44) 43 (fun j => va_rf (c_op ad fm (j + 1))) _ s s.heap
        rw [a44]
        exact va_T_to ks2 (fun j hj => by rw [c_rv _ (by omega) (by omega), a_k _ (by omega)]; rfl)
      · show va_T .int (ad 45) 43 (fun j => .int (c_sw.getD j 0)) _ s s.heap
        rw [a45]
        exact sw2
      · show va_T .int (ad 60) L (fun j => .int (xs j)) _ s s.heap
        rw [a60]
        obtain ⟨scr, x1, x2, x3, x4, x5⟩ := hX
        exact ⟨scr, x1, x2, x3, by omega, by rw [x4], x5, hA b hb⟩
      · show va_T .byte (ad 61) 100 (fun j => .int (c_d1.getD j 0)) _ s s.heap
        rw [a61]
        exact d12
      · show va_T .byte (ad 62) 100 (fun j => .int (c_d2.getD j 0)) _ s s.heap
        rw [a62]
        exact d22
      · omega
      · obtain ⟨z1, z2, -⟩ := zc_b j hj
        show va_T (z_cty (c_kd (200 + j))) (ad (200 + j)) (c_ln L (200 + j)) (g_e (c_G s.heap.size D AA ad fm L xs) (c_w L xs) (200 + j)) _ s s.heap
        rw [g, z1, a_v j hj, c_ln_v]
        refine va_T_to (hs j hj).2.2.2.2 (fun i hi => ?_)
        show _ = (match p_kR (c_kd (200 + j)) with | true => _ | false => Value.int (c_im xs (200 + j) i))
        rw [g, z2, c_im_v]
    · have h : 100 ≤ c_kd a := h
      show k_new (c_kd a) = false
      rcases c_cases (a := a) (by omega) with ⟨-, -, g⟩ | rfl | rfl | rfl | rfl | rfl | ⟨j, -, -, g⟩ | ⟨j, hj, rfl, g⟩
      · omega
      · decide
      · decide
      · decide
      · decide
      · decide
      · omega
      · rw [g]; exact (zc_b j hj).2.2
  · refine ⟨rfl, Nat.le_refl _, fun a ha => c_hi ha, fun a h1 h2 => absurd h2 (by show ¬ a < 1000; omega), fun a j h1 h2 => ?_, fun a ha => ⟨rfl, rfl, fun _ => rfl, fun _ => rfl⟩, fun a h1 h2 => absurd (c_hi h1) h2⟩
    have h1 : p_kB (c_kd a) = true := h1
    have h2 : j < c_ln L a := h2
    show fits .byte (.int (c_im xs a j)) = true
    have hn : c_kd a ≠ 0 := fun e => by rw [e] at h1; cases h1
    rcases c_cases hn with ⟨-, -, g⟩ | rfl | rfl | rfl | rfl | rfl | ⟨j0, -, -, g⟩ | ⟨j0, hj, rfl, g⟩
    · rw [g] at h1; cases h1
    · cases h1
    · cases h1
    · cases h1
    · have z := all_getD (j := j) c_bytes.2.1 (by rw [c_bytes.2.2.2.1]; exact h2) 0
      exact z
    · have z := all_getD (j := j) c_bytes.2.2.1 (by rw [c_bytes.2.2.2.2]; exact h2) 0
      exact z
    · rw [g] at h1; cases h1
    · rw [c_im_v]
      rw [c_ln_v] at h2
      have z0 := all_getD c_bytes.1 (j := j0) (by rw [show c_sb.length = 58 from by decide]; exact hj) []
      have z := all_getD z0 (j := j) h2 0
      exact z
