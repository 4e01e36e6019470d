/-! Rows written; lengths; bytes copied. -/
section S7
variable {G : GG} {l : Launch} {k pc : Nat} {ls : List Slot} {r : List Value} {h : PH}
theorem wi_o {a i : Nat} {v : Int32} : ∀ b, b ≠ a → (∀ j, p_im (p_wi h a i v) b j = p_im h b j) ∧ ∀ j, p_rm (p_wi h a i v) b j = p_rm h b j := by
  intro b hb
  refine ⟨fun j => ?_, fun j => rfl⟩
  show (if b = a ∧ j = i then v else p_im h b j) = p_im h b j
  rw [if_neg (fun q => hb q.1)]
theorem wr_o {a i : Nat} {v : Nat} : ∀ b, b ≠ a → (∀ j, p_im (p_wr h a i v) b j = p_im h b j) ∧ ∀ j, p_rm (p_wr h a i v) b j = p_rm h b j := by
  intro b hb
  refine ⟨fun j => rfl, fun j => ?_⟩
  show (if b = a ∧ j = i then v else p_rm h b j) = p_rm h b j
  rw [if_neg (fun q => hb q.1)]
/-- a row of numbers is written at one place -/
theorem S_set (hG : GOK G) {H H1 : Heap} {a i : Nat} {v : Int32} (hR : Rep G h H) (ha : 1000 ≤ a) (hk : 100 ≤ p_kd h a) (hkR : p_kR (p_kd h a) = false) (e1 : H1[g_ad G a]? = some ((arrV (g_A G (p_kd h a)) (p_ln h a) (g_e G h a)).setSlot i (.int v))) (e2 : H1.size = H.size) (e3 : ∀ q, q ≠ g_ad G a → H1[q]? = H[q]?)
    (hb : p_kB (p_kd h a) = true → fits .byte (.int v) = true) : Rep G (p_wi h a i v) H1 := by
  refine hR.put hG ha rfl rfl rfl wi_o e2 e3 ?_ ?_
  · unfold g_at
    show (match Nat.ble 100 (p_kd h a) with
      | false => _
      | true => H1[g_ad G a]? = some (arrV (g_A G (p_kd h a)) (p_ln h a) (g_e G (p_wi h a i v) a)))
    rw [show Nat.ble 100 (p_kd h a) = true from Nat.ble_eq_true_of_le hk]
    show H1[g_ad G a]? = _
    rw [e1, arrV_store]
    congr 2
    funext j
    unfold updV g_e
    show (if j = i then Value.int v else _) = (match p_kR (p_kd h a) with
      | true => _
      | false => Value.int (if a = a ∧ j = i then v else p_im h a j))
    rw [hkR]
    by_cases hj : j = i
    · rw [if_pos hj, if_pos ⟨rfl, hj⟩]
    · rw [if_neg hj, if_neg (fun q => hj q.2)]
  · intro hB j hj
    show fits .byte (.int (if a = a ∧ j = i then v else p_im h a j)) = true
    by_cases hji : j = i
    · rw [if_pos ⟨rfl, hji⟩]; exact hb hB
    · rw [if_neg (fun q => hji q.2)]; exact hR.2.2.2.2.1 a j hB hj
theorem S_iastore (hG : GOK G) {a : Nat} {j v : Int32} (hi : (z_code k)[pc]? = some .iastore) (hk : p_kd h a = 100) (ha : 1000 ≤ a) (hj : p_in j (p_ln h a)) : STEP G l k pc ls (.int v :: .int j :: .ref a :: r) h (pc + 1) ls r (p_wi h a j.toNatClampNeg v) := by
  intro d p e R s m args below meth c H locs lsm h0 Z C hR hS hL n0 u0 nc uc kk
  obtain ⟨d1, d2⟩ := at1 (Cx C) hi rfl (fun _ _ => rel1)
  obtain ⟨C1, C2, C3, C4, C5, C6, E, C8, C9⟩ := C
  rw [List.map_cons, List.map_cons, List.map_cons, show g_v G (.ref a) = g_rv G a from rfl, hR.rv hG (x := a) (by omega)]
  obtain ⟨q1, q2⟩ := hR.row ha (by omega)
  have hO := (E.2.1 (p_kd h a) .int (by rw [hk]; rfl)).1
  refine W.iast C1 C2 q1 (hO _ _) (by intro h; cases h) (vp_in_size hj) rfl rfl d1 (fun H1 e1 e2 e3 => ?_)
  have K := kk H1 (locs ++ [⟨g_ad G a, j.toNatClampNeg⟩]) lsm (S_set hG hR ha (by omega) (by rw [hk]; rfl) e1 e2 e3 (by rw [hk]; intro h; cases h)) (hS.put e2 e3 (g_free hG ha)) hL
  rw [d2] at K
  exact K
theorem b_fits (v : Int32) : fits .byte (.int v.toInt8.toInt32) = true := pk_fb v
theorem S_bastore (hG : GOK G) {a : Nat} {j v : Int32} (hi : (z_code k)[pc]? = some .bastore) (hk : p_kd h a = 120) (ha : 1000 ≤ a) (hj : p_in j (p_ln h a)) : STEP G l k pc ls (.int v :: .int j :: .ref a :: r) h (pc + 1) ls r (p_wi h a j.toNatClampNeg v.toInt8.toInt32) := by
  intro d p e R s m args below meth c H locs lsm h0 Z C hR hS hL n0 u0 nc uc kk
  obtain ⟨d1, d2⟩ := at1 (Cx C) hi rfl (fun _ _ => rel1)
  obtain ⟨C1, C2, C3, C4, C5, C6, E, C8, C9⟩ := C
  rw [List.map_cons, List.map_cons, List.map_cons, show g_v G (.ref a) = g_rv G a from rfl, hR.rv hG (x := a) (by omega)]
  obtain ⟨q1, q2⟩ := hR.row ha (by omega)
  have hO := (E.2.1 (p_kd h a) .byte (by rw [hk]; rfl)).1
  refine W.bast C1 C2 q1 (hO _ _) (by intro h; cases h) (vp_in_size hj) rfl rfl d1 (fun H1 e1 e2 e3 => ?_)
  have K := kk H1 (locs ++ [⟨g_ad G a, j.toNatClampNeg⟩]) lsm (S_set hG hR ha (by omega) (by rw [hk]; rfl) e1 e2 e3 (fun _ => b_fits v)) (hS.put e2 e3 (g_free hG ha)) hL
  rw [d2] at K
  exact K
theorem S_castore (hG : GOK G) {a : Nat} {j v : Int32} (hi : (z_code k)[pc]? = some .castore) (hk : p_kd h a = 300) (hv : v = 0 ∨ v = 1) (ha : 1000 ≤ a) (hj : p_in j (p_ln h a)) : STEP G l k pc ls (.int v :: .int j :: .ref a :: r) h (pc + 1) ls r (p_wi h a j.toNatClampNeg v) := by
  intro d p e R s m args below meth c H locs lsm h0 Z C hR hS hL n0 u0 nc uc kk
  obtain ⟨q, len, d1, d2, d3⟩ := at_pc (Cx C) hi
  have d4 := d3.resolve_left (by intro h; cases h)
  have d2 := Bool.and_eq_true_iff.mp d2
  have e5 := of_decide_eq_true d2.1
  have e6 := Nat.eq_of_beq_eq_true d2.2
  subst e5; subst e6
  obtain ⟨C1, C2, C3, C4, C5, C6, E, C8, C9⟩ := C
  rw [List.map_cons, List.map_cons, List.map_cons, show g_v G (.ref a) = g_rv G a from rfl, hR.rv hG (x := a) (by omega)]
  obtain ⟨q1, q2⟩ := hR.row ha (by omega)
  have hO := (E.2.1 (p_kd h a) .boolean (by rw [hk]; rfl)).1
  refine W.zast C1 C2 q1 (hO _ _) (by intro h; cases h) (vp_in_size hj) rfl rfl d1 (fun H1 e1 e2 e3 => ?_)
  have hnar : narrow .boolean (.int v) = .int v := by rcases hv with rfl | rfl <;> decide
  rw [hnar] at e1
  have K := kk H1 (locs ++ [⟨g_ad G a, j.toNatClampNeg⟩]) lsm (S_set hG hR ha (by omega) (by rw [hk]; rfl) e1 e2 e3 (by rw [hk]; intro h; cases h)) (hS.put e2 e3 (g_free hG ha)) hL
  rw [d4] at K
  exact K
theorem S_len (hG : GOK G) {a : Nat} (hi : (z_code k)[pc]? = some .arraylength) (hk : Nat.ble 100 (p_kd h a) = true) : STEP G l k pc ls (.ref a :: r) h (pc + 1) ls (.int (Int32.ofNat (p_ln h a)) :: r) h := by
  intro d p e R s m args below meth c H locs lsm h0 Z C hR hS hL n0 u0 nc uc kk
  obtain ⟨d1, d2⟩ := at1 (Cx C) hi rfl (fun _ _ => rel1)
  have K := kk H locs lsm hR hS hL
  rw [d2] at K
  obtain ⟨C1, C2, C3, C4, C5, C6, E, C8, C9⟩ := C
  have hk := Nat.le_of_ble_eq_true hk
  rw [List.map_cons, show g_v G (.ref a) = g_rv G a from rfl, hR.rv hG (x := a) (by omega)]
  rcases Nat.lt_or_ge a 1000 with hlt | hge2
  · obtain ⟨s1, s2, s3, s4⟩ := hR.2.2.2.2.2.1 a hlt
    have hT := E.2.2.2.2.2.2.2.2.2.2.2.1 a hlt (by omega)
    exact va_tlen C1 C2 hT hS (by rw [s2]) d1 K
  · obtain ⟨q1, q2⟩ := hR.row hge2 hk
    have hty : ∃ t, z_ety (p_kd h a) = some t := by
      simp only [k_new, Bool.or_eq_true, Bool.and_eq_true] at q2
      rcases q2 with (((((((⟨q3, q2⟩ | q) | q) | q) | q) | q) | q) | q) | q
      · have := Nat.le_of_ble_eq_true q2; omega
      all_goals (rw [Nat.eq_of_beq_eq_true q]; exact ⟨_, rfl⟩)
    obtain ⟨t, ht⟩ := hty
    have hO := (E.2.1 (p_kd h a) t ht).1
    exact W.alen C1 C2 q1 (hO _ _) (by rw [arrV_size]) rfl rfl d1 K
theorem S_aastore (hG : GOK G) {a v : Nat} {j : Int32} (hi : (z_code k)[pc]? = some .aastore) (hk : p_kR (p_kd h a) = true) (ha : 1000 ≤ a) (hv : p_kd h v = p_el (p_kd h a) ∧ ¬ v = 0) (hj : p_in j (p_ln h a)) : STEP G l k pc ls (.ref v :: .int j :: .ref a :: r) h (pc + 1) ls r (p_wr h a j.toNatClampNeg v) := by
  intro d p e R s m args below meth c H locs lsm h0 Z C hR hS hL n0 u0 nc uc kk
  obtain ⟨d1, d2⟩ := at1 (Cx C) hi rfl (fun _ _ => rel1)
  obtain ⟨C1, C2, C3, C4, C5, C6, E, C8, C9⟩ := C
  have hk2 := hk
  simp only [p_kR, Bool.and_eq_true] at hk2
  have a1 := Nat.le_of_ble_eq_true hk2.1
  have a2 := Nat.le_of_ble_eq_true hk2.2
  rw [List.map_cons, List.map_cons, List.map_cons, show g_v G (.ref a) = g_rv G a from rfl, hR.rv hG (x := a) (by omega), show g_v G (.ref v) = g_rv G v from rfl]
  obtain ⟨q1, q2⟩ := hR.row ha (by omega)
  have hkn := kR_new hk q2
  have hty : ∃ t, z_ety (p_kd h a) = some t ∧ t.isReference = true := by
    rcases hkn with q | q | q | q | q <;> rw [q] <;> exact ⟨_, rfl, rfl⟩
  obtain ⟨t, ht, href⟩ := hty
  obtain ⟨hO, hRA, hcl⟩ := E.2.1 (p_kd h a) t ht
  obtain ⟨kA, comp, g1, g2, g3, g4⟩ := hcl href
  have fin : ∀ (H1 : Heap), H1[g_ad G a]? = some ((arrV (g_A G (p_kd h a)) (p_ln h a) (g_e G h a)).setSlot j.toNatClampNeg (g_rv G v)) → H1.size = H.size → (∀ q, q ≠ g_ad G a → H1[q]? = H[q]?) → W p l e R s m args below meth c H1 (locs ++ [⟨g_ad G a, j.toNatClampNeg⟩]) (p_nx h - p_nx h0) (p_us h - p_us h0) Z (F0 m (n_pc (z_raw k) pc + 1) lsm (r.map (g_v G))) := by
    intro H1 e1 e2 e3
    have hR1 : Rep G (p_wr h a j.toNatClampNeg v) H1 := by
      refine hR.put hG ha rfl rfl rfl wr_o e2 e3 ?_ ?_
      · unfold g_at
        show (match Nat.ble 100 (p_kd h a) with
          | false => _
          | true => H1[g_ad G a]? = some (arrV (g_A G (p_kd h a)) (p_ln h a) (g_e G (p_wr h a j.toNatClampNeg v) a)))
        rw [show Nat.ble 100 (p_kd h a) = true from Nat.ble_eq_true_of_le (by omega)]
        show H1[g_ad G a]? = _
        rw [e1, arrV_store]
        congr 2
        funext i
        unfold updV g_e
        show (if i = j.toNatClampNeg then g_rv G v else _) = (match p_kR (p_kd h a) with
          | true => g_rv G (if a = a ∧ i = j.toNatClampNeg then v else p_rm h a i)
          | false => _)
        rw [hk]
        by_cases hji : i = j.toNatClampNeg
        · rw [if_pos hji, if_pos ⟨rfl, hji⟩]
        · rw [if_neg hji, if_neg (fun q => hji q.2)]
      · intro hB
        have := kB_new hB q2
        omega
    have K := kk H1 (locs ++ [⟨g_ad G a, j.toNatClampNeg⟩]) lsm hR1 (hS.put e2 e3 (g_free hG ha)) hL
    rw [d2] at K
    exact K
  obtain ⟨hv, hv0⟩ := hv
  have hvk : p_kd h v ≠ 0 := by rw [hv]; rcases hkn with q | q | q | q | q <;> rw [q] <;> decide
  rw [hR.rv hG hvk] at fin ⊢
  have hcv : ∃ (cv : Cell) (kv : Class), H[g_ad G v]? = some cv ∧ (∀ q, cv.vm ≠ .statics q) ∧ s.vm.classes[cv.cls]? = some kv ∧ cv.cls = comp := by
    have obj : ∀ (k1 : Nat), 1 ≤ k1 → k1 ≤ 15 → k1 ≠ 14 → p_kd h v = k1 → s.vm.findClass (z_kn k1) = some comp → ∃ (cv : Cell) (kv : Class), H[g_ad G v]? = some cv ∧ (∀ q, cv.vm ≠ .statics q) ∧ s.vm.classes[cv.cls]? = some kv ∧ cv.cls = comp := by
      intro k1 b1 b2 b14 b3 b4
      obtain ⟨-, hfc, kC, hkC, -⟩ := E.1 k1 b1 (by omega)
      have hge : 1000 ≤ v := by
        rcases Nat.lt_or_ge v 1000 with q | q
        · obtain ⟨s1, -⟩ := hR.2.2.2.2.2.1 v q
          obtain ⟨-, -, -, -, -, -, -, -, -, -, E11, -⟩ := E
          rcases E11 v q (by rw [← s1, b3]; omega) with z | z | z <;> rw [← s1, b3] at z
          · exact absurd z b14
          · omega
          · omega
        · exact q
      have A := hR.cell hvk hge
      unfold g_at at A
      rw [b3, show Nat.ble 100 k1 = false by
        cases hz : Nat.ble 100 k1
        · rfl
        · have := Nat.le_of_ble_eq_true hz; omega] at A
      obtain ⟨cell, w1, w2, w3, -⟩ := A
      exact ⟨cell, kC, w1, (fun q => by rw [w3]; intro h; cases h), by rw [w2]; exact hkC, by rw [w2]; exact Option.some.inj (hfc.symm.trans b4)⟩
    have arr : ∀ (k1 : Nat), 100 ≤ k1 → k_new k1 = true → p_kd h v = k1 → comp = g_A G k1 → (∃ t, z_ety k1 = some t) → ∃ (cv : Cell) (kv : Class), H[g_ad G v]? = some cv ∧ (∀ q, cv.vm ≠ .statics q) ∧ s.vm.classes[cv.cls]? = some kv ∧ cv.cls = comp := by
      intro k1 b1 bn b2 b4 ⟨t1, b5⟩
      have b3 : 1000 ≤ v := by
        rcases Nat.lt_or_ge v 1000 with q | q
        · obtain ⟨s1, -⟩ := hR.2.2.2.2.2.1 v q
          have h9 := E.2.2.2.2.2.2.2.2.2.2.2.2.2 v q (by rw [← s1, b2]; exact b1)
          rw [← s1, b2, bn] at h9
          cases h9
        · exact q
      obtain ⟨w1, w2⟩ := hR.row b3 (by omega)
      obtain ⟨hO1, -, -⟩ := E.2.1 k1 t1 b5
      obtain ⟨-, kv, hkv, -⟩ := hO1 0 (fun _ => .null)
      exact ⟨_, kv, w1, (fun q => by intro h; cases h), by rw [b2]; exact hkv, by rw [b2]; exact b4.symm⟩
    rcases hkn with q | q | q | q | q
    · rw [q] at hv g3
      have hlt := hR.enum v hv
      obtain ⟨s1, -⟩ := hR.2.2.2.2.2.1 v hlt
      have hO16 := (E.2.2.2.2.2.2.2.2.2.1 v hlt (Or.inr (s1.symm.trans hv))).1
      rw [← s1, hv] at hO16
      obtain ⟨cell, w1, w2, w3, w4⟩ := hO16.kept hS.2.1
      obtain ⟨kC, hkC, -⟩ := Vm.findClass_spec w3
      have e1 : cell.cls = comp := Option.some.inj (w3.symm.trans (g3 (by omega)))
      exact ⟨cell, kC, w1, (fun z hz => by rw [hz] at w2; cases w2), hkC, e1⟩
    · rw [q] at hv g3
      exact obj 6 (by omega) (by omega) (by omega) hv (g3 (by omega))
    · rw [q] at hv g3
      exact obj 15 (by omega) (by omega) (by omega) hv (g3 (by omega))
    · rw [q] at hv g4
      exact arr 100 (by omega) rfl hv (g4 (by omega)) ⟨_, rfl⟩
    · rw [q] at hv g4
      exact arr 313 (by omega) rfl hv (g4 (by omega)) ⟨_, rfl⟩
  obtain ⟨cv, kv, c1, c2, c3, c4⟩ := hcv
  exact W.aast C1 C2 q1 (fun q => by intro h; cases h) (by intro h; cases h) g1 g2 href (by rw [← c4]; exact c3) ⟨fun q => absurd (n_pos (n := j) (fun _ => p_in_vp hj (Or.inl q))) (by have := Int32.lt_iff_toInt_lt.mp q; simp at this; omega), by rw [arrV_size]; exact hj.2⟩ c1 c2 c3 (by rw [c4]; exact va_asg _ _) rfl rfl d1 fin
end S7
