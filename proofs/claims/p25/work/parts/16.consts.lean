/-! Constants: numbers, texts, statics. -/
def lk_chk (q : Nat × Nat × Int × Nat) : Bool := decide (w_all[q.2.2.2]? = some (Cond.constant (z_cn q.1) q.2.1 (Int32.ofInt q.2.2.1)))
def ll_chk (q : Nat × Nat × Nat × Nat) : Bool := decide (w_all[q.2.2.2]? = some (Cond.constantLong (z_cn q.1) q.2.1 (Int64.ofNat q.2.2.1)))
def lgi_chk (q : Nat × Nat × Int × (String × String × String) × Nat) : Bool := decide (w_all[q.2.2.2.2]? = some (Cond.fieldLink (z_cn q.1) q.2.1 q.2.2.2.1.1 q.2.2.2.1.2.1 q.2.2.2.1.2.2))
def lg_chk (q : Nat × Nat × Nat × (String × String × String) × Nat) : Bool := decide (w_all[q.2.2.2.2]? = some (Cond.fieldLink (z_cn q.1) q.2.1 q.2.2.2.1.1 q.2.2.2.1.2.1 q.2.2.2.1.2.2))
set_option maxRecDepth 100000 in
theorem lk_all : z_lk.all lk_chk = true := by decide +kernel
set_option maxRecDepth 100000 in
theorem ll_all : z_ll.all ll_chk = true := by decide +kernel
set_option maxRecDepth 100000 in
theorem lgi_all : z_lgi.all lgi_chk = true := by decide +kernel
set_option maxRecDepth 100000 in
theorem lg_all : z_lg.all lg_chk = true := by decide +kernel
theorem ls_all : z_ls.all (fun q => Nat.ble 100 q.2.2.1) = true := by decide +kernel
theorem lgn_all : ∀ q ∈ z_lgn, Cond.fieldLinkNest (z_cn q.1) q.2.1 q.2.2.2.1 q.2.2.2.2.1 q.2.2.2.2.2 "ClauseDesk" ∈ z_nw := by decide +kernel
theorem lk_use {o x : Nat} {n : Int} (h : z_lk.any (fun q => Nat.beq q.1 o && Nat.beq q.2.1 x && decide (q.2.2.1 = n)) = true) : Cond.constant (z_cn o) x (Int32.ofInt n) ∈ w_g := by
  obtain ⟨q, hq, h1⟩ := List.any_eq_true.mp h
  simp only [Bool.and_eq_true, decide_eq_true_eq] at h1
  obtain ⟨⟨e1, e2⟩, e3⟩ := h1
  have e1 := Nat.eq_of_beq_eq_true e1
  have e2 := Nat.eq_of_beq_eq_true e2
  have h2 := of_decide_eq_true (List.all_eq_true.mp lk_all q hq)
  rw [e1, e2, e3] at h2
  exact w_at h2 rfl
section S10
variable {G : GG} {l : Launch} {k pc : Nat} {ls : List Slot} {r : List Value} {h : PH}
theorem S_iconst {n : Int} (hi : (z_code k)[pc]? = some (.iconst n)) : STEP G l k pc ls r h (pc + 1) ls (.int (Int32.ofInt n) :: r) h := by
  intro d p e R s m args below meth c H locs lsm h0 Z C hR hS hL n0 u0 nc uc kk
  obtain ⟨q, len, d1, d2, d3⟩ := at_pc (Cx C) hi
  have d4 := d3.resolve_left (by intro h; cases h)
  have K := kk H locs lsm hR hS hL
  obtain ⟨C1, C2, C3, C4, C5, C6, E, C8, C9, C10, C11⟩ := C
  have d2 : e_cn (z_ow k) n q len = true := d2
  cases q <;> first
    | exact absurd d2 (by intro h; cases h)
    | skip
  all_goals (have d2 := Bool.and_eq_true_iff.mp d2)
  all_goals (have e3 := Nat.eq_of_beq_eq_true d2.2)
  all_goals (subst e3)
  all_goals (rw [d4] at K)
  · exact lv_bipush C1 C2 d1 (of_decide_eq_true d2.1) K
  · obtain ⟨q, hq, h1⟩ := List.any_eq_true.mp d2.1
    simp only [Bool.and_eq_true, decide_eq_true_eq] at h1
    obtain ⟨⟨e1, e2⟩, e3⟩ := h1
    have e1 := Nat.eq_of_beq_eq_true e1
    have e2 := Nat.eq_of_beq_eq_true e2
    have h2 := of_decide_eq_true (List.all_eq_true.mp lgi_all q hq)
    have hZ := E.2.2.2.2.2.2.1 q hq
    rw [e1, e2] at h2
    rw [e3] at hZ
    exact va_gets C1 C2 hZ hS C5 (C6 _ (w_at h2 rfl)) (fun _ z => z) d1 K
  · have e1 := of_decide_eq_true d2.1
    subst e1
    exact lv_iconst C1 C2 d1 rfl K
  · exact lv_ldc C1 C2 C5 (C6 _ (lk_use d2.1)) d1 K
  · exact lv_ldcw C1 C2 C5 (C6 _ (lk_use d2.1)) d1 K
  · exact lv_sipush C1 C2 d1 (of_decide_eq_true d2.1) K
theorem S_lconst {n : Nat} (hi : (z_code k)[pc]? = some (.ldc2_w n)) : STEP G l k pc ls r h (pc + 1) ls (.long (Int64.ofNat n) :: r) h := by
  intro d p e R s m args below meth c H locs lsm h0 Z C hR hS hL n0 u0 nc uc kk
  obtain ⟨q, len, d1, d2, d3⟩ := at_pc (Cx C) hi
  have d4 := d3.resolve_left (by intro h; cases h)
  have K := kk H locs lsm hR hS hL
  obtain ⟨C1, C2, C3, C4, C5, C6, E, C8, C9, C10, C11⟩ := C
  cases q <;> first
    | exact absurd d2 (by intro h; cases h)
    | skip
  all_goals (have d2 := Bool.and_eq_true_iff.mp d2)
  all_goals (have e3 := Nat.eq_of_beq_eq_true d2.2)
  all_goals (subst e3)
  all_goals (rw [d4] at K)
  · exact lv_lconst C1 C2 d1 (by rw [Nat.eq_of_beq_eq_true d2.1]) K
  · obtain ⟨q, hq, h1⟩ := List.any_eq_true.mp d2.1
    simp only [Bool.and_eq_true] at h1
    obtain ⟨⟨e1, e2⟩, e3⟩ := h1
    have e1 := Nat.eq_of_beq_eq_true e1
    have e2 := Nat.eq_of_beq_eq_true e2
    have e3 := Nat.eq_of_beq_eq_true e3
    have h2 := of_decide_eq_true (List.all_eq_true.mp ll_all q hq)
    rw [e1, e2, e3] at h2
    exact lv_ldc2 C1 C2 C5 (C6 _ (w_at h2 rfl)) d1 K
theorem S_dconst {n : Fin 2} (hi : (z_code k)[pc]? = some (.dconst n)) : STEP G l k pc ls r h (pc + 1) ls (.double 0 :: r) h := by
  intro d p e R s m args below meth c H locs lsm h0 Z C hR hS hL n0 u0 nc uc kk
  obtain ⟨q, len, d1, d2, d3⟩ := at_pc (Cx C) hi
  have d4 := d3.resolve_left (by intro h; cases h)
  have K := kk H locs lsm hR hS hL
  cases q <;> first
    | exact absurd d2 (by intro h; cases h)
    | skip
  rename_i f
  have d2 := Bool.and_eq_true_iff.mp d2
  have e3 := Nat.eq_of_beq_eq_true d2.2
  subst e3
  have e1 : f = 0 := Fin.ext (Nat.eq_of_beq_eq_true d2.1)
  subst e1
  rw [d4] at K
  exact lv_dconst0 C.1 C.2.1 d1 K
theorem S_ldc (hG : GOK G) {a : Nat} (hi : (z_code k)[pc]? = some (.ldc a)) : STEP G l k pc ls r h (pc + 1) ls (.ref a :: r) h := by
  intro d p e R s m args below meth c H locs lsm h0 Z C hR hS hL n0 u0 nc uc kk
  obtain ⟨q, len, d1, d2, d3⟩ := at_pc (Cx C) hi
  have d4 := d3.resolve_left (by intro h; cases h)
  have K := kk H locs lsm hR hS hL
  obtain ⟨C1, C2, C3, C4, C5, C6, E, C8, C9, C10, C11⟩ := C
  rw [List.map_cons, show g_v G (.ref a) = g_rv G a from rfl] at K
  cases q <;> first
    | exact absurd d2 (by intro h; cases h)
    | skip
  all_goals (have d2 := Bool.and_eq_true_iff.mp d2)
  all_goals (have e3 := Nat.eq_of_beq_eq_true d2.2)
  all_goals (subst e3)
  all_goals (rw [d4] at K)
  · rcases Bool.or_eq_true_iff.mp d2.1 with d5 | d5
    · obtain ⟨q, hq, h1⟩ := List.any_eq_true.mp d5
      simp only [Bool.and_eq_true] at h1
      obtain ⟨⟨e1, e2⟩, e3⟩ := h1
      have e1 := Nat.eq_of_beq_eq_true e1
      have e2 := Nat.eq_of_beq_eq_true e2
      have e3 := Nat.eq_of_beq_eq_true e3
      have h2 := of_decide_eq_true (List.all_eq_true.mp lg_all q hq)
      have hZ := E.2.2.2.2.2.1 q hq
      rw [e1, e2] at h2
      rw [e3] at hZ
      exact va_gets C1 C2 hZ hS C5 (C6 _ (w_at h2 rfl)) (fun _ z => z) d1 K
    · obtain ⟨q, hq, h1⟩ := List.any_eq_true.mp d5
      simp only [Bool.and_eq_true] at h1
      obtain ⟨⟨e1, e2⟩, e3⟩ := h1
      have e1 := Nat.eq_of_beq_eq_true e1
      have e2 := Nat.eq_of_beq_eq_true e2
      have e3 := Nat.eq_of_beq_eq_true e3
      have h2 := E.2.2.1 _ (lgn_all q hq)
      have hZ := E.2.2.2.2.2.2.2.1 q hq
      rw [e1, e2] at h2
      rw [e3] at hZ
      exact va_getsN C1 C2 hZ hS C5 (va_Nw.use rfl h2) (fun _ z => z) d1 K
  · obtain ⟨q, hq, h1⟩ := List.any_eq_true.mp d2.1
    simp only [Bool.and_eq_true] at h1
    obtain ⟨⟨e1, e2⟩, e3⟩ := h1
    have e1 := Nat.eq_of_beq_eq_true e1
    have e2 := Nat.eq_of_beq_eq_true e2
    have e3 := Nat.eq_of_beq_eq_true e3
    have hZ := E.2.2.2.2.2.2.2.2.1 q hq
    have hge := Nat.le_of_ble_eq_true (List.all_eq_true.mp ls_all q hq)
    rw [e1, e2, e3] at hZ
    rw [e3] at hge
    rw [g_rvr hG (by omega) (by omega)] at K
    exact va_ldcS C1 C2 C5 hZ d1 K
theorem sw_inv {x : Int32} {K : Nat → Prop} {dflt : Nat} : ∀ {lo : Int} {l : List Int}, 0 ≤ lo → lo + l.length ≤ 200 → b_sw x K dflt lo l → (∃ (i : Nat) (o : Int), l[i]? = some o ∧ x.toInt = lo + i ∧ K o.toNat) ∨ ((∀ i : Nat, i < l.length → x.toInt ≠ lo + i) ∧ K dflt)
  | lo, [], _, _, h => Or.inr ⟨fun i hi => by simp at hi, h⟩
  | lo, o :: r, h1, h2, h => by
    simp only [List.length_cons] at h2
    have hl : (Int32.ofInt lo).toInt = lo := by
      rw [Int32.toInt_ofInt_of_le (by omega) (by omega)]
    unfold b_sw at h
    split at h
    · next hx =>
      refine Or.inl ⟨0, o, rfl, ?_, h⟩
      rw [hx, hl]; simp
    · next hx =>
      have hne : x.toInt ≠ lo := fun q => hx (Int32.toInt_inj.mp (by rw [q, hl]))
      rcases sw_inv (by omega) (by push_cast at h2 ⊢; omega) h with ⟨i, o1, h3, h4, h5⟩ | ⟨h3, h4⟩
      · exact Or.inl ⟨i + 1, o1, by simpa using h3, by rw [h4]; push_cast; omega, h5⟩
      · refine Or.inr ⟨fun i hi => ?_, h4⟩
        cases i with
        | zero => simpa using hne
        | succ i =>
          have := h3 i (by simpa using hi)
          push_cast at this ⊢
          omega
theorem jts_inv {raw : List (Nat × Instr × Nat)} {pc : Nat} : ∀ {a b : List Int}, e_jts raw pc a b = true → a.length = b.length ∧ ∀ (i : Nat) (y : Int), b[i]? = some y → ∃ x, a[i]? = some x ∧ (pc : Int) + x = ((n_pc raw y.toNat : Nat) : Int)
  | [], [], _ => ⟨rfl, fun i y h => by simp at h⟩
  | [], _ :: _, h => by cases h
  | _ :: _, [], h => by cases h
  | x :: a, y :: b, h => by
    have h := Bool.and_eq_true_iff.mp h
    obtain ⟨h1, h2⟩ := jts_inv h.2
    refine ⟨by simp [h1], fun i z hz => ?_⟩
    cases i with
    | zero => simp at hz ⊢; subst hz; exact jt_inv h.1
    | succ i => simp at hz ⊢; exact h2 i z hz
theorem at_sw {dflt lo hi : Int} {ts : Array Int} (hk : k < 190) (hi0 : (z_code k)[pc]? = some (.tableswitch dflt lo hi ts)) : 0 ≤ lo ∧ hi < 100 ∧ ((ts.toList.length : Int) = hi - lo + 1) ∧ ∃ (d1 : Int) (offs : Array Int) (len : Nat), decode (z_b k) (n_pc (z_raw k) pc) = .ok (.tableswitch d1 lo hi offs, len) ∧ ((n_pc (z_raw k) pc : Nat) : Int) + d1 = ((n_pc (z_raw k) dflt.toNat : Nat) : Int) ∧ ∀ (i : Nat) (y : Int), ts.toList[i]? = some y → ∃ x, offs[i]? = some x ∧ ((n_pc (z_raw k) pc : Nat) : Int) + x = ((n_pc (z_raw k) y.toNat : Nat) : Int) := by
  obtain ⟨q, len, d1, d2, d3⟩ := at_pc hk hi0
  cases q <;> first
    | exact absurd d2 (by intro h; cases h)
    | skip
  rename_i e1 e2 e3 offs
  simp only [e_rel, Bool.and_eq_true, decide_eq_true_eq] at d2
  obtain ⟨⟨⟨⟨⟨⟨rfl, rfl⟩, g1⟩, g2⟩, g3⟩, g4⟩, g5⟩ := d2
  obtain ⟨g6, g7⟩ := jts_inv g5
  refine ⟨g1, g2, by rw [← g6]; exact g3, e1, offs, len, d1, jt_inv g4, fun i y hy => ?_⟩
  obtain ⟨x, hx, hx2⟩ := g7 i y hy
  exact ⟨x, by rw [← Array.getElem?_toList]; exact hx, hx2⟩
theorem S_sw_in {dflt lo hi : Int} {ts : Array Int} {x : Int32} {i : Nat} {o : Int} (hi0 : (z_code k)[pc]? = some (.tableswitch dflt lo hi ts)) (ho : ts.toList[i]? = some o) (hx : x.toInt = lo + i) : STEP G l k pc ls (.int x :: r) h o.toNat ls r h := by
  intro d p e R s m args below meth c H locs lsm h0 Z C hR hS hL n0 u0 nc uc kk
  obtain ⟨g1, g2, g3, d1, offs, len, d2, d3, d4⟩ := at_sw (Cx C) hi0
  obtain ⟨y, hy, hy2⟩ := d4 i o ho
  have hlt := (List.getElem?_eq_some_iff.mp ho).1
  exact lv_tableIn C.1 C.2.1 d2 (by omega) (by omega) (by rw [show (x.toInt - lo).toNat = i by omega]; exact hy) hy2 (kk H locs lsm hR hS hL)
theorem S_sw_out {dflt lo hi : Int} {ts : Array Int} {x : Int32} (hi0 : (z_code k)[pc]? = some (.tableswitch dflt lo hi ts)) (hx : ∀ i : Nat, i < ts.toList.length → x.toInt ≠ lo + i) : STEP G l k pc ls (.int x :: r) h dflt.toNat ls r h := by
  intro d p e R s m args below meth c H locs lsm h0 Z C hR hS hL n0 u0 nc uc kk
  obtain ⟨g1, g2, g3, d1, offs, len, d2, d3, d4⟩ := at_sw (Cx C) hi0
  refine lv_tableOut C.1 C.2.1 d2 ?_ d3 (kk H locs lsm hR hS hL)
  by_cases q : x.toInt < lo
  · exact Or.inl q
  · right
    by_cases z : hi < x.toInt
    · exact z
    · have := hx (x.toInt - lo).toNat (by omega)
      omega
end S10
