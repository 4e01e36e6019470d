/-! The start: the constants' picture; what is true of every state, out of the start. -/
def c_ad (sz b ks sw d1 d2 : Nat) (ak as av : Nat → Nat) (a : Nat) : Nat :=
  bif Nat.ble 1000 a then sz + (a - 1000) else bif Nat.ble 200 a then av (a - 200) else bif Nat.ble 100 a then as (a - 100) else
  bif Nat.beq a 44 then ks else bif Nat.beq a 45 then sw else bif Nat.beq a 60 then b else bif Nat.beq a 61 then d1 else bif Nat.beq a 62 then d2 else ak (a - 1)
def c_kd (a : Nat) : Nat := bif Nat.ble 200 a then (bif Nat.blt a 258 then a - 70 else 0) else bif Nat.ble 100 a then (bif Nat.blt a 158 then 14 else 0) else
  bif Nat.beq a 44 then 311 else bif Nat.beq a 45 then 101 else bif Nat.beq a 60 then 102 else bif Nat.beq a 61 then 122 else bif Nat.beq a 62 then 121 else bif Nat.beq a 0 then 0 else bif Nat.ble a 43 then 16 else 0
def c_ln (L a : Nat) : Nat := bif Nat.ble 200 a then c_sl (a - 200) else bif Nat.beq a 44 then 43 else bif Nat.beq a 45 then 43 else bif Nat.beq a 60 then L else bif Nat.beq a 61 then 100 else bif Nat.beq a 62 then 100 else 0
def c_im (xs : Nat → Int32) (a j : Nat) : Int32 := bif Nat.ble 200 a then (c_sb.getD (a - 200) []).getD j 0 else bif Nat.ble 100 a then 0 else
  bif Nat.beq a 45 then c_sw.getD j 0 else bif Nat.beq a 60 then xs j else bif Nat.beq a 61 then c_d1.getD j 0 else bif Nat.beq a 62 then c_d2.getD j 0 else Int32.ofNat (a - 1)
def c_rm (a j : Nat) : Nat := bif Nat.ble 100 a then a + 100 else bif Nat.beq a 44 then j + 1 else 100 + c_kt.getD (a - 1) 0
/-- the picture of the start -/
def c_w (L : Nat) (xs : Nat → Int32) : PH := (1000, 0, c_kd, c_ln L, c_im xs, c_rm)
def c_op (ad : Nat → Nat) (fm : Option Nat) (x : Nat) : Option Nat := bif Nat.beq x 0 then none else bif Nat.beq x 70 then fm else some (ad x)
def c_cs (a : Nat) : Bool := Nat.beq (c_kd a) 0 || (Nat.ble 1 a && Nat.ble a 43 && Nat.beq (c_kd a) 16) || Nat.beq a 44 || Nat.beq a 45 || Nat.beq a 60 || Nat.beq a 61 || Nat.beq a 62 || (Nat.ble 100 a && Nat.blt a 158 && Nat.beq (c_kd a) 14) || (Nat.ble 200 a && Nat.blt a 258 && Nat.beq (c_kd a) (a - 70))
set_option maxRecDepth 100000 in
theorem c_cs_all : (List.range 258).all c_cs = true := by decide +kernel
theorem ble_of {a b : Nat} (h : a ≤ b) : Nat.ble a b = true := Nat.ble_eq_true_of_le h
theorem ble_no {a b : Nat} (h : ¬ a ≤ b) : Nat.ble a b = false := by
  cases hz : Nat.ble a b
  · rfl
  · exact absurd (Nat.le_of_ble_eq_true hz) h
theorem beq_no {a b : Nat} (h : a ≠ b) : Nat.beq a b = false := by
  cases hz : Nat.beq a b
  · rfl
  · exact absurd (Nat.eq_of_beq_eq_true hz) h
theorem c_cases {a : Nat} (h : c_kd a ≠ 0) : (1 ≤ a ∧ a ≤ 43 ∧ c_kd a = 16) ∨ a = 44 ∨ a = 45 ∨ a = 60 ∨ a = 61 ∨ a = 62 ∨ (∃ j, j < 58 ∧ a = 100 + j ∧ c_kd a = 14) ∨ ∃ j, j < 58 ∧ a = 200 + j ∧ c_kd a = 130 + j := by
  by_cases ha : a < 258
  · have hc := List.all_eq_true.mp c_cs_all a (List.mem_range.mpr ha)
    simp only [c_cs, Bool.or_eq_true, Bool.and_eq_true] at hc
    rcases hc with (((((((hc | hc) | hc) | hc) | hc) | hc) | hc) | hc) | hc
    · exact absurd (Nat.eq_of_beq_eq_true hc) h
    · exact Or.inl ⟨Nat.le_of_ble_eq_true hc.1.1, Nat.le_of_ble_eq_true hc.1.2, Nat.eq_of_beq_eq_true hc.2⟩
    · exact Or.inr (Or.inl (Nat.eq_of_beq_eq_true hc))
    · exact Or.inr (Or.inr (Or.inl (Nat.eq_of_beq_eq_true hc)))
    · exact Or.inr (Or.inr (Or.inr (Or.inl (Nat.eq_of_beq_eq_true hc))))
    · exact Or.inr (Or.inr (Or.inr (Or.inr (Or.inl (Nat.eq_of_beq_eq_true hc)))))
    · exact Or.inr (Or.inr (Or.inr (Or.inr (Or.inr (Or.inl (Nat.eq_of_beq_eq_true hc))))))
    · obtain ⟨⟨h1, h2⟩, h3⟩ := hc
      have h1 := Nat.le_of_ble_eq_true h1
      have h2 : a + 1 ≤ 158 := Nat.le_of_ble_eq_true h2
      exact Or.inr (Or.inr (Or.inr (Or.inr (Or.inr (Or.inr (Or.inl ⟨a - 100, by omega, by omega, Nat.eq_of_beq_eq_true h3⟩))))))
    · obtain ⟨⟨h1, h2⟩, h3⟩ := hc
      have h1 := Nat.le_of_ble_eq_true h1
      have h2 : a + 1 ≤ 258 := Nat.le_of_ble_eq_true h2
      have h3 := Nat.eq_of_beq_eq_true h3
      exact Or.inr (Or.inr (Or.inr (Or.inr (Or.inr (Or.inr (Or.inr ⟨a - 200, by omega, by omega, by omega⟩))))))
  · refine absurd ?_ h
    unfold c_kd
    rw [ble_of (show 200 ≤ a by omega)]
    show (bif Nat.blt a 258 then a - 70 else 0) = 0
    rw [show Nat.blt a 258 = false from ble_no (by omega)]
    rfl
section CAD
variable {sz b ks sw d1 d2 : Nat} {ak as av : Nat → Nat}
theorem c_ad_n {a : Nat} (h : 1000 ≤ a) : c_ad sz b ks sw d1 d2 ak as av a = sz + (a - 1000) := by
  unfold c_ad
  rw [ble_of h]
  rfl
theorem c_ad_v {j : Nat} (h : j < 58) : c_ad sz b ks sw d1 d2 ak as av (200 + j) = av j := by
  unfold c_ad
  rw [ble_no (show ¬ 1000 ≤ 200 + j by omega), ble_of (show 200 ≤ 200 + j by omega), show 200 + j - 200 = j by omega]
  rfl
theorem c_ad_s {j : Nat} (h : j < 58) : c_ad sz b ks sw d1 d2 ak as av (100 + j) = as j := by
  unfold c_ad
  rw [ble_no (show ¬ 1000 ≤ 100 + j by omega), ble_no (show ¬ 200 ≤ 100 + j by omega), ble_of (show 100 ≤ 100 + j by omega), show 100 + j - 100 = j by omega]
  rfl
theorem c_ad_k {a : Nat} (h : a ≤ 43) : c_ad sz b ks sw d1 d2 ak as av a = ak (a - 1) := by
  unfold c_ad
  rw [ble_no (show ¬ 1000 ≤ a by omega), ble_no (show ¬ 200 ≤ a by omega), ble_no (show ¬ 100 ≤ a by omega), beq_no (show a ≠ 44 by omega), beq_no (show a ≠ 45 by omega), beq_no (show a ≠ 60 by omega), beq_no (show a ≠ 61 by omega), beq_no (show a ≠ 62 by omega)]
  rfl
end CAD
theorem c_im_k {xs : Nat → Int32} {a : Nat} (h : a ≤ 43) (j : Nat) : c_im xs a j = Int32.ofNat (a - 1) := by
  unfold c_im
  rw [ble_no (show ¬ 200 ≤ a by omega), ble_no (show ¬ 100 ≤ a by omega), beq_no (show a ≠ 45 by omega), beq_no (show a ≠ 60 by omega), beq_no (show a ≠ 61 by omega), beq_no (show a ≠ 62 by omega)]
  rfl
theorem c_im_s {xs : Nat → Int32} {j : Nat} (h : j < 58) (i : Nat) : c_im xs (100 + j) i = 0 := by
  unfold c_im
  rw [ble_no (show ¬ 200 ≤ 100 + j by omega), ble_of (show 100 ≤ 100 + j by omega)]
  rfl
theorem c_im_v {xs : Nat → Int32} {j : Nat} (i : Nat) : c_im xs (200 + j) i = (c_sb.getD j []).getD i 0 := by
  unfold c_im
  rw [ble_of (show 200 ≤ 200 + j by omega), show 200 + j - 200 = j by omega]
  rfl
theorem c_rm_k {a : Nat} (h : a ≤ 43) (j : Nat) : c_rm a j = 100 + c_kt.getD (a - 1) 0 := by
  unfold c_rm
  rw [ble_no (show ¬ 100 ≤ a by omega), beq_no (show a ≠ 44 by omega)]
  rfl
theorem c_rm_s {j : Nat} (i : Nat) : c_rm (100 + j) i = 200 + j := by
  unfold c_rm
  rw [ble_of (show 100 ≤ 100 + j by omega)]
  show 100 + j + 100 = _
  omega
theorem c_ln_v {L j : Nat} : c_ln L (200 + j) = c_sl j := by
  unfold c_ln
  rw [ble_of (show 200 ≤ 200 + j by omega), show 200 + j - 200 = j by omega]
  rfl
def c_nm (a : Nat) : String × String × String := bif Nat.beq a 45 then ("ClauseDesk$1", "$SwitchMap$ClauseDesk$Kind", "[I") else bif Nat.beq a 61 then ("java/lang/Integer", "DigitOnes", "[B") else bif Nat.beq a 62 then ("java/lang/Integer", "DigitTens", "[B") else
  bif Nat.beq a 70 then ("jdk/internal/util/Preconditions", "SIOOBE_FORMATTER", "Ljava/util/function/BiFunction;") else ("ClauseDesk$Kind", c_kn.getD (a - 1) "", "LClauseDesk$Kind;")
def q_in (a : Nat) : Nat := bif Nat.beq a 45 then 101 else bif Nat.beq a 61 then 92 else bif Nat.beq a 62 then 92 else bif Nat.beq a 70 then 89 else 100
def q_ls : List Nat := [0, 1089, 1113, 1119, 1202, 822, 800, 824, 788, 834, 790, 1233, 658, 656, 1249, 1251, 1194, 1196, 730, 0, 0, 1216, 1218, 1171, 1165, 1142, 1144, 1103, 1173, 1179, 1181, 1175, 1177, 1186, 1188, 1100, 1190, 1192, 726, 720, 1069, 1053, 650, 728, 0, 668, 0, 0, 0, 0, 0, 0, 0, 0, 0, 0, 0, 0, 0, 0, 0, 1634, 1636, 0, 0, 0, 0, 0, 0, 0, 954]
def q_sr : List Nat := [1454, 1555, 1619, 1645, 1680, 1681, 1682, 1683, 1684, 1688, 1689, 1693, 1694, 1695, 1696, 1697, 1698, 1699, 1700, 1701, 1702, 1703, 1704, 1705]
def lgs_chk (q : Nat × Nat × Nat × (String × String × String) × Nat) : Bool := decide (q.2.2.2.1 = c_nm q.2.2.1) && w_1 (q_ls.getD q.2.2.1 0) (.laysStatic q.2.2.2.1.1 q.2.2.2.1.2.1 q.2.2.2.1.2.2) && w_1 (q_in q.2.2.1) (.initialized q.2.2.2.1.1) && (Nat.beq q.2.2.1 45 || Nat.beq q.2.2.1 61 || Nat.beq q.2.2.1 62 || Nat.beq q.2.2.1 70 || (Nat.ble 1 q.2.2.1 && Nat.ble q.2.2.1 43))
set_option maxRecDepth 100000 in
theorem lgs_all : z_lg.all lgs_chk = true := by decide +kernel
def lss_chk (q : Nat × Nat × Nat × String) : Bool := w_1 (q_sr.getD (q.2.2.1 - 100) 0) (.stringRef (z_cn q.1) q.2.1 q.2.2.2) && decide (tS (q.2.2.1 - 100) = .string (z_cn q.1) q.2.1) && Nat.ble 100 q.2.2.1 && Nat.blt q.2.2.1 124
set_option maxRecDepth 100000 in
theorem lss_all : z_ls.all lss_chk = true := by decide +kernel
set_option maxRecDepth 100000 in
theorem c_lays : w_1 938 (.laysStatic "java/lang/String" "COMPACT_STRINGS" "Z") = true ∧ w_1 1060 (.laysStatic "ClauseDesk" "KINDS" "[LClauseDesk$Kind;") = true ∧ w_1 69 (.initialized "ClauseDesk") = true ∧ w_1 82 (.initialized "java/lang/String") = true := by decide +kernel
set_option maxRecDepth 100000 in
theorem c_ofN : (List.range 43).all (fun i => (List.range 43).all (fun j => decide (Int32.ofNat i = Int32.ofNat j → i = j))) = true := by decide +kernel
theorem c_apart {s : State} {A : Nat → Prop} {ak : Nat → Nat} (h : ∀ i, i < 43 → va_OF "java/lang/Enum" "ordinal" "I" (.int (Int32.ofNat i)) (ak i) A s s.heap) {i j : Nat} (hi : i < 43) (hj : j < 43) (e : ak i = ak j) : i = j := by
  obtain ⟨cf, k, n, f, cell, h1, -, h3, -, h5, -⟩ := h i hi
  obtain ⟨cf', k', n', f', cell', h1', -, h3', -, h5', -⟩ := h j hj
  rw [h1] at h1'
  cases h1'
  rw [e, h3'] at h3
  cases h3
  rw [h5] at h5'
  injection h5' with h6
  injection h6 with h7
  have h8 := List.all_eq_true.mp (List.all_eq_true.mp c_ofN i (List.mem_range.mpr hi)) j (List.mem_range.mpr hj)
  exact of_decide_eq_true h8 h7
set_option maxRecDepth 100000 in
theorem c_bytes : (c_sb.all (fun l => l.all (fun x => fits .byte (.int x)))) = true ∧ (c_d1.all (fun x => fits .byte (.int x))) = true ∧ (c_d2.all (fun x => fits .byte (.int x))) = true ∧ c_d1.length = 100 ∧ c_d2.length = 100 := by decide +kernel
