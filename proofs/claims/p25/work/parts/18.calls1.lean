/-! Where methods are called. -/
def wa (i : Nat) (w : Cond) : Bool := decide (w_all[i]? = some w) && goodWord w
def lm_chk (q : Nat × Nat × Nat × Nat × MethodName × List Nat) : Bool :=
  let own := z_cn q.1
  let y := z_y q.2.2.1
  let x := q.2.2.2.2.1
  let ps := q.2.2.2.2.2
  let C := z_kn (z_rk q.2.2.1)
  let n := z_na q.2.2.1
  Nat.blt q.2.2.1 189 && (match q.2.2.2.1 with
  | 0 => wa (ps.getD 0 0) (.methodLink own q.2.1 y) && wa (ps.getD 1 0) (.instanceMethod y) && wa (ps.getD 2 0) (.selects C y y) && wa (ps.getD 3 0) (.initialized y.cls) && decide ((parseMethodDescriptor y.desc).map (fun d => d.parameters.length + 1) = some n)
  | 1 => wa (ps.getD 0 0) (.methodLink own q.2.1 x) && wa (ps.getD 1 0) (.sameMethod x.cls y.cls x.name x.desc) && wa (ps.getD 2 0) (.selects C x y) && wa (ps.getD 3 0) (.instanceMethod y) && wa (ps.getD 4 0) (.initialized y.cls) && decide (y = ⟨y.cls, x.name, x.desc⟩) && decide ((parseMethodDescriptor x.desc).map (fun d => d.parameters.length + 1) = some n)
  | 2 => wa (ps.getD 1 0) (.instanceMethod y) && wa (ps.getD 2 0) (.selects C y y) && wa (ps.getD 3 0) (.initialized y.cls) && decide ((parseMethodDescriptor y.desc).map (fun d => d.parameters.length + 1) = some n)
  | 3 => wa (ps.getD 0 0) (.methodLink own q.2.1 y) && wa (ps.getD 1 0) (.static y) && wa (ps.getD 2 0) (.initialized y.cls) && decide ((parseMethodDescriptor y.desc).map (fun d => d.parameters.length) = some n)
  | 4 => wa (ps.getD 1 0) (.static y) && wa (ps.getD 2 0) (.initialized y.cls) && decide ((parseMethodDescriptor y.desc).map (fun d => d.parameters.length) = some n)
  | 5 => wa (ps.getD 0 0) (.methodLink own q.2.1 y) && wa (ps.getD 1 0) (.instanceMethod y) && wa (ps.getD 2 0) (.initialized y.cls) && decide (y.name = "<init>") && decide (z_ret q.2.2.1 = none) && decide ((parseMethodDescriptor y.desc).map (fun d => d.parameters.length + 1) = some n)
  | 6 => wa (ps.getD 1 0) (.instanceMethod y) && wa (ps.getD 2 0) (.initialized y.cls) && decide (y.name = "<init>") && decide (z_ret q.2.2.1 = none) && decide ((parseMethodDescriptor y.desc).map (fun d => d.parameters.length + 1) = some n)
  | 7 => wa (ps.getD 0 0) (.methodLink own q.2.1 y) && wa (ps.getD 1 0) (.sameMethod y.cls y.cls y.name y.desc) && wa (ps.getD 2 0) (.superclass own y.cls) && wa (ps.getD 3 0) (.instanceMethod y) && wa (ps.getD 4 0) (.initialized y.cls) && decide (y.name ≠ "<init>") && decide ((parseMethodDescriptor y.desc).map (fun d => d.parameters.length + 1) = some n)
  | 8 => wa (ps.getD 0 0) (.methodLink own q.2.1 x) && wa (ps.getD 1 0) (.sameMethod x.cls "java/lang/AbstractStringBuilder" x.name x.desc) && wa (ps.getD 2 0) (.instanceMethod ⟨"java/lang/AbstractStringBuilder", x.name, x.desc⟩) && wa (ps.getD 3 0) (.selects C x y) && wa (ps.getD 4 0) (.instanceMethod y) && wa (ps.getD 5 0) (.initialized y.cls) && decide ((parseMethodDescriptor x.desc).map (fun d => d.parameters.length + 1) = some n) && decide (x.name = "length" ∧ x.desc = "()I")
  | _ => false)

set_option maxRecDepth 100000 in
theorem lm_0 : ((z_lm.drop 0).take 24).all lm_chk = true := by decide +kernel
set_option maxRecDepth 100000 in
theorem lm_24 : ((z_lm.drop 24).take 24).all lm_chk = true := by decide +kernel
set_option maxRecDepth 100000 in
theorem lm_48 : ((z_lm.drop 48).take 24).all lm_chk = true := by decide +kernel
set_option maxRecDepth 100000 in
theorem lm_72 : ((z_lm.drop 72).take 24).all lm_chk = true := by decide +kernel
set_option maxRecDepth 100000 in
theorem lm_96 : ((z_lm.drop 96).take 24).all lm_chk = true := by decide +kernel
set_option maxRecDepth 100000 in
theorem lm_120 : ((z_lm.drop 120).take 24).all lm_chk = true := by decide +kernel
set_option maxRecDepth 100000 in
theorem lm_144 : ((z_lm.drop 144).take 24).all lm_chk = true := by decide +kernel
set_option maxRecDepth 100000 in
theorem lm_168 : ((z_lm.drop 168).take 24).all lm_chk = true := by decide +kernel
set_option maxRecDepth 100000 in
theorem lm_192 : ((z_lm.drop 192).take 24).all lm_chk = true := by decide +kernel
set_option maxRecDepth 100000 in
theorem lm_216 : ((z_lm.drop 216).take 24).all lm_chk = true := by decide +kernel
set_option maxRecDepth 100000 in
theorem lm_all : z_lm.all lm_chk = true := by
  have h216 : (z_lm.drop 216).all lm_chk = true := by
    have h := lm_216
    rwa [List.take_of_length_le (Nat.le_of_ble_eq_true (by decide +kernel))] at h
  have h192 : (z_lm.drop 192).all lm_chk = true := e_split 24 lm_192 (by rw [List.drop_drop]; exact h216)
  have h168 : (z_lm.drop 168).all lm_chk = true := e_split 24 lm_168 (by rw [List.drop_drop]; exact h192)
  have h144 : (z_lm.drop 144).all lm_chk = true := e_split 24 lm_144 (by rw [List.drop_drop]; exact h168)
  have h120 : (z_lm.drop 120).all lm_chk = true := e_split 24 lm_120 (by rw [List.drop_drop]; exact h144)
  have h96 : (z_lm.drop 96).all lm_chk = true := e_split 24 lm_96 (by rw [List.drop_drop]; exact h120)
  have h72 : (z_lm.drop 72).all lm_chk = true := e_split 24 lm_72 (by rw [List.drop_drop]; exact h96)
  have h48 : (z_lm.drop 48).all lm_chk = true := e_split 24 lm_48 (by rw [List.drop_drop]; exact h72)
  have h24 : (z_lm.drop 24).all lm_chk = true := e_split 24 lm_24 (by rw [List.drop_drop]; exact h48)
  have h0 : (z_lm.drop 0).all lm_chk = true := e_split 24 lm_0 (by rw [List.drop_drop]; exact h24)
  exact h0
def cp_chk (k : Nat) : Bool := wa (z_cp.getD k 0) (Cond.code (z_y k) (z_b k) (z_ml k) (z_ret k))
set_option maxRecDepth 100000 in
theorem cp_0 : (List.range' 0 10).all cp_chk = true := by decide +kernel
set_option maxRecDepth 100000 in
theorem cp_10 : (List.range' 10 10).all cp_chk = true := by decide +kernel
set_option maxRecDepth 100000 in
theorem cp_20 : (List.range' 20 10).all cp_chk = true := by decide +kernel
set_option maxRecDepth 100000 in
theorem cp_30 : (List.range' 30 10).all cp_chk = true := by decide +kernel
set_option maxRecDepth 100000 in
theorem cp_40 : (List.range' 40 9).all cp_chk = true := by decide +kernel
set_option maxRecDepth 100000 in
set_option maxHeartbeats 4000000 in
theorem cp_49 : Cond.code (z_y 49) (z_b 49) (z_ml 49) (z_ret 49) ∈ w_g := w_at (i := 1655) rfl rfl
set_option maxRecDepth 100000 in
theorem cp_50 : (List.range' 50 1).all cp_chk = true := by decide +kernel
set_option maxRecDepth 100000 in
set_option maxHeartbeats 4000000 in
theorem cp_51 : Cond.code (z_y 51) (z_b 51) (z_ml 51) (z_ret 51) ∈ w_g := w_at (i := 1692) rfl rfl
set_option maxRecDepth 100000 in
set_option maxHeartbeats 4000000 in
theorem cp_52 : Cond.code (z_y 52) (z_b 52) (z_ml 52) (z_ret 52) ∈ w_g := w_at (i := 1344) rfl rfl
set_option maxRecDepth 100000 in
theorem cp_53 : (List.range' 53 4).all cp_chk = true := by decide +kernel
set_option maxRecDepth 100000 in
set_option maxHeartbeats 4000000 in
theorem cp_57 : Cond.code (z_y 57) (z_b 57) (z_ml 57) (z_ret 57) ∈ w_g := w_at (i := 1323) rfl rfl
set_option maxRecDepth 100000 in
theorem cp_58 : (List.range' 58 10).all cp_chk = true := by decide +kernel
set_option maxRecDepth 100000 in
theorem cp_68 : (List.range' 68 10).all cp_chk = true := by decide +kernel
set_option maxRecDepth 100000 in
theorem cp_78 : (List.range' 78 10).all cp_chk = true := by decide +kernel
set_option maxRecDepth 100000 in
theorem cp_88 : (List.range' 88 8).all cp_chk = true := by decide +kernel
set_option maxRecDepth 100000 in
theorem cp_96 : (List.range' 96 10).all cp_chk = true := by decide +kernel
set_option maxRecDepth 100000 in
theorem cp_106 : (List.range' 106 10).all cp_chk = true := by decide +kernel
set_option maxRecDepth 100000 in
theorem cp_116 : (List.range' 116 10).all cp_chk = true := by decide +kernel
set_option maxRecDepth 100000 in
theorem cp_126 : (List.range' 126 10).all cp_chk = true := by decide +kernel
set_option maxRecDepth 100000 in
theorem cp_136 : (List.range' 136 2).all cp_chk = true := by decide +kernel
set_option maxRecDepth 100000 in
set_option maxHeartbeats 4000000 in
theorem cp_138 : Cond.code (z_y 138) (z_b 138) (z_ml 138) (z_ret 138) ∈ w_g := w_at (i := 733) rfl rfl
set_option maxRecDepth 100000 in
theorem cp_139 : (List.range' 139 1).all cp_chk = true := by decide +kernel
set_option maxRecDepth 100000 in
set_option maxHeartbeats 4000000 in
theorem cp_140 : Cond.code (z_y 140) (z_b 140) (z_ml 140) (z_ret 140) ∈ w_g := w_at (i := 666) rfl rfl
set_option maxRecDepth 100000 in
theorem cp_141 : (List.range' 141 10).all cp_chk = true := by decide +kernel
set_option maxRecDepth 100000 in
theorem cp_151 : (List.range' 151 10).all cp_chk = true := by decide +kernel
set_option maxRecDepth 100000 in
theorem cp_161 : (List.range' 161 10).all cp_chk = true := by decide +kernel
set_option maxRecDepth 100000 in
theorem cp_171 : (List.range' 171 10).all cp_chk = true := by decide +kernel
set_option maxRecDepth 100000 in
theorem cp_181 : (List.range' 181 8).all cp_chk = true := by decide +kernel
theorem wa_in {i : Nat} {w : Cond} (h : wa i w = true) : w ∈ w_g := by
  simp only [wa, Bool.and_eq_true, decide_eq_true_eq] at h
  exact w_at h.1 h.2
theorem cp_in {k : Nat} (hk : k < 189) : Cond.code (z_y k) (z_b k) (z_ml k) (z_ret k) ∈ w_g := by
  have h : ∀ a n : Nat, (List.range' a n).all cp_chk = true → a ≤ k → k < a + n → Cond.code (z_y k) (z_b k) (z_ml k) (z_ret k) ∈ w_g := fun a n h h1 h2 => wa_in (List.all_eq_true.mp h k (List.mem_range'.mpr ⟨k - a, by omega, by omega⟩))
  rcases Nat.lt_or_ge k 10 with q | q
  · exact h 0 10 cp_0 (by omega) (by omega)
  rcases Nat.lt_or_ge k 20 with q | q
  · exact h 10 10 cp_10 (by omega) (by omega)
  rcases Nat.lt_or_ge k 30 with q | q
  · exact h 20 10 cp_20 (by omega) (by omega)
  rcases Nat.lt_or_ge k 40 with q | q
  · exact h 30 10 cp_30 (by omega) (by omega)
  rcases Nat.lt_or_ge k 49 with q | q
  · exact h 40 9 cp_40 (by omega) (by omega)
  rcases Nat.lt_or_ge k 50 with q | q
  · (obtain rfl : k = 49 := by omega); exact cp_49
  rcases Nat.lt_or_ge k 51 with q | q
  · exact h 50 1 cp_50 (by omega) (by omega)
  rcases Nat.lt_or_ge k 52 with q | q
  · (obtain rfl : k = 51 := by omega); exact cp_51
  rcases Nat.lt_or_ge k 53 with q | q
  · (obtain rfl : k = 52 := by omega); exact cp_52
  rcases Nat.lt_or_ge k 57 with q | q
  · exact h 53 4 cp_53 (by omega) (by omega)
  rcases Nat.lt_or_ge k 58 with q | q
  · (obtain rfl : k = 57 := by omega); exact cp_57
  rcases Nat.lt_or_ge k 68 with q | q
  · exact h 58 10 cp_58 (by omega) (by omega)
  rcases Nat.lt_or_ge k 78 with q | q
  · exact h 68 10 cp_68 (by omega) (by omega)
  rcases Nat.lt_or_ge k 88 with q | q
  · exact h 78 10 cp_78 (by omega) (by omega)
  rcases Nat.lt_or_ge k 96 with q | q
  · exact h 88 8 cp_88 (by omega) (by omega)
  rcases Nat.lt_or_ge k 106 with q | q
  · exact h 96 10 cp_96 (by omega) (by omega)
  rcases Nat.lt_or_ge k 116 with q | q
  · exact h 106 10 cp_106 (by omega) (by omega)
  rcases Nat.lt_or_ge k 126 with q | q
  · exact h 116 10 cp_116 (by omega) (by omega)
  rcases Nat.lt_or_ge k 136 with q | q
  · exact h 126 10 cp_126 (by omega) (by omega)
  rcases Nat.lt_or_ge k 138 with q | q
  · exact h 136 2 cp_136 (by omega) (by omega)
  rcases Nat.lt_or_ge k 139 with q | q
  · (obtain rfl : k = 138 := by omega); exact cp_138
  rcases Nat.lt_or_ge k 140 with q | q
  · exact h 139 1 cp_139 (by omega) (by omega)
  rcases Nat.lt_or_ge k 141 with q | q
  · (obtain rfl : k = 140 := by omega); exact cp_140
  rcases Nat.lt_or_ge k 151 with q | q
  · exact h 141 10 cp_141 (by omega) (by omega)
  rcases Nat.lt_or_ge k 161 with q | q
  · exact h 151 10 cp_151 (by omega) (by omega)
  rcases Nat.lt_or_ge k 171 with q | q
  · exact h 161 10 cp_161 (by omega) (by omega)
  rcases Nat.lt_or_ge k 181 with q | q
  · exact h 171 10 cp_171 (by omega) (by omega)
  exact h 181 8 cp_181 (by omega) (by omega)
set_option maxRecDepth 100000 in
theorem pc0_all : (List.range 190).all (fun k => Nat.beq (n_pc (z_raw k) 0) 0) = true := by decide +kernel
set_option maxRecDepth 100000 in
theorem rk_all : z_lm.all (fun q => (match q.2.2.2.1 with
  | 0 => Nat.ble 1 (z_rk q.2.2.1) && Nat.ble (z_rk q.2.2.1) 16
  | 1 => Nat.ble 1 (z_rk q.2.2.1) && Nat.ble (z_rk q.2.2.1) 16
  | 2 => Nat.ble 1 (z_rk q.2.2.1) && Nat.ble (z_rk q.2.2.1) 16
  | 7 => Nat.ble 1 (z_rk q.2.2.1) && Nat.ble (z_rk q.2.2.1) 16
  | 8 => Nat.ble 1 (z_rk q.2.2.1) && Nat.ble (z_rk q.2.2.1) 16
  | _ => true)) = true := by decide +kernel
