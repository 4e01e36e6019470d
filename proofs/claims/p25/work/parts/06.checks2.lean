/-! The test of 05.read, run by the kernel. -/
set_option maxRecDepth 100000 in
theorem e_d_84 : (List.range' 84 9).all e_d = true := by decide +kernel
set_option maxRecDepth 100000 in
theorem e_d_93 : (List.range' 93 12).all e_d = true := by decide +kernel
set_option maxRecDepth 100000 in
theorem e_d_105 : (List.range' 105 13).all e_d = true := by decide +kernel
set_option maxRecDepth 100000 in
theorem e_d_118 : (List.range' 118 20).all e_d = true := by decide +kernel
set_option maxRecDepth 100000 in
theorem e_d_138 : (List.range' 138 2).all e_d = true := by decide +kernel
set_option maxRecDepth 100000 in
theorem e_d_140_0 : (((z_raw 140).drop 0).take 122).all (e_dec (z_b 140)) = true := by decide +kernel
set_option maxRecDepth 100000 in
theorem e_d_140_122 : (((z_raw 140).drop 122).take 16).all (e_dec (z_b 140)) = true := by decide +kernel
set_option maxRecDepth 100000 in
theorem e_d_140 : e_d 140 = true := by
  show (z_raw 140).all (e_dec (z_b 140)) = true
  have h122 : ((z_raw 140).drop 122).all (e_dec (z_b 140)) = true := by
    have h := e_d_140_122
    rwa [List.take_of_length_le (Nat.le_of_ble_eq_true (by decide +kernel))] at h
  have h0 : ((z_raw 140).drop 0).all (e_dec (z_b 140)) = true := e_split 122 e_d_140_0 (by rw [List.drop_drop]; exact h122)
  exact h0
set_option maxRecDepth 100000 in
theorem e_d_141 : (List.range' 141 9).all e_d = true := by decide +kernel
set_option maxRecDepth 100000 in
theorem e_d_150 : (List.range' 150 11).all e_d = true := by decide +kernel
set_option maxRecDepth 100000 in
theorem e_d_161 : (List.range' 161 12).all e_d = true := by decide +kernel
set_option maxRecDepth 100000 in
theorem e_d_173 : (List.range' 173 14).all e_d = true := by decide +kernel
set_option maxRecDepth 100000 in
theorem e_d_187 : (List.range' 187 2).all e_d = true := by decide +kernel
set_option maxRecDepth 100000 in
theorem e_d_189_0 : (((z_raw 189).drop 0).take 167).all (e_dec (z_b 189)) = true := by decide +kernel
set_option maxRecDepth 100000 in
theorem e_d_189_167 : (((z_raw 189).drop 167).take 75).all (e_dec (z_b 189)) = true := by decide +kernel
