/-! The test of 05.read, run by the kernel. -/
theorem e_split {α : Type} {p : α → Bool} {l : List α} (n : Nat) (h1 : (l.take n).all p = true) (h2 : (l.drop n).all p = true) : l.all p = true := by
  rw [← List.take_append_drop n l, List.all_append, h1, h2]; rfl
set_option maxRecDepth 100000 in
theorem e_m_0 : (List.range' 0 60).all e_m = true := by decide +kernel
set_option maxRecDepth 100000 in
theorem e_m_60 : (List.range' 60 60).all e_m = true := by decide +kernel
set_option maxRecDepth 100000 in
theorem e_m_120 : (List.range' 120 40).all e_m = true := by decide +kernel
set_option maxRecDepth 100000 in
theorem e_m_160 : (List.range' 160 29).all e_m = true := by decide +kernel
set_option maxRecDepth 100000 in
theorem e_m_189 : (List.range' 189 1).all e_m = true := by decide +kernel
set_option maxRecDepth 100000 in
theorem e_d_0 : (List.range' 0 20).all e_d = true := by decide +kernel
set_option maxRecDepth 100000 in
theorem e_d_20 : (List.range' 20 27).all e_d = true := by decide +kernel
set_option maxRecDepth 100000 in
theorem e_d_47 : (List.range' 47 2).all e_d = true := by decide +kernel
set_option maxRecDepth 100000 in
theorem e_d_49 : (List.range' 49 2).all e_d = true := by decide +kernel
set_option maxRecDepth 100000 in
theorem e_d_51_0 : (((z_raw 51).drop 0).take 157).all (e_dec (z_b 51)) = true := by decide +kernel
set_option maxRecDepth 100000 in
theorem e_d_51_157 : (((z_raw 51).drop 157).take 33).all (e_dec (z_b 51)) = true := by decide +kernel
set_option maxRecDepth 100000 in
theorem e_d_51 : e_d 51 = true := by
  show (z_raw 51).all (e_dec (z_b 51)) = true
  have h157 : ((z_raw 51).drop 157).all (e_dec (z_b 51)) = true := by
    have h := e_d_51_157
    rwa [List.take_of_length_le (Nat.le_of_ble_eq_true (by decide +kernel))] at h
  have h0 : ((z_raw 51).drop 0).all (e_dec (z_b 51)) = true := e_split 157 e_d_51_0 (by rw [List.drop_drop]; exact h157)
  exact h0
set_option maxRecDepth 100000 in
theorem e_d_52_0 : (((z_raw 52).drop 0).take 164).all (e_dec (z_b 52)) = true := by decide +kernel
set_option maxRecDepth 100000 in
theorem e_d_52_164 : (((z_raw 52).drop 164).take 76).all (e_dec (z_b 52)) = true := by decide +kernel
set_option maxRecDepth 100000 in
theorem e_d_52_240 : (((z_raw 52).drop 240).take 58).all (e_dec (z_b 52)) = true := by decide +kernel
set_option maxRecDepth 100000 in
theorem e_d_52_298 : (((z_raw 52).drop 298).take 48).all (e_dec (z_b 52)) = true := by decide +kernel
set_option maxRecDepth 100000 in
theorem e_d_52_346 : (((z_raw 52).drop 346).take 20).all (e_dec (z_b 52)) = true := by decide +kernel
set_option maxRecDepth 100000 in
theorem e_d_52 : e_d 52 = true := by
  show (z_raw 52).all (e_dec (z_b 52)) = true
  have h346 : ((z_raw 52).drop 346).all (e_dec (z_b 52)) = true := by
    have h := e_d_52_346
    rwa [List.take_of_length_le (Nat.le_of_ble_eq_true (by decide +kernel))] at h
  have h298 : ((z_raw 52).drop 298).all (e_dec (z_b 52)) = true := e_split 48 e_d_52_298 (by rw [List.drop_drop]; exact h346)
  have h240 : ((z_raw 52).drop 240).all (e_dec (z_b 52)) = true := e_split 58 e_d_52_240 (by rw [List.drop_drop]; exact h298)
  have h164 : ((z_raw 52).drop 164).all (e_dec (z_b 52)) = true := e_split 76 e_d_52_164 (by rw [List.drop_drop]; exact h240)
  have h0 : ((z_raw 52).drop 0).all (e_dec (z_b 52)) = true := e_split 164 e_d_52_0 (by rw [List.drop_drop]; exact h164)
  exact h0
set_option maxRecDepth 100000 in
theorem e_d_53 : (List.range' 53 18).all e_d = true := by decide +kernel
set_option maxRecDepth 100000 in
theorem e_d_71 : (List.range' 71 13).all e_d = true := by decide +kernel
