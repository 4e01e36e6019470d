/-! The test of 05.read, run by the kernel. -/
set_option maxRecDepth 100000 in
theorem e_d_189_242 : (((z_raw 189).drop 242).take 57).all (e_dec (z_b 189)) = true := by decide +kernel
set_option maxRecDepth 100000 in
theorem e_d_189_299 : (((z_raw 189).drop 299).take 47).all (e_dec (z_b 189)) = true := by decide +kernel
set_option maxRecDepth 100000 in
theorem e_d_189_346 : (((z_raw 189).drop 346).take 42).all (e_dec (z_b 189)) = true := by decide +kernel
set_option maxRecDepth 100000 in
theorem e_d_189_388 : (((z_raw 189).drop 388).take 38).all (e_dec (z_b 189)) = true := by decide +kernel
set_option maxRecDepth 100000 in
theorem e_d_189_426 : (((z_raw 189).drop 426).take 35).all (e_dec (z_b 189)) = true := by decide +kernel
set_option maxRecDepth 100000 in
theorem e_d_189_461 : (((z_raw 189).drop 461).take 32).all (e_dec (z_b 189)) = true := by decide +kernel
set_option maxRecDepth 100000 in
theorem e_d_189_493 : (((z_raw 189).drop 493).take 30).all (e_dec (z_b 189)) = true := by decide +kernel
set_option maxRecDepth 100000 in
theorem e_d_189_523 : (((z_raw 189).drop 523).take 28).all (e_dec (z_b 189)) = true := by decide +kernel
set_option maxRecDepth 100000 in
theorem e_d_189_551 : (((z_raw 189).drop 551).take 27).all (e_dec (z_b 189)) = true := by decide +kernel
set_option maxRecDepth 100000 in
theorem e_d_189_578 : (((z_raw 189).drop 578).take 26).all (e_dec (z_b 189)) = true := by decide +kernel
set_option maxRecDepth 100000 in
theorem e_d_189_604 : (((z_raw 189).drop 604).take 25).all (e_dec (z_b 189)) = true := by decide +kernel
set_option maxRecDepth 100000 in
theorem e_d_189_629 : (((z_raw 189).drop 629).take 24).all (e_dec (z_b 189)) = true := by decide +kernel
set_option maxRecDepth 100000 in
theorem e_d_189_653 : (((z_raw 189).drop 653).take 23).all (e_dec (z_b 189)) = true := by decide +kernel
set_option maxRecDepth 100000 in
theorem e_d_189_676 : (((z_raw 189).drop 676).take 1).all (e_dec (z_b 189)) = true := by decide +kernel
set_option maxRecDepth 100000 in
theorem e_d_189 : e_d 189 = true := by
  show (z_raw 189).all (e_dec (z_b 189)) = true
  have h676 : ((z_raw 189).drop 676).all (e_dec (z_b 189)) = true := by
    have h := e_d_189_676
    rwa [List.take_of_length_le (Nat.le_of_ble_eq_true (by decide +kernel))] at h
  have h653 : ((z_raw 189).drop 653).all (e_dec (z_b 189)) = true := e_split 23 e_d_189_653 (by rw [List.drop_drop]; exact h676)
  have h629 : ((z_raw 189).drop 629).all (e_dec (z_b 189)) = true := e_split 24 e_d_189_629 (by rw [List.drop_drop]; exact h653)
  have h604 : ((z_raw 189).drop 604).all (e_dec (z_b 189)) = true := e_split 25 e_d_189_604 (by rw [List.drop_drop]; exact h629)
  have h578 : ((z_raw 189).drop 578).all (e_dec (z_b 189)) = true := e_split 26 e_d_189_578 (by rw [List.drop_drop]; exact h604)
  have h551 : ((z_raw 189).drop 551).all (e_dec (z_b 189)) = true := e_split 27 e_d_189_551 (by rw [List.drop_drop]; exact h578)
  have h523 : ((z_raw 189).drop 523).all (e_dec (z_b 189)) = true := e_split 28 e_d_189_523 (by rw [List.drop_drop]; exact h551)
  have h493 : ((z_raw 189).drop 493).all (e_dec (z_b 189)) = true := e_split 30 e_d_189_493 (by rw [List.drop_drop]; exact h523)
  have h461 : ((z_raw 189).drop 461).all (e_dec (z_b 189)) = true := e_split 32 e_d_189_461 (by rw [List.drop_drop]; exact h493)
  have h426 : ((z_raw 189).drop 426).all (e_dec (z_b 189)) = true := e_split 35 e_d_189_426 (by rw [List.drop_drop]; exact h461)
  have h388 : ((z_raw 189).drop 388).all (e_dec (z_b 189)) = true := e_split 38 e_d_189_388 (by rw [List.drop_drop]; exact h426)
  have h346 : ((z_raw 189).drop 346).all (e_dec (z_b 189)) = true := e_split 42 e_d_189_346 (by rw [List.drop_drop]; exact h388)
  have h299 : ((z_raw 189).drop 299).all (e_dec (z_b 189)) = true := e_split 47 e_d_189_299 (by rw [List.drop_drop]; exact h346)
  have h242 : ((z_raw 189).drop 242).all (e_dec (z_b 189)) = true := e_split 57 e_d_189_242 (by rw [List.drop_drop]; exact h299)
  have h167 : ((z_raw 189).drop 167).all (e_dec (z_b 189)) = true := e_split 75 e_d_189_167 (by rw [List.drop_drop]; exact h242)
  have h0 : ((z_raw 189).drop 0).all (e_dec (z_b 189)) = true := e_split 167 e_d_189_0 (by rw [List.drop_drop]; exact h167)
  exact h0
