/-! A scribe: stack, what was shown. -/
def wS (s a : Nat) : Prop := a = s ∨ a = s + 1 ∨ a = s + 2
def wSP (s p a : Nat) : Prop := wS s a ∨ wP p a
/-- a scribe that is open: places q, page p -/
def SCO (h : PH) (s q p m : Nat) : Prop := p_kd h s = 9 ∧ p_rm h s 0 = 1034 ∧ p_rm h s 1 = 1066 ∧ p_rm h s 2 = q ∧ p_rm h s 3 = p ∧ p_rm h s 4 = s + 1 ∧ p_rm h s 6 = s + 2 ∧ p_kd h (s + 1) = 100 ∧ p_ln h (s + 1) = 64 ∧ p_kd h (s + 2) = 100 ∧ p_ln h (s + 2) = 600 ∧ p_kd h 1066 = 100 ∧ p_ln h 1066 = 10 ∧ p_kd h q = 100 ∧ p_ln h q = 16 ∧ PGS h p m
/-- nothing of it is something else -/
def SDJ (s q p : Nat) : Prop := 1067 ≤ s ∧ 1067 ≤ q ∧ s + 3 ≤ p ∧ q < p ∧ (q + 1 ≤ s ∨ s + 3 ≤ q)
def SST (h : PH) (s : Nat) (stk sh : List Int32) : Prop := p_im h s 5 = Int32.ofNat stk.length ∧ stk.length ≤ 64 ∧ (∀ i, i < stk.length → p_im h (s + 1) i = stk.getD i 0) ∧ p_im h s 7 = Int32.ofNat sh.length ∧ sh.length ≤ 600 ∧ ∀ i, i < sh.length → p_im h (s + 2) i = sh.getD i 0
def ppv (stk : List Int32) : Int32 := stk.getD (stk.length - 1) 0
def pdr (stk : List Int32) : List Int32 := stk.take (stk.length - 1)
def psh (stk : List Int32) (x : Int32) : List Int32 := bif Nat.blt stk.length 64 then stk ++ [x] else stk
def pnt (sh : List Int32) (x : Int32) : List Int32 := bif Nat.blt sh.length 600 then sh ++ [x] else sh
section SCR1
variable {d s q p m : Nat} {h : PH} {stk sh : List Int32}
theorem SCO.fr {Wi Wr : Nat → Prop} {h1 : PH} (S : SCO h s q p m) (F : FR Wi Wr h h1) (r1 : ¬ Wr s) (r2 : ¬ Wr p) : SCO h1 s q p m := by
  obtain ⟨a1, a2, a3, a4, a5, a6, a7, a8, a9, b1, b2, b3, b4, b5, b6, b7⟩ := S
  exact ⟨by rw [F.kd, a1], by rw [F.rm r1, a2], by rw [F.rm r1, a3], by rw [F.rm r1, a4], by rw [F.rm r1, a5], by rw [F.rm r1, a6], by rw [F.rm r1, a7], by rw [F.kd, a8], by rw [F.ln, a9], by rw [F.kd, b1], by rw [F.ln, b2], by rw [F.kd, b3], by rw [F.ln, b4], by rw [F.kd, b5], by rw [F.ln, b6], b7.fr F r2⟩
theorem SST.fr {Wi Wr : Nat → Prop} {h1 : PH} (S : SST h s stk sh) (F : FR Wi Wr h h1) (r0 : ¬ Wi s) (r1 : ¬ Wi (s + 1)) (r2 : ¬ Wi (s + 2)) : SST h1 s stk sh := by
  obtain ⟨a1, a2, a3, a4, a5, a6⟩ := S
  exact ⟨by rw [F.im r0, a1], a2, fun i hi => by rw [F.im r1, a3 i hi], by rw [F.im r0, a4], a5, fun i hi => by rw [F.im r2, a6 i hi]⟩
theorem gD_app {l : List Int32} {x : Int32} {i : Nat} (hi : i < l.length) : (l ++ [x]).getD i 0 = l.getD i 0 := by simp [List.getD, List.getElem?_append_left hi]
theorem gD_last {l : List Int32} {x : Int32} : (l ++ [x]).getD l.length 0 = x := by simp [List.getD]
theorem gD_take {l : List Int32} {n i : Nat} (hi : i < n) : (l.take n).getD i 0 = l.getD i 0 := by simp [List.getD, List.getElem?_take, hi]
theorem pdr_len (stk : List Int32) : (pdr stk).length = stk.length - 1 := by unfold pdr; rw [List.length_take]; omega
theorem psh_len {stk : List Int32} {x : Int32} (h : stk.length ≤ 64) : (psh stk x).length ≤ 64 := by
  unfold psh
  by_cases z : stk.length < 64
  · rw [show Nat.blt stk.length 64 = true from Nat.ble_eq.mpr z]
    show (stk ++ [x]).length ≤ 64
    rw [List.length_append]
    show stk.length + 1 ≤ 64
    omega
  · rw [show Nat.blt stk.length 64 = false from Bool.eq_false_iff.mpr (fun q => z (Nat.ble_eq.mp q))]
    exact h
theorem s131 {Q : Int32 → PH → Prop} (S : SCO h s q p m) (D : SDJ s q p) (T : SST h s stk sh) (K : ∀ h1, FR (wS s) w0 h h1 → SST h1 s (pdr stk) sh → Q (ppv stk) h1) : CI (d + 1) 131 [.ref s] h Q := by
  obtain ⟨a1, a2, a3, a4, a5, a6, a7, a8, a9, b1, b2, -⟩ := S
  obtain ⟨t1, t2, t3, t4, t5, t6⟩ := id T
  have hs : 1000 ≤ s := by have := D.1; omega
  rw [e131]
  refine ⟨⟨a1, by omega⟩, ?_⟩
  rw [t1]
  refine if_gtn (k := 0) rfl (by omega) (by decide) (fun z => ?_) (fun z => ?_)
  · refine ⟨⟨a1, by omega⟩, ?_⟩
    rw [if_neg (show ¬ (64 : Int32) < Int32.ofNat stk.length from by rw [show (64 : Int32) = Int32.ofNat 64 from rfl, i_lt (by decide) (by omega)]; omega)]
    rw [show (1 : Int32) = Int32.ofNat 1 from rfl, i_sub (by omega)]
    have i1 : p_im (p_wi h s 5 (Int32.ofNat (stk.length - 1))) s 5 = Int32.ofNat (stk.length - 1) := by rw [wi_im, if_pos ⟨rfl, rfl⟩]
    have i2 : p_im (p_wi h s 5 (Int32.ofNat (stk.length - 1))) (s + 1) = p_im h (s + 1) := by funext j; rw [wi_im, if_neg (by omega)]
    have r1 : p_rm (p_wi h s 5 (Int32.ofNat (stk.length - 1))) s 4 = s + 1 := a6
    have i3 : p_im (p_wi h s 5 (Int32.ofNat (stk.length - 1))) (s + 2) = p_im h (s + 2) := by funext j; rw [wi_im, if_neg (by omega)]
    have i4 : p_im (p_wi h s 5 (Int32.ofNat (stk.length - 1))) s 7 = p_im h s 7 := by rw [wi_im, if_neg (by omega)]
    rw [i1, r1, i2, wi_kd, wi_ln, a8, a9, i_nat (by omega), t3 _ (by omega)]
    refine ⟨⟨a1, by omega⟩, ⟨a1, hs⟩, ⟨a1, by omega⟩, ⟨a1, by omega⟩, ⟨⟨by decide, by omega⟩, i_in (by omega) (by decide)⟩, K _ (FR.wi _ (Or.inl rfl)) ?_⟩
    refine ⟨by rw [i1, pdr_len], by rw [pdr_len]; omega, fun i hi => ?_, by rw [i4, t4], t5, fun i hi => by rw [i3, t6 i hi]⟩
    rw [pdr_len] at hi
    rw [i2, t3 _ (by omega)]
    exact (gD_take hi).symm
  · have e : stk = [] := List.length_eq_zero_iff.mp (by omega)
    subst e
    exact K h FR.rf T
theorem s137 {x : Int32} {Q : PH → Prop} (S : SCO h s q p m) (D : SDJ s q p) (T : SST h s stk sh) (K : ∀ h1, FR (wS s) w0 h h1 → SST h1 s (psh stk x) sh → Q h1) : CV (d + 1) 137 [.ref s, .int x] h Q := by
  obtain ⟨a1, a2, a3, a4, a5, a6, a7, a8, a9, b1, b2, -⟩ := S
  obtain ⟨t1, t2, t3, t4, t5, t6⟩ := id T
  have hs : 1000 ≤ s := by have := D.1; omega
  rw [e137]
  refine ⟨⟨a1, by omega⟩, ?_⟩
  rw [t1, if_neg (i_neg (by omega))]
  refine ⟨⟨a1, by omega⟩, ?_⟩
  refine if_ltn (k := 64) rfl (by omega) (by decide) (fun z => ?_) (fun z => ?_)
  · rw [a6, a8, a9, i_nat (by omega)]
    have i1 : p_im (p_wi h (s + 1) stk.length x) s 5 = Int32.ofNat stk.length := by rw [wi_im, if_neg (by omega), t1]
    rw [i1, show (1 : Int32) = Int32.ofNat 1 from rfl, i_add, r137_19]
    refine ⟨⟨a1, by omega⟩, ⟨a1, by omega⟩, ⟨⟨rfl, by omega⟩, i_in (by omega) (by decide)⟩, ⟨a1, by omega⟩, ⟨a1, hs⟩, K _ ((FR.wi _ (Or.inr (Or.inl rfl))).tr (FR.wi _ (Or.inl rfl))) ?_⟩
    have e : psh stk x = stk ++ [x] := by unfold psh; rw [show Nat.blt stk.length 64 = true from Nat.ble_eq.mpr z]; rfl
    have el : (stk ++ [x]).length = stk.length + 1 := by rw [List.length_append]; rfl
    rw [e]
    refine ⟨by rw [wi_im, if_pos ⟨rfl, rfl⟩, el], by omega, fun i hi => ?_, by rw [wi_im, if_neg (by omega), wi_im, if_neg (by omega), t4], t5, fun i hi => by rw [wi_im, if_neg (by omega), wi_im, if_neg (by omega), t6 i hi]⟩
    rw [el] at hi
    rw [wi_im, if_neg (by omega), wi_im]
    by_cases y : i = stk.length
    · rw [if_pos ⟨rfl, y⟩, y, gD_last]
    · rw [if_neg (by omega), t3 i (by omega), gD_app (by omega)]
  · rw [r137_19]
    have e : psh stk x = stk := by unfold psh; rw [show Nat.blt stk.length 64 = false from Bool.eq_false_iff.mpr (fun q => z (Nat.ble_eq.mp q))]; rfl
    exact K h FR.rf (by rw [e]; exact T)
theorem s135 {x : Int32} {Q : PH → Prop} (S : SCO h s q p m) (D : SDJ s q p) (T : SST h s stk sh) (K : ∀ h1, FR (wS s) w0 h h1 → SST h1 s stk (pnt sh x) → Q h1) : CV (d + 1) 135 [.ref s, .int x] h Q := by
  obtain ⟨a1, a2, a3, a4, a5, a6, a7, a8, a9, b1, b2, -⟩ := S
  obtain ⟨t1, t2, t3, t4, t5, t6⟩ := id T
  have hs : 1000 ≤ s := by have := D.1; omega
  rw [e135]
  refine ⟨⟨a1, by omega⟩, ?_⟩
  rw [t4]
  refine if_ltn (k := 600) rfl (by omega) (by decide) (fun z => ?_) (fun z => ?_)
  · rw [a7, b1, b2, i_nat (by omega)]
    have i1 : p_im (p_wi h (s + 2) sh.length x) s 7 = Int32.ofNat sh.length := by rw [wi_im, if_neg (by omega), t4]
    rw [i1, show (1 : Int32) = Int32.ofNat 1 from rfl, i_add, r135_16]
    refine ⟨⟨a1, by omega⟩, ⟨a1, by omega⟩, ⟨⟨rfl, by omega⟩, i_in (by omega) (by decide)⟩, ⟨a1, by omega⟩, ⟨a1, hs⟩, K _ ((FR.wi _ (Or.inr (Or.inr rfl))).tr (FR.wi _ (Or.inl rfl))) ?_⟩
    have e : pnt sh x = sh ++ [x] := by unfold pnt; rw [show Nat.blt sh.length 600 = true from Nat.ble_eq.mpr z]; rfl
    have el : (sh ++ [x]).length = sh.length + 1 := by rw [List.length_append]; rfl
    rw [e]
    refine ⟨by rw [wi_im, if_neg (by omega), wi_im, if_neg (by omega), t1], t2, fun i hi => by rw [wi_im, if_neg (by omega), wi_im, if_neg (by omega), t3 i hi], by rw [wi_im, if_pos ⟨rfl, rfl⟩, el], by omega, fun i hi => ?_⟩
    rw [el] at hi
    rw [wi_im, if_neg (by omega), wi_im]
    by_cases y : i = sh.length
    · rw [if_pos ⟨rfl, y⟩, y, gD_last]
    · rw [if_neg (by omega), t6 i (by omega), gD_app (by omega)]
  · rw [r135_16]
    have e : pnt sh x = sh := by unfold pnt; rw [show Nat.blt sh.length 600 = false from Bool.eq_false_iff.mpr (fun q => z (Nat.ble_eq.mp q))]; rfl
    exact K h FR.rf (by rw [e]; exact T)
/-- a row's element, guarded -/
def gd (f : Nat → Int32) (n : Nat) (t : Int32) : Int32 := if t < 0 then 0 else if t < Int32.ofNat n then f t.toNatClampNeg else 0
theorem s136 {x : Int32} {Q : Int32 → PH → Prop} (S : SCO h s q p m) (D : SDJ s q p) (K : Q (gd (p_im h q) 16 x) h) : CI (d + 1) 136 [.ref s, .int x] h Q := by
  obtain ⟨a1, a2, a3, a4, a5, a6, a7, a8, a9, b1, b2, b3, b4, b5, b6, -⟩ := S
  have hs : 1000 ≤ s := by have := D.1; omega
  have hq : 1000 ≤ q := by have := D.2.1; omega
  unfold gd at K
  rw [e136, a4, b5, b6]
  split
  · rename_i z; rw [r136_7]; rw [if_pos z] at K; exact K
  · rename_i z
    rw [if_neg z] at K
    refine ⟨⟨a1, by omega⟩, ⟨by decide, by omega⟩, ?_⟩
    split
    · rename_i y; rw [if_pos y] at K; exact ⟨⟨a1, by omega⟩, ⟨⟨by decide, by omega⟩, in_of z y (Nat.le_refl _) (by decide)⟩, K⟩
    · rename_i y; rw [r136_7]; rw [if_neg y] at K; exact K
/-- signs of a word: so many as there are between -/
def wd (a b : Int32) : Int32 := if a < b then b - a else 0
theorem i_succ {a b : Int32} (h : a < b) : (a + 1).toInt = a.toInt + 1 := by
  rw [Int32.lt_iff_toInt_lt] at h
  have h1 := Int32.toInt_lt b
  have h2 := Int32.le_toInt a
  rw [Int32.toInt_add, show (1 : Int32).toInt = 1 from rfl]
  exact Int.bmod_eq_of_le (by omega) (by omega)
theorem wd_step {a b : Int32} (h : a < b) : 1 + wd (a + 1) b = wd a b := by
  have e := i_succ h
  unfold wd
  rw [if_pos h]
  by_cases z : a + 1 < b
  · rw [if_pos z]; grind
  · rw [if_neg z]
    rw [Int32.lt_iff_toInt_lt] at h z
    have e2 : a + 1 = b := Int32.toInt_inj.mp (by omega)
    rw [← e2, Int32.add_comm a, Int32.add_sub_cancel, Int32.add_zero]
end SCR1
