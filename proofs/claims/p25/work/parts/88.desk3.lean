section MK3
variable {d a0 b : Nat} {h : PH} {Q : PH → Prop}
def obDk (b : Nat) : List (Nat × Nat × Nat) := [] ++ [(b + 0, 120, 3000)] ++ [(b + 1, 2, 0)] ++ obLib (b + 2) ++ [(b + 33, 2, 0)] ++ obLib (b + 34) ++ [(b + 65, 100, 10)] ++ [(b + 66, 7, 0)] ++ obCt (b + 67) 6000 ++ [(b + 86, 7, 0)] ++ obCt (b + 87) 0 ++ [(b + 106, 9, 0)] ++ obSc (b + 107) ++ [(b + 109, 11, 0)] ++ obPg (b + 110) 0 ++ [(b + 111, 10, 0)] ++ obDr (b + 112) 6000 ++ [(b + 118, 100, 16)]
def fdDk (b : Nat) : List (Nat × Nat × Nat) := [] ++ ((owLib (b + 2)).map (fun x => (b + 1, x.1, x.2)) ++ fdLib (b + 2)) ++ ((owLib (b + 34)).map (fun x => (b + 33, x.1, x.2)) ++ fdLib (b + 34)) ++ ((owCt (b + 67)).map (fun x => (b + 66, x.1, x.2)) ++ fdCt (b + 67)) ++ ((owCt (b + 87)).map (fun x => (b + 86, x.1, x.2)) ++ fdCt (b + 87)) ++ ((owSc (b + 107)).map (fun x => (b + 106, x.1, x.2)) ++ []) ++ ((owPg (b + 110)).map (fun x => (b + 109, x.1, x.2)) ++ []) ++ ((owDr (b + 112)).map (fun x => (b + 111, x.1, x.2)) ++ fdDr (b + 112))
def owDk (b : Nat) : List (Nat × Nat) := [] ++ [(0, b + 0)] ++ [(3, b + 1)] ++ [(4, b + 33)] ++ [(5, b + 65)] ++ [(8, b + 66)] ++ [(9, b + 86)] ++ [(10, b + 106)] ++ [(11, b + 109)] ++ [(12, b + 111)] ++ [(13, b + 118)]
theorem s10 (hk : p_kd h a0 = 1) (h1000 : 1000 ≤ a0) (hx : p_nx h = b) (ha : a0 < b) (hb : b ≤ 1500) (hu : p_us h ≤ 20000) (K : ∀ h1, AC a0 b h h1 119 31633 (obDk b) (fdDk b) (owDk b) → Q h1) : CV (d + 6) 10 [.ref a0] h Q := by
  have A0 : AC a0 b h h 0 0 [] [] [] := AC.nil hx ha
  have A1 := A0.row 120 3000 0 (by simp)
  have A2 := A1.int 1 0
  have A3 := A2.int 2 (-1)
  rw [e10]
  refine ⟨h1000, ⟨by decide, A0.room (by omega) (by omega) (by omega)⟩, A0.g1 hk h1000 _ _ _, A1.g2 hk h1000, A2.g2 hk h1000, ?_⟩
  have x3 := A3.2.2.1
  have u3 := A3.2.2.2.1
  generalize p_wi (p_wi (p_wr (p_new h 120 3000 3000) a0 0 (p_nx h)) a0 1 0) a0 2 (-1) = h3 at *
  refine ⟨A3.room (by omega) (by omega) (by omega), by omega, s4 (b := p_nx h3 + 1) (by rw [pn_kd, if_pos rfl]) (by omega) rfl (by omega) (by omega) (by rw [pn_us]; omega) (fun h4 B => ?_)⟩
  have A4 := A3.obj B (j := 3) (by simp)
  refine ⟨⟨(A3.sub B).k.trans hk, h1000⟩, ?_⟩
  rw [x3] at A4 ⊢
  generalize p_wr h4 a0 3 _ = h5 at *
  have x5 := A4.2.2.1
  have u5 := A4.2.2.2.1
  refine ⟨A4.room (by omega) (by omega) (by omega), by omega, s4 (b := p_nx h5 + 1) (by rw [pn_kd, if_pos rfl]) (by omega) rfl (by omega) (by omega) (by rw [pn_us]; omega) (fun h6 B => ?_)⟩
  have A5 := A4.obj B (j := 4) (by simp)
  refine ⟨⟨(A4.sub B).k.trans hk, h1000⟩, ?_⟩
  rw [x5] at A5 ⊢
  generalize p_wr h6 a0 4 _ = h7 at *
  have A6 := A5.row 100 10 5 (by simp)
  refine ⟨⟨by decide, A5.room (by omega) (by omega) (by omega)⟩, ?_⟩
  rw [r10_25]
  have A7 := A6.int 6 0
  have A8 := A7.int 7 0
  refine ⟨A5.g1 hk h1000 _ _ _, A6.g2 hk h1000, A7.g2 hk h1000, ?_⟩
  have x8 := A8.2.2.1
  have u8 := A8.2.2.2.1
  generalize p_wi (p_wi (p_wr (p_new h7 100 10 10) a0 5 (p_nx h7)) a0 6 0) a0 7 0 = h8 at *
  refine ⟨A8.room (by omega) (by omega) (by omega), by omega, s9 (m := 6000) (b := p_nx h8 + 1) (by decide) (by rw [pn_kd, if_pos rfl]) (by omega) rfl (by omega) (by omega) (by rw [pn_us]; omega) (fun h9 B => ?_)⟩
  have A9 := A8.obj B (j := 8) (by simp)
  refine ⟨⟨(A8.sub B).k.trans hk, h1000⟩, ?_⟩
  rw [x8] at A9 ⊢
  generalize p_wr h9 a0 8 _ = h10 at *
  have x10 := A9.2.2.1
  have u10 := A9.2.2.2.1
  refine ⟨A9.room (by omega) (by omega) (by omega), by omega, s9 (m := 0) (b := p_nx h10 + 1) (by decide) (by rw [pn_kd, if_pos rfl]) (by omega) rfl (by omega) (by omega) (by rw [pn_us]; omega) (fun h11 B => ?_)⟩
  have A10 := A9.obj B (j := 9) (by simp)
  refine ⟨⟨(A9.sub B).k.trans hk, h1000⟩, ?_⟩
  rw [x10] at A10 ⊢
  generalize p_wr h11 a0 9 _ = h12 at *
  have x12 := A10.2.2.1
  have u12 := A10.2.2.2.1
  refine ⟨A10.room (by omega) (by omega) (by omega), by omega, s6 (b := p_nx h12 + 1) (by rw [pn_kd, if_pos rfl]) (by omega) rfl (by omega) (by omega) (by rw [pn_us]; omega) (fun h13 B => ?_)⟩
  have A11 := A10.obj B (j := 10) (by simp)
  refine ⟨⟨(A10.sub B).k.trans hk, h1000⟩, ?_⟩
  rw [x12] at A11 ⊢
  generalize p_wr h13 a0 10 _ = h14 at *
  have x14 := A11.2.2.1
  have u14 := A11.2.2.2.1
  refine ⟨A11.room (by omega) (by omega) (by omega), by omega, s7 (m := 0) (b := p_nx h14 + 1) (by decide) (by rw [pn_kd, if_pos rfl]) (by omega) rfl (by omega) (by omega) (by rw [pn_us]; omega) (fun h15 B => ?_)⟩
  have A12 := A11.obj B (j := 11) (by simp)
  refine ⟨⟨(A11.sub B).k.trans hk, h1000⟩, ?_⟩
  rw [x14] at A12 ⊢
  generalize p_wr h15 a0 11 _ = h16 at *
  have x16 := A12.2.2.1
  have u16 := A12.2.2.2.1
  rw [r10_55]
  refine ⟨A12.room (by omega) (by omega) (by omega), by omega, s8 (m := 6000) (b := p_nx h16 + 1) (by decide) (by rw [pn_kd, if_pos rfl]) (by omega) rfl (by omega) (by omega) (by rw [pn_us]; omega) (fun h17 B => ?_)⟩
  have A13 := A12.obj B (j := 12) (by simp)
  refine ⟨⟨(A12.sub B).k.trans hk, h1000⟩, ?_⟩
  rw [x16] at A13 ⊢
  generalize p_wr h17 a0 12 _ = h18 at *
  have A14 := A13.row 100 16 13 (by simp)
  refine ⟨⟨by decide, A13.room (by omega) (by omega) (by omega)⟩, A13.g1 hk h1000 _ _ _, K _ ?_⟩
  exact A14
end MK3
