section MK2
variable {d a0 b : Nat} {h : PH} {Q : PH → Prop}
def obLib (b : Nat) : List (Nat × Nat × Nat) := ([] ++ [(b + 0, 3, 0)] ++ obGr (b + 1)) ++ [(b + 28, 100, 10)] ++ [(b + 29, 100, 10)] ++ [(b + 30, 100, 24)]
def fdLib (b : Nat) : List (Nat × Nat × Nat) := [] ++ ((owGr (b + 1)).map (fun x => (b + 0, x.1, x.2)) ++ fdGr (b + 1))
def owLib (b : Nat) : List (Nat × Nat) := [(0, b), (1, b + 1), (2, b + 7), (3, b + 10), (4, b + 28), (5, b + 29), (6, b + 30)]
theorem s4 (hk : p_kd h a0 = 2) (h1000 : 1000 ≤ a0) (hx : p_nx h = b) (ha : a0 < b) (hb : b ≤ 1700) (hu : p_us h ≤ 70000) (K : ∀ h1, AC a0 b h h1 31 6867 (obLib b) (fdLib b) (owLib b) → Q h1) : CV (d + 4) 4 [.ref a0] h Q := by
  have A0 : AC a0 b h h 0 0 [] [] [] := AC.nil hx ha
  rw [e4]
  refine ⟨h1000, A0.room (by omega) (by omega) (by omega), by omega, s3 (b := b + 1) (by rw [pn_kd, if_pos rfl]) (by omega) (by rw [pn_nx]; omega) (by omega) (by omega) (by rw [pn_us]; omega) (fun h1 B => ?_)⟩
  rw [← hx] at B
  have A1 := A0.obj B (j := 0) (by simp)
  rw [hx] at A1
  refine ⟨⟨(A0.sub B).k.trans hk, h1000⟩, ?_⟩
  rw [hx]
  generalize p_wr h1 a0 0 b = h2 at *
  have q0 : p_rm h2 a0 0 = b := A1.ow (by simp)
  have m0 : (b, 0, b + 1) ∈ ([] ++ ((owGr (b + 1)).map (fun x => (b + 0, x.1, x.2)) ++ fdGr (b + 1)) : List (Nat × Nat × Nat)) := by simp [owGr]
  have m1 : (b, 1, b + 7) ∈ ([] ++ ((owGr (b + 1)).map (fun x => (b + 0, x.1, x.2)) ++ fdGr (b + 1)) : List (Nat × Nat × Nat)) := by simp [owGr]
  have m2 : (b, 2, b + 10) ∈ ([] ++ ((owGr (b + 1)).map (fun x => (b + 0, x.1, x.2)) ++ fdGr (b + 1)) : List (Nat × Nat × Nat)) := by simp [owGr]
  have q1 : p_rm h2 b 0 = b + 1 := A1.fdm m0
  have o0 : p_kd h2 b = 3 := (A1.obm (x := b) (k := 3) (m := 0) (by simp)).1
  have b0 : ¬ b = 0 := by omega
  rw [q0, q1, o0]
  refine ⟨A1.g3 hk h1000, ⟨rfl, b0⟩, A1.g2 hk h1000, ?_⟩
  have A2 := A1.set 1 (b + 1) (by simp)
  generalize p_wr h2 a0 1 (b + 1) = h3 at *
  have q0 : p_rm h3 a0 0 = b := A2.ow (by simp)
  have q1 : p_rm h3 b 1 = b + 7 := A2.fdm m1
  have o0 : p_kd h3 b = 3 := (A2.obm (x := b) (k := 3) (m := 0) (by simp)).1
  rw [q0, q1, o0]
  refine ⟨A2.g3 hk h1000, ⟨rfl, b0⟩, A2.g2 hk h1000, ?_⟩
  have A3 := A2.set 2 (b + 7) (by simp)
  generalize p_wr h3 a0 2 (b + 7) = h4 at *
  have q0 : p_rm h4 a0 0 = b := A3.ow (by simp)
  have q1 : p_rm h4 b 2 = b + 10 := A3.fdm m2
  have o0 : p_kd h4 b = 3 := (A3.obm (x := b) (k := 3) (m := 0) (by simp)).1
  rw [r4_17, q0, q1, o0]
  have A4 := A3.set 3 (b + 10) (by simp)
  have A5 := A4.row 100 10 4 (by simp)
  have A6 := A5.row 100 10 5 (by simp)
  refine ⟨A3.g3 hk h1000, ⟨rfl, b0⟩, A3.g2 hk h1000, ⟨by decide, A4.room (by omega) (by omega) (by omega)⟩, A4.g1 hk h1000 _ _ _, ⟨by decide, A5.room (by omega) (by omega) (by omega)⟩, A5.g1 hk h1000 _ _ _, ?_⟩
  rw [r4_30]
  have A7 := A6.row 100 24 6 (by simp)
  have A8 := A7.int 7 0
  have A9 := A8.int 8 0
  have A10 := A9.int 9 0
  have A11 := A10.int 10 0
  have A12 := A11.int 11 0
  refine ⟨⟨by decide, A6.room (by omega) (by omega) (by omega)⟩, A6.g1 hk h1000 _ _ _, A7.g2 hk h1000, A8.g2 hk h1000, A9.g2 hk h1000, A10.g2 hk h1000, A11.g2 hk h1000, ?_⟩
  rw [r4_49]
  exact K _ A12
def obCf (b : Nat) : List (Nat × Nat × Nat) := [(b, 100, 60), (b + 1, 100, 60), (b + 2, 100, 60)]
def owCf (b : Nat) : List (Nat × Nat) := [(0, b), (1, b + 1), (2, b + 2)]
theorem s5 (hk : p_kd h a0 = 8) (h1000 : 1000 ≤ a0) (hx : p_nx h = b) (ha : a0 < b) (hb : b ≤ 1900) (hu : p_us h ≤ 90000) (K : ∀ h1, AC a0 b h h1 3 180 (obCf b) [] (owCf b) → Q h1) : CV (d + 1) 5 [.ref a0] h Q := by
  have A0 : AC a0 b h h 0 0 [] [] [] := AC.nil hx ha
  have A1 := A0.row 100 60 0 (by simp)
  have A2 := A1.row 100 60 1 (by simp)
  have A3 := A2.row 100 60 2 (by simp)
  have A4 := A3.int 3 0
  rw [e5]
  refine ⟨h1000, ⟨by decide, A0.room (by omega) (by omega) (by omega)⟩, A0.g1 hk h1000 _ _ _, ⟨by decide, A1.room (by omega) (by omega) (by omega)⟩, A1.g1 hk h1000 _ _ _, ⟨by decide, A2.room (by omega) (by omega) (by omega)⟩, A2.g1 hk h1000 _ _ _, ?_⟩
  rw [r5_14]
  exact ⟨A3.g2 hk h1000, K _ A4⟩
def obSc (b : Nat) : List (Nat × Nat × Nat) := [(b, 100, 64), (b + 1, 100, 600)]
def owSc (b : Nat) : List (Nat × Nat) := [(0, 0), (1, 0), (2, 0), (3, 0), (4, b), (6, b + 1)]
theorem s6 (hk : p_kd h a0 = 9) (h1000 : 1000 ≤ a0) (hx : p_nx h = b) (ha : a0 < b) (hb : b ≤ 1900) (hu : p_us h ≤ 90000) (K : ∀ h1, AC a0 b h h1 2 664 (obSc b) [] (owSc b) → Q h1) : CV (d + 1) 6 [.ref a0] h Q := by
  have A0 : AC a0 b h h 0 0 [] [] [] := AC.nil hx ha
  have A1 := A0.set 0 0 (by simp)
  have A2 := A1.set 1 0 (by simp)
  have A3 := A2.set 2 0 (by simp)
  have A4 := A3.set 3 0 (by simp)
  have A5 := A4.row 100 64 4 (by simp)
  have A6 := A5.int 5 0
  have A7 := A6.row 100 600 6 (by simp)
  have A8 := A7.int 7 0
  rw [e6]
  refine ⟨h1000, A0.g2 hk h1000, A1.g2 hk h1000, A2.g2 hk h1000, A3.g2 hk h1000, ⟨by decide, A4.room (by omega) (by omega) (by omega)⟩, A4.g1 hk h1000 _ _ _, ?_⟩
  rw [r6_18]
  exact ⟨A5.g2 hk h1000, ⟨by decide, A6.room (by omega) (by omega) (by omega)⟩, A6.g1 hk h1000 _ _ _, A7.g2 hk h1000, K _ A8⟩
def obPg (b m : Nat) : List (Nat × Nat × Nat) := [(b, 120, m)]
def owPg (b : Nat) : List (Nat × Nat) := [(0, b)]
theorem s7 {m : Nat} (hm : m ≤ 6000) (hk : p_kd h a0 = 11) (h1000 : 1000 ≤ a0) (hx : p_nx h = b) (ha : a0 < b) (hb : b ≤ 1900) (hu : p_us h ≤ 90000) (K : ∀ h1, AC a0 b h h1 1 m (obPg b m) [] (owPg b) → Q h1) : CV (d + 1) 7 [.ref a0, .int (Int32.ofNat m)] h Q := by
  have A0 : AC a0 b h h 0 0 [] [] [] := AC.nil hx ha
  have A1 := A0.int 1 0
  have go : ∀ k, k = m → wp d 7 11 [.unset, .unset] [.int (Int32.ofNat k), .ref a0] (p_wi h a0 1 0) (fun v h1 => onV v (Q h1)) := fun k e => by
    rw [e, r7_11, i_nat (by omega)]
    have A2 := A1.row 120 m 0 (by simp)
    refine ⟨⟨i_neg (by omega), A1.room (by omega) (by omega) (by omega)⟩, A1.g1 hk h1000 _ _ _, K _ ?_⟩
    rw [show 0 + m = m from by omega] at A2
    exact A2
  rw [e7]
  refine ⟨h1000, A0.g2 hk h1000, ?_⟩
  split
  · exact go m rfl
  · rename_i hz
    rw [i_ofNat0, i_lt (by omega) (by omega)] at hz
    exact go 0 (by omega)
def obDr (b m : Nat) : List (Nat × Nat × Nat) := [(b, 100, 16), (b + 1, 100, 16), (b + 2, 100, 16), (b + 3, 100, 16), (b + 4, 11, 0)] ++ obPg (b + 5) m
def fdDr (b : Nat) : List (Nat × Nat × Nat) := [(b + 4, 0, b + 5)]
def owDr (b : Nat) : List (Nat × Nat) := [(2, b), (3, b + 1), (4, b + 2), (5, b + 3), (6, b + 4)]
theorem s8 {m : Nat} (hm : m ≤ 6000) (hk : p_kd h a0 = 10) (h1000 : 1000 ≤ a0) (hx : p_nx h = b) (ha : a0 < b) (hb : b ≤ 1800) (hu : p_us h ≤ 80000) (K : ∀ h1, AC a0 b h h1 6 (66 + m) (obDr b m) (fdDr b) (owDr b) → Q h1) : CV (d + 2) 8 [.ref a0, .int (Int32.ofNat m)] h Q := by
  have A0 : AC a0 b h h 0 0 [] [] [] := AC.nil hx ha
  have A1 := A0.int 0 0
  have A2 := A1.int 1 0
  have A3 := A2.row 100 16 2 (by simp)
  have A4 := A3.row 100 16 3 (by simp)
  have A5 := A4.row 100 16 4 (by simp)
  have A6 := A5.row 100 16 5 (by simp)
  rw [e8]
  refine ⟨h1000, A0.g2 hk h1000, A1.g2 hk h1000, ⟨by decide, A2.room (by omega) (by omega) (by omega)⟩, A2.g1 hk h1000 _ _ _, ⟨by decide, A3.room (by omega) (by omega) (by omega)⟩, ?_⟩
  rw [r8_15]
  refine ⟨A3.g1 hk h1000 _ _ _, ⟨by decide, A4.room (by omega) (by omega) (by omega)⟩, A4.g1 hk h1000 _ _ _, ⟨by decide, A5.room (by omega) (by omega) (by omega)⟩, A5.g1 hk h1000 _ _ _, ?_⟩
  rw [r8_24]
  have x6 := A6.2.2.1
  have u6 := A6.2.2.2.1
  generalize p_wr (p_new _ 100 16 16) a0 5 _ = h6 at *
  refine ⟨A6.room (by omega) (by omega) (by omega), by omega, s7 (b := p_nx h6 + 1) hm (by rw [pn_kd, if_pos rfl]) (by omega) rfl (by omega) (by omega) (by rw [pn_us]; omega) (fun h1 B => ?_)⟩
  have A7 := A6.obj B (j := 6) (by simp)
  refine ⟨⟨(A6.sub B).k.trans hk, h1000⟩, K _ ?_⟩
  rw [x6] at A7 ⊢
  rw [show 0 + 16 + 16 + 16 + 16 + 2 + m = 66 + m from by omega] at A7
  exact A7
def obCt (b m : Nat) : List (Nat × Nat × Nat) := ([(b, 8, 0)] ++ obCf (b + 1)) ++ ([(b + 4, 9, 0)] ++ obSc (b + 5)) ++ [(b + 7, 100, 16), (b + 8, 100, 24), (b + 9, 100, 24), (b + 10, 100, 24), (b + 11, 100, 24)] ++ ([(b + 12, 10, 0)] ++ obDr (b + 13) m)
def fdCt (b : Nat) : List (Nat × Nat × Nat) := (owCf (b + 1)).map (fun x => (b, x.1, x.2)) ++ (owSc (b + 5)).map (fun x => (b + 4, x.1, x.2)) ++ ((owDr (b + 13)).map (fun x => (b + 12, x.1, x.2)) ++ fdDr (b + 13))
def owCt (b : Nat) : List (Nat × Nat) := [(1, b), (2, b + 4), (5, b + 7), (6, b + 8), (7, b + 9), (8, b + 10), (9, b + 11), (0, b + 12)]
theorem s9 {m : Nat} (hm : m ≤ 6000) (hk : p_kd h a0 = 7) (h1000 : 1000 ≤ a0) (hx : p_nx h = b) (ha : a0 < b) (hb : b ≤ 1700) (hu : p_us h ≤ 70000) (K : ∀ h1, AC a0 b h h1 19 (1041 + m) (obCt b m) (fdCt b) (owCt b) → Q h1) : CV (d + 3) 9 [.ref a0, .int (Int32.ofNat m)] h Q := by
  have A0 : AC a0 b h h 0 0 [] [] [] := AC.nil hx ha
  rw [e9]
  refine ⟨h1000, A0.room (by omega) (by omega) (by omega), by omega, s5 (b := p_nx h + 1) (by rw [pn_kd, if_pos rfl]) (by omega) rfl (by omega) (by omega) (by rw [pn_us]; omega) (fun h1 B => ?_)⟩
  have A1 := A0.obj B (j := 1) (by simp)
  refine ⟨⟨(A0.sub B).k.trans hk, h1000⟩, ?_⟩
  generalize p_wr h1 a0 1 (p_nx h) = h2 at *
  have x1 := A1.2.2.1
  have u1 := A1.2.2.2.1
  refine ⟨A1.room (by omega) (by omega) (by omega), by omega, s6 (b := p_nx h2 + 1) (by rw [pn_kd, if_pos rfl]) (by omega) rfl (by omega) (by omega) (by rw [pn_us]; omega) (fun h3 B => ?_)⟩
  have A2 := A1.obj B (j := 2) (by simp)
  refine ⟨⟨(A1.sub B).k.trans hk, h1000⟩, ?_⟩
  generalize p_wr h3 a0 2 (p_nx h2) = h4 at *
  have A3 := A2.int 3 0
  have A4 := A3.int 4 0
  have A5 := A4.row 100 16 5 (by simp)
  refine ⟨A2.g2 hk h1000, A3.g2 hk h1000, ⟨by decide, A4.room (by omega) (by omega) (by omega)⟩, A4.g1 hk h1000 _ _ _, ?_⟩
  rw [r9_22]
  have A6 := A5.row 100 24 6 (by simp)
  have A7 := A6.row 100 24 7 (by simp)
  have A8 := A7.row 100 24 8 (by simp)
  refine ⟨⟨by decide, A5.room (by omega) (by omega) (by omega)⟩, A5.g1 hk h1000 _ _ _, ⟨by decide, A6.room (by omega) (by omega) (by omega)⟩, A6.g1 hk h1000 _ _ _, ⟨by decide, A7.room (by omega) (by omega) (by omega)⟩, A7.g1 hk h1000 _ _ _, ?_⟩
  rw [r9_34]
  have A9 := A8.row 100 24 9 (by simp)
  refine ⟨⟨by decide, A8.room (by omega) (by omega) (by omega)⟩, A8.g1 hk h1000 _ _ _, ?_⟩
  have x9 := A9.2.2.1
  have u9 := A9.2.2.2.1
  generalize p_wr (p_new _ 100 24 24) a0 9 _ = h9 at *
  refine ⟨A9.room (by omega) (by omega) (by omega), by omega, s8 (b := p_nx h9 + 1) hm (by rw [pn_kd, if_pos rfl]) (by omega) rfl (by omega) (by omega) (by rw [pn_us]; omega) (fun h10 B => ?_)⟩
  have A10 := A9.obj B (j := 0) (by simp)
  refine ⟨⟨(A9.sub B).k.trans hk, h1000⟩, K _ ?_⟩
  rw [hx] at A10
  have x1' : p_nx h2 = b + 4 := by omega
  have x9' : p_nx h9 = b + 12 := by omega
  rw [x1'] at A10
  rw [x9'] at A10 ⊢
  rw [show 0 + 4 + 180 + 8 + 664 + 16 + 24 + 24 + 24 + 24 + 7 + (66 + m) = 1041 + m from by omega] at A10
  exact A10
end MK2
