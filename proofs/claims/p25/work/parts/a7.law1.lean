/-! The law, from its end: advice and the fewest; what would be. -/
abbrev lo30 (sm : Nat) (x4 : Int32) (x5 : Int32) : List Slot := [.val (.ref 60), .val (.ref 1000), .unset, .val (.ref sm), .val (.int x4), .val (.int x5), .unset, .unset, .unset, .unset, .unset, .unset, .unset, .unset, .unset, .unset, .unset, .unset, .unset, .unset, .unset, .unset, .unset, .unset, .unset]
abbrev lo51 (sm : Nat) (x4 : Int32) (x5 : Int32) (x6 : Int32) : List Slot := [.val (.ref 60), .val (.ref 1000), .unset, .val (.ref sm), .val (.int x4), .val (.int x5), .val (.int x6), .unset, .unset, .unset, .unset, .unset, .unset, .unset, .unset, .unset, .unset, .unset, .unset, .unset, .unset, .unset, .unset, .unset, .unset]
abbrev lo72 (sm : Nat) (x4 : Int32) (x5 : Int32) (x6 : Int32) (x7 : Int32) : List Slot := [.val (.ref 60), .val (.ref 1000), .unset, .val (.ref sm), .val (.int x4), .val (.int x5), .val (.int x6), .val (.int x7), .unset, .unset, .unset, .unset, .unset, .unset, .unset, .unset, .unset, .unset, .unset, .unset, .unset, .unset, .unset, .unset, .unset]
abbrev lo78 (sm : Nat) (x4 : Int32) (x5 : Int32) (x6 : Int32) (x7 : Int32) (x8 : Int32) (x9 : Int32) (x10 : Int32) : List Slot := [.val (.ref 60), .val (.ref 1000), .unset, .val (.ref sm), .val (.int x4), .val (.int x5), .val (.int x6), .val (.int x7), .val (.int x8), .val (.int x9), .val (.int x10), .unset, .unset, .unset, .unset, .unset, .unset, .unset, .unset, .unset, .unset, .unset, .unset, .unset, .unset]
abbrev lo119 (sm : Nat) (x4 : Int32) (x5 : Int32) (x6 : Int32) (x7 : Int32) (x8 : Int32) (x10 : Int32) : List Slot := [.val (.ref 60), .val (.ref 1000), .unset, .val (.ref sm), .val (.int x4), .val (.int x5), .val (.int x6), .val (.int x7), .val (.int x8), .unset, .val (.int x10), .unset, .unset, .unset, .unset, .unset, .unset, .unset, .unset, .unset, .unset, .unset, .unset, .unset, .unset]
abbrev lo142 (sm : Nat) (x4 : Int32) (x5 : Int32) (x6 : Int32) (x7 : Int32) (x8 : Int32) (x9 : Int32) : List Slot := [.val (.ref 60), .val (.ref 1000), .unset, .val (.ref sm), .val (.int x4), .val (.int x5), .val (.int x6), .val (.int x7), .val (.int x8), .val (.int x9), .unset, .unset, .unset, .unset, .unset, .unset, .unset, .unset, .unset, .unset, .unset, .unset, .unset, .unset, .unset]
abbrev lo154 (sm : Nat) (x4 : Int32) (x5 : Int32) (x6 : Int32) (x7 : Int32) (x8 : Int32) (x9 : Int32) (a10 : Nat) (x11 : Int32) : List Slot := [.val (.ref 60), .val (.ref 1000), .unset, .val (.ref sm), .val (.int x4), .val (.int x5), .val (.int x6), .val (.int x7), .val (.int x8), .val (.int x9), .val (.ref a10), .val (.int x11), .unset, .unset, .unset, .unset, .unset, .unset, .unset, .unset, .unset, .unset, .unset, .unset, .unset]
abbrev lo181 (sm : Nat) (x4 : Int32) (x5 : Int32) (x6 : Int32) (x7 : Int32) (x8 : Int32) (x9 : Int32) (a10 : Nat) (x11 : Int32) (x12 : Int32) (x13 : Int32) (x14 : Int32) (x15 : Int32) : List Slot := [.val (.ref 60), .val (.ref 1000), .unset, .val (.ref sm), .val (.int x4), .val (.int x5), .val (.int x6), .val (.int x7), .val (.int x8), .val (.int x9), .val (.ref a10), .val (.int x11), .val (.int x12), .val (.int x13), .val (.int x14), .val (.int x15), .unset, .unset, .unset, .unset, .unset, .unset, .unset, .unset, .unset]
abbrev lo215 (sm : Nat) (x4 : Int32) (x5 : Int32) (x6 : Int32) (x7 : Int32) (x8 : Int32) (x9 : Int32) (a10 : Nat) (x11 : Int32) (x12 : Int32) (x13 : Int32) (x14 : Int32) (x15 : Int32) (x16 : Int32) (x17 : Int32) : List Slot := [.val (.ref 60), .val (.ref 1000), .unset, .val (.ref sm), .val (.int x4), .val (.int x5), .val (.int x6), .val (.int x7), .val (.int x8), .val (.int x9), .val (.ref a10), .val (.int x11), .val (.int x12), .val (.int x13), .val (.int x14), .val (.int x15), .val (.int x16), .val (.int x17), .unset, .unset, .unset, .unset, .unset, .unset, .unset]
abbrev lo224 (sm : Nat) (x4 : Int32) (x5 : Int32) (x6 : Int32) (x7 : Int32) (x8 : Int32) (x9 : Int32) (a10 : Nat) (x11 : Int32) (x12 : Int32) (x13 : Int32) (x14 : Int32) (x15 : Int32) (x16 : Int32) (x17 : Int32) (x18 : Int32) (x19 : Int32) (x20 : Int32) : List Slot := [.val (.ref 60), .val (.ref 1000), .unset, .val (.ref sm), .val (.int x4), .val (.int x5), .val (.int x6), .val (.int x7), .val (.int x8), .val (.int x9), .val (.ref a10), .val (.int x11), .val (.int x12), .val (.int x13), .val (.int x14), .val (.int x15), .val (.int x16), .val (.int x17), .val (.int x18), .val (.int x19), .val (.int x20), .unset, .unset, .unset, .unset]
abbrev lo249 (sm : Nat) (x4 : Int32) (x5 : Int32) (x6 : Int32) (x7 : Int32) (x8 : Int32) (x9 : Int32) (a10 : Nat) (x11 : Int32) (x12 : Int32) (x13 : Int32) (x14 : Int32) (x15 : Int32) (x16 : Int32) (x17 : Int32) (x18 : Int32) (x20 : Int32) : List Slot := [.val (.ref 60), .val (.ref 1000), .unset, .val (.ref sm), .val (.int x4), .val (.int x5), .val (.int x6), .val (.int x7), .val (.int x8), .val (.int x9), .val (.ref a10), .val (.int x11), .val (.int x12), .val (.int x13), .val (.int x14), .val (.int x15), .val (.int x16), .val (.int x17), .val (.int x18), .unset, .val (.int x20), .unset, .unset, .unset, .unset]
abbrev lo264 (sm : Nat) (x4 : Int32) (x5 : Int32) (x6 : Int32) (x7 : Int32) (x8 : Int32) (x9 : Int32) (a10 : Nat) (x11 : Int32) (x12 : Int32) (x13 : Int32) (x14 : Int32) (x15 : Int32) (x16 : Int32) (x17 : Int32) (x19 : Int32) : List Slot := [.val (.ref 60), .val (.ref 1000), .unset, .val (.ref sm), .val (.int x4), .val (.int x5), .val (.int x6), .val (.int x7), .val (.int x8), .val (.int x9), .val (.ref a10), .val (.int x11), .val (.int x12), .val (.int x13), .val (.int x14), .val (.int x15), .val (.int x16), .val (.int x17), .unset, .val (.int x19), .unset, .unset, .unset, .unset, .unset]
abbrev lo276 (sm : Nat) (x4 : Int32) (x5 : Int32) (x6 : Int32) (x7 : Int32) (x8 : Int32) (x9 : Int32) (a10 : Nat) (x11 : Int32) (x12 : Int32) (x13 : Int32) (x14 : Int32) (x15 : Int32) (x16 : Int32) : List Slot := [.val (.ref 60), .val (.ref 1000), .unset, .val (.ref sm), .val (.int x4), .val (.int x5), .val (.int x6), .val (.int x7), .val (.int x8), .val (.int x9), .val (.ref a10), .val (.int x11), .val (.int x12), .val (.int x13), .val (.int x14), .val (.int x15), .val (.int x16), .unset, .unset, .unset, .unset, .unset, .unset, .unset, .unset]
abbrev lo287 (sm : Nat) (x4 : Int32) (x5 : Int32) (x6 : Int32) (x7 : Int32) (x8 : Int32) (x9 : Int32) (a10 : Nat) (x11 : Int32) (x12 : Int32) (x13 : Int32) (x14 : Int32) (x15 : Int32) (x16 : Int32) (x20 : Int32) : List Slot := [.val (.ref 60), .val (.ref 1000), .unset, .val (.ref sm), .val (.int x4), .val (.int x5), .val (.int x6), .val (.int x7), .val (.int x8), .val (.int x9), .val (.ref a10), .val (.int x11), .val (.int x12), .val (.int x13), .val (.int x14), .val (.int x15), .val (.int x16), .unset, .unset, .unset, .val (.int x20), .unset, .unset, .unset, .unset]
abbrev lo316 (sm : Nat) (x4 : Int32) (x5 : Int32) (x6 : Int32) (x7 : Int32) (x8 : Int32) (x9 : Int32) (a10 : Nat) (x11 : Int32) (x12 : Int32) (x13 : Int32) (x15 : Int32) (x20 : Int32) : List Slot := [.val (.ref 60), .val (.ref 1000), .unset, .val (.ref sm), .val (.int x4), .val (.int x5), .val (.int x6), .val (.int x7), .val (.int x8), .val (.int x9), .val (.ref a10), .val (.int x11), .val (.int x12), .val (.int x13), .unset, .val (.int x15), .unset, .unset, .unset, .unset, .val (.int x20), .unset, .unset, .unset, .unset]
abbrev lo329 (sm : Nat) (x4 : Int32) (x5 : Int32) (x6 : Int32) (x7 : Int32) (x8 : Int32) (x9 : Int32) (a10 : Nat) (x11 : Int32) (x12 : Int32) (x13 : Int32) (x14 : Int32) (x15 : Int32) (x20 : Int32) (a21 : Nat) (x22 : Int32) (x23 : Int32) : List Slot := [.val (.ref 60), .val (.ref 1000), .unset, .val (.ref sm), .val (.int x4), .val (.int x5), .val (.int x6), .val (.int x7), .val (.int x8), .val (.int x9), .val (.ref a10), .val (.int x11), .val (.int x12), .val (.int x13), .val (.int x14), .val (.int x15), .unset, .unset, .unset, .unset, .val (.int x20), .val (.ref a21), .val (.int x22), .val (.int x23), .unset]
abbrev lo402 (sm : Nat) (x4 : Int32) (x5 : Int32) (x6 : Int32) (x7 : Int32) (x8 : Int32) (x9 : Int32) (a10 : Nat) (x11 : Int32) (x12 : Int32) (x14 : Int32) (x15 : Int32) (x20 : Int32) (a21 : Nat) (x22 : Int32) (x23 : Int32) : List Slot := [.val (.ref 60), .val (.ref 1000), .unset, .val (.ref sm), .val (.int x4), .val (.int x5), .val (.int x6), .val (.int x7), .val (.int x8), .val (.int x9), .val (.ref a10), .val (.int x11), .val (.int x12), .unset, .val (.int x14), .val (.int x15), .unset, .unset, .unset, .unset, .val (.int x20), .val (.ref a21), .val (.int x22), .val (.int x23), .unset]
abbrev lo426 (sm : Nat) (x4 : Int32) (x5 : Int32) (x6 : Int32) (x7 : Int32) (x8 : Int32) (x9 : Int32) (a10 : Nat) (x11 : Int32) (x12 : Int32) (x13 : Int32) (x14 : Int32) : List Slot := [.val (.ref 60), .val (.ref 1000), .unset, .val (.ref sm), .val (.int x4), .val (.int x5), .val (.int x6), .val (.int x7), .val (.int x8), .val (.int x9), .val (.ref a10), .val (.int x11), .val (.int x12), .val (.int x13), .val (.int x14), .unset, .unset, .unset, .unset, .unset, .unset, .unset, .unset, .unset, .unset]
abbrev lo436  : List Slot := [.unset, .unset, .unset, .unset, .unset, .unset, .unset, .unset, .unset, .unset, .unset, .unset, .unset, .unset, .unset, .unset, .unset, .unset, .unset, .unset, .unset, .unset, .unset, .unset, .unset]
abbrev lo437 (sm : Nat) (x4 : Int32) (x5 : Int32) (x6 : Int32) (x7 : Int32) (x8 : Int32) (x9 : Int32) (a10 : Nat) (x11 : Int32) (x12 : Int32) : List Slot := [.val (.ref 60), .val (.ref 1000), .unset, .val (.ref sm), .val (.int x4), .val (.int x5), .val (.int x6), .val (.int x7), .val (.int x8), .val (.int x9), .val (.ref a10), .val (.int x11), .val (.int x12), .unset, .unset, .unset, .unset, .unset, .unset, .unset, .unset, .unset, .unset, .unset, .unset]
abbrev lo443 (sm : Nat) (x4 : Int32) (x5 : Int32) (x6 : Int32) (x7 : Int32) (x8 : Int32) (x9 : Int32) (a10 : Nat) (x11 : Int32) (x12 : Int32) (x15 : Int32) (x16 : Int32) (x17 : Int32) : List Slot := [.val (.ref 60), .val (.ref 1000), .unset, .val (.ref sm), .val (.int x4), .val (.int x5), .val (.int x6), .val (.int x7), .val (.int x8), .val (.int x9), .val (.ref a10), .val (.int x11), .val (.int x12), .unset, .unset, .val (.int x15), .val (.int x16), .val (.int x17), .unset, .unset, .unset, .unset, .unset, .unset, .unset]
abbrev lo464 (sm : Nat) (x4 : Int32) (x5 : Int32) (x6 : Int32) (x7 : Int32) (x8 : Int32) (x9 : Int32) (a10 : Nat) (x11 : Int32) (x12 : Int32) (x15 : Int32) (x16 : Int32) (x17 : Int32) (x18 : Int32) (x19 : Int32) : List Slot := [.val (.ref 60), .val (.ref 1000), .unset, .val (.ref sm), .val (.int x4), .val (.int x5), .val (.int x6), .val (.int x7), .val (.int x8), .val (.int x9), .val (.ref a10), .val (.int x11), .val (.int x12), .unset, .unset, .val (.int x15), .val (.int x16), .val (.int x17), .val (.int x18), .val (.int x19), .unset, .unset, .unset, .unset, .unset]
abbrev lo494 (sm : Nat) (x4 : Int32) (x5 : Int32) (x6 : Int32) (x7 : Int32) (x8 : Int32) (x9 : Int32) (a10 : Nat) (x11 : Int32) (x12 : Int32) (x16 : Int32) (x17 : Int32) (x18 : Int32) (x19 : Int32) : List Slot := [.val (.ref 60), .val (.ref 1000), .unset, .val (.ref sm), .val (.int x4), .val (.int x5), .val (.int x6), .val (.int x7), .val (.int x8), .val (.int x9), .val (.ref a10), .val (.int x11), .val (.int x12), .unset, .unset, .unset, .val (.int x16), .val (.int x17), .val (.int x18), .val (.int x19), .unset, .unset, .unset, .unset, .unset]
abbrev lo503 (sm : Nat) (x4 : Int32) (x5 : Int32) (x6 : Int32) (x7 : Int32) (x8 : Int32) (x9 : Int32) (a10 : Nat) (x11 : Int32) (x12 : Int32) (x15 : Int32) (x17 : Int32) : List Slot := [.val (.ref 60), .val (.ref 1000), .unset, .val (.ref sm), .val (.int x4), .val (.int x5), .val (.int x6), .val (.int x7), .val (.int x8), .val (.int x9), .val (.ref a10), .val (.int x11), .val (.int x12), .unset, .unset, .val (.int x15), .unset, .val (.int x17), .unset, .unset, .unset, .unset, .unset, .unset, .unset]
abbrev lo529 (sm : Nat) (x4 : Int32) (x5 : Int32) (x6 : Int32) (x7 : Int32) (x8 : Int32) (x9 : Int32) (a10 : Nat) (x11 : Int32) (x12 : Int32) (x17 : Int32) (x18 : Int32) : List Slot := [.val (.ref 60), .val (.ref 1000), .unset, .val (.ref sm), .val (.int x4), .val (.int x5), .val (.int x6), .val (.int x7), .val (.int x8), .val (.int x9), .val (.ref a10), .val (.int x11), .val (.int x12), .unset, .unset, .unset, .unset, .val (.int x17), .val (.int x18), .unset, .unset, .unset, .unset, .unset, .unset]
abbrev lo565 (sm : Nat) (x4 : Int32) (x5 : Int32) (x6 : Int32) (x7 : Int32) (x8 : Int32) (x9 : Int32) (x11 : Int32) (x12 : Int32) (x17 : Int32) : List Slot := [.val (.ref 60), .val (.ref 1000), .unset, .val (.ref sm), .val (.int x4), .val (.int x5), .val (.int x6), .val (.int x7), .val (.int x8), .val (.int x9), .unset, .val (.int x11), .val (.int x12), .unset, .unset, .unset, .unset, .val (.int x17), .unset, .unset, .unset, .unset, .unset, .unset, .unset]
abbrev lo588 (sm : Nat) (x4 : Int32) (x5 : Int32) (x6 : Int32) (x7 : Int32) (x8 : Int32) (x9 : Int32) (x11 : Int32) (x12 : Int32) (x17 : Int32) (x18 : Int32) : List Slot := [.val (.ref 60), .val (.ref 1000), .unset, .val (.ref sm), .val (.int x4), .val (.int x5), .val (.int x6), .val (.int x7), .val (.int x8), .val (.int x9), .unset, .val (.int x11), .val (.int x12), .unset, .unset, .unset, .unset, .val (.int x17), .val (.int x18), .unset, .unset, .unset, .unset, .unset, .unset]
abbrev lo626 (sm : Nat) (x4 : Int32) (x5 : Int32) (x7 : Int32) (x11 : Int32) (x19 : Int32) (x20 : Int32) : List Slot := [.val (.ref 60), .val (.ref 1000), .unset, .val (.ref sm), .val (.int x4), .val (.int x5), .unset, .val (.int x7), .unset, .unset, .unset, .val (.int x11), .unset, .unset, .unset, .unset, .unset, .unset, .unset, .val (.int x19), .val (.int x20), .unset, .unset, .unset, .unset]
abbrev lo637 (sm : Nat) (x4 : Int32) (x5 : Int32) (x11 : Int32) (x19 : Int32) : List Slot := [.val (.ref 60), .val (.ref 1000), .unset, .val (.ref sm), .val (.int x4), .val (.int x5), .unset, .unset, .unset, .unset, .unset, .val (.int x11), .unset, .unset, .unset, .unset, .unset, .unset, .unset, .val (.int x19), .unset, .unset, .unset, .unset, .unset]
abbrev lo642 (sm : Nat) (x4 : Int32) (x5 : Int32) (x19 : Int32) : List Slot := [.val (.ref 60), .val (.ref 1000), .unset, .val (.ref sm), .val (.int x4), .val (.int x5), .unset, .unset, .unset, .unset, .unset, .unset, .unset, .unset, .unset, .unset, .unset, .unset, .unset, .val (.int x19), .unset, .unset, .unset, .unset, .unset]
abbrev lo647 (sm : Nat) (x4 : Int32) (x5 : Int32) (x19 : Int32) (x21 : Int32) : List Slot := [.val (.ref 60), .val (.ref 1000), .unset, .val (.ref sm), .val (.int x4), .val (.int x5), .unset, .unset, .unset, .unset, .unset, .unset, .unset, .unset, .unset, .unset, .unset, .unset, .unset, .val (.int x19), .unset, .val (.int x21), .unset, .unset, .unset]
section LAW1
variable {d L nf n om nt ch dr sm p N x u m : Nat} {xs : Nat → Int32} {g h h1 : PH} {Ds : List CLD} {fv : Nat → Int32} {ord KL : List Nat} {TT : (Nat → Nat) × (Nat → Nat) × (Nat → Int32)} {Q : Option Value → PH → Prop} {x5 x6 : Int32}
theorem SIM.o6 {c : Nat} (S : SIM sm p n nf nt Ds N h) (hc : c < n) (h7 : n ≤ 7) : ((((p_kB (p_kd h (p_rm h sm 6)) = true ∨ p_kZ (p_kd h (p_rm h sm 6)) = true) ∧ ¬ p_rm h sm 6 = 0) ∧ p_in (Int32.ofNat c) (p_ln h (p_rm h sm 6))) ∧ p_im h (p_rm h sm 6) (Int32.ofNat c).toNatClampNeg = Int32.ofNat (cl_o (Ds.getD c D0))) := by
  have c31 : c < 2147483648 := by omega
  have n0 : ¬ p + 2 = 0 := by omega
  have hin : p_in (Int32.ofNat c) n := i_in hc (by omega)
  rw [S.2.2.1.1, S.2.2.2.1.1.1, S.2.2.2.1.1.2, i_nat c31]
  exact ⟨⟨⟨Or.inr rfl, n0⟩, hin⟩, (S.2.2.2.2 c hc).1.1⟩
theorem SIM.g7 {c : Nat} (S : SIM sm p n nf nt Ds N h) (hc : c < n) (h7 : n ≤ 7) : (((p_kI (p_kd h (p_rm h sm 7)) = true ∧ ¬ p_rm h sm 7 = 0) ∧ p_in (Int32.ofNat c) (p_ln h (p_rm h sm 7))) ∧ p_im h (p_rm h sm 7) (Int32.ofNat c).toNatClampNeg = Int32.ofNat (cl_g (Ds.getD c D0))) := by
  have c31 : c < 2147483648 := by omega
  have n0 : ¬ p + 3 = 0 := by omega
  have hin : p_in (Int32.ofNat c) n := i_in hc (by omega)
  rw [S.2.2.1.2.1, S.2.2.2.1.2.1.1, S.2.2.2.1.2.1.2, i_nat c31]
  exact ⟨⟨⟨by decide, n0⟩, hin⟩, (S.2.2.2.2 c hc).1.2.1⟩
theorem SIM.b8 {c : Nat} (S : SIM sm p n nf nt Ds N h) (hc : c < n) (h7 : n ≤ 7) : (((p_kI (p_kd h (p_rm h sm 8)) = true ∧ ¬ p_rm h sm 8 = 0) ∧ p_in (Int32.ofNat c) (p_ln h (p_rm h sm 8))) ∧ p_im h (p_rm h sm 8) (Int32.ofNat c).toNatClampNeg = Int32.ofNat (cl_b (Ds.getD c D0))) := by
  have c31 : c < 2147483648 := by omega
  have n0 : ¬ p + 4 = 0 := by omega
  have hin : p_in (Int32.ofNat c) n := i_in hc (by omega)
  rw [S.2.2.1.2.2.1, S.2.2.2.1.2.2.1.1, S.2.2.2.1.2.2.1.2, i_nat c31]
  exact ⟨⟨⟨by decide, n0⟩, hin⟩, (S.2.2.2.2 c hc).1.2.2⟩
theorem ROW.k {a : Nat} {l : List Nat} (R : ROW h a l N) : Nat.ble 100 (p_kd h a) = true ∧ ¬ a = 0 := by
  have := R.2.1
  rw [R.1]
  exact ⟨by decide, by omega⟩
theorem SIM.r9 {c : Nat} (S : SIM sm p n nf nt Ds N h) (hc : c < n) (h7 : n ≤ 7) : ((p_kR (p_kd h (p_rm h sm 9)) = true ∧ ¬ p_rm h sm 9 = 0) ∧ p_in (Int32.ofNat c) (p_ln h (p_rm h sm 9))) ∧ ∃ a, p_rm h (p_rm h sm 9) (Int32.ofNat c).toNatClampNeg = a ∧ ROW h a (cl_N (Ds.getD c D0)) N := by
  have c31 : c < 2147483648 := by omega
  have n0 : ¬ p + 5 = 0 := by omega
  have hin : p_in (Int32.ofNat c) n := i_in hc (by omega)
  rw [S.2.2.1.2.2.2.1, S.2.2.2.1.2.2.2.1.1, S.2.2.2.1.2.2.2.1.2, i_nat c31]
  exact ⟨⟨⟨by decide, n0⟩, hin⟩, _, rfl, (S.2.2.2.2 c hc).2.1⟩
theorem SIM.r10 {c : Nat} (S : SIM sm p n nf nt Ds N h) (hc : c < n) (h7 : n ≤ 7) : ((p_kR (p_kd h (p_rm h sm 10)) = true ∧ ¬ p_rm h sm 10 = 0) ∧ p_in (Int32.ofNat c) (p_ln h (p_rm h sm 10))) ∧ ∃ a, p_rm h (p_rm h sm 10) (Int32.ofNat c).toNatClampNeg = a ∧ ROW h a (cl_B (Ds.getD c D0)) N := by
  have c31 : c < 2147483648 := by omega
  have n0 : ¬ p + 6 = 0 := by omega
  have hin : p_in (Int32.ofNat c) n := i_in hc (by omega)
  rw [S.2.2.1.2.2.2.2.1, S.2.2.2.1.2.2.2.2.1.1, S.2.2.2.1.2.2.2.2.1.2, i_nat c31]
  exact ⟨⟨⟨by decide, n0⟩, hin⟩, _, rfl, (S.2.2.2.2 c hc).2.2.1⟩
theorem SIM.r11 {c : Nat} (S : SIM sm p n nf nt Ds N h) (hc : c < n) (h7 : n ≤ 7) : ((p_kR (p_kd h (p_rm h sm 11)) = true ∧ ¬ p_rm h sm 11 = 0) ∧ p_in (Int32.ofNat c) (p_ln h (p_rm h sm 11))) ∧ ∃ a, p_rm h (p_rm h sm 11) (Int32.ofNat c).toNatClampNeg = a ∧ ROW h a (cl_A (Ds.getD c D0)) N := by
  have c31 : c < 2147483648 := by omega
  have n0 : ¬ p + 7 = 0 := by omega
  have hin : p_in (Int32.ofNat c) n := i_in hc (by omega)
  rw [S.2.2.1.2.2.2.2.2, S.2.2.2.1.2.2.2.2.2.1, S.2.2.2.1.2.2.2.2.2.2, i_nat c31]
  exact ⟨⟨⟨by decide, n0⟩, hin⟩, _, rfl, (S.2.2.2.2 c hc).2.2.2⟩
theorem l647 {v : Int32} (W : LWK g nf n Ds om nt) (S : ST L xs g nf n Ds om nt fv ch dr sm p N x u h) (hv : v = -1 ∨ ∃ q, v = Int32.ofNat q ∧ q < 2 ^ n ∧ Sub q (fre om ch dr)) (KK : wp (d + 8) 189 30 (lo30 sm (Int32.ofNat n) (x5 + 1)) [] h Q) :
    ∀ (k i : Nat), i + k = n → wp (d + 8) 189 647 (lo647 sm (Int32.ofNat n) x5 v (Int32.ofNat i)) [] h Q := by
  have n7 := W.n7
  have n31 : n < 2147483648 := by omega
  intro k
  induction k with
  | zero =>
    intro i hi
    have e : i = n := by omega
    have nn : ¬ n < n := by omega
    rw [r189_647, e, if_neg (by rw [i_lt n31 n31]; exact nn), r189_673]
    exact KK
  | succ k ih =>
    intro i hi
    have hin : i < n := by omega
    have i31 : i < 2147483648 := by omega
    have i16 : i < 16 := by omega
    have K1 := ih (i + 1) (by omega)
    have go : wp (d + 8) 189 671 (lo647 sm (Int32.ofNat n) x5 v (Int32.ofNat i)) [] h Q := by rw [r189_671, i_inc]; exact K1
    rw [r189_647, if_pos (by rw [i_lt i31 n31]; exact hin)]
    by_cases z : 0 < v
    · rw [if_pos z]
      rcases hv with hv | ⟨q, e, q1, q2⟩
      · rw [hv] at z; exact absurd z (by decide)
      · have q7 := p128 n7 q1
        rw [e, hb_bi q q7 i i16]
        rw [e] at go
        cases hb : q.testBit i with
        | false => rw [if_neg (by decide)]; exact go
        | true =>
          have hf := q2 i hb
          have ol : om < 128 := p128 n7 W.1.1.2.2.2.2.1
          unfold fre at hf
          rw [an_bit (an_lt (k := 7) ol), an_bit ol, Bool.and_eq_true, Bool.and_eq_true] at hf
          obtain ⟨⟨f1, f2⟩, f3⟩ := hf
          have f2 : ch.testBit i = false := by simpa using f2
          have f3 : dr.testBit i = false := by simpa using f3
          have ho : cl_o (Ds.getD i D0) = 1 := by
            have hD := W.2.2.1.1
            have := W.2.2.2.2.2 i (by omega)
            rw [f1] at this
            exact of_decide_eq_true this.symm
          obtain ⟨o1, o2⟩ := S.2.1.o6 hin n7
          rw [if_pos (by decide), o2, ho, if_neg (by decide)]
          refine ⟨S.ks, o1, S.k1, lq0 (d := d) W S hin ?_⟩
          have ec : cho ch dr i = -1 := by unfold cho; rw [if_neg (by rw [f2]; decide), if_neg (by rw [f3]; decide)]
          rw [ec, r189_668, if_pos (by decide)]
          exact go
    · rw [if_neg z, r189_673]
      exact KK
theorem l626 {v : Int32} {e : Nat} (W : LWK g nf n Ds om nt) (C : CON g n Ds om nt fv ch dr m ord KL TT) (S : ST L xs g nf n Ds om nt fv ch dr sm p N x u h) (hv : v = -1 ∨ ∃ q, v = Int32.ofNat q ∧ q < 2 ^ n ∧ Sub q (fre om ch dr)) (he : Sub e m) (hz : e = 0 ↔ bnN (FBN m Ds) m n = 0) (KK : wp (d + 8) 189 30 (lo30 sm (Int32.ofNat n) (x5 + 1)) [] h Q) :
    wp (d + 8) 189 626 (lo626 sm (Int32.ofNat n) x5 (Int32.ofNat m) (Int32.ofNat (bnN (FBN m Ds) m n)) v (Int32.ofNat e)) [] h Q := by
  have n7 := W.n7
  have m7 := p128 n7 (C.lt W S.1.2.2.2.1.1)
  have e7 : e < 128 := by
    have := sub_and he
    have h2 := @Nat.and_le_right e m
    omega
  have b2 : bnN (FBN m Ds) m n ≤ 2 * n := bnN_le (fun i hi => FBN_le W hi)
  have b31 : bnN (FBN m Ds) m n < 2147483648 := by omega
  have e31 : e < 2147483648 := by omega
  have ee : (Int32.ofNat e = 0) = (e = 0) := i_eq e31 (by decide)
  have eb : (Int32.ofNat (bnN (FBN m Ds) m n) = 0) = (bnN (FBN m Ds) m n = 0) := i_eq b31 (by decide)
  have K1 := l647 (d := d) (Q := Q) W S hv KK n 0 (Nat.zero_add _)
  rw [r189_626, i_an e7, an_sub0 e7 he, if_pos (show Int32.ofNat 0 = 0 from rfl)]
  by_cases z : e = 0
  · rw [if_pos (by rw [ee]; exact z), r189_637, if_pos (by rw [eb]; exact hz.mp z), r189_642, if_pos rfl]
    exact K1
  · rw [if_neg (by rw [ee]; exact z), r189_637, if_neg (by rw [eb]; exact fun q => z (hz.mpr q)), r189_642, if_pos rfl]
    exact K1
theorem l609 {c : Nat} {x8 x9 x17 : Int32} (W : LWK g nf n Ds om nt) (C : CON g n Ds om nt fv ch dr m ord KL TT) (S : ST L xs g nf n Ds om nt fv ch dr sm p N x u h) (hc : c < n) (KK : ∀ h1, ST L xs g nf n Ds om nt fv ch dr sm p N x u h1 → wp (d + 8) 189 30 (lo30 sm (Int32.ofNat n) (x5 + 1)) [] h1 Q) :
    wp (d + 8) 189 609 (lo588 sm (Int32.ofNat n) x5 x6 (Int32.ofNat m) x8 x9 (Int32.ofNat (bnN (FBN m Ds) m n)) (Int32.ofNat (bnN (FNN m Ds) m n)) x17 (Int32.ofNat c)) [.int 0, .int 1, .int (Int32.ofNat c), .ref 1000] h Q := by
  have n7 := W.n7
  have b2 : bnN (FBN m Ds) m n ≤ 2 * n := bnN_le (fun i hi => FBN_le W hi)
  have b3 : bnN (FNN m Ds) m n ≤ 2 * n := bnN_le (fun i hi => FNN_le W hi)
  rw [r189_609]
  refine ⟨S.k1, lw1 (d := d) W S hc (fun h1 v S1 v1 v7 => ?_)⟩
  have v31 : v < 2147483648 := by omega
  have nv : ¬ v < 1 := by omega
  rw [if_neg (by rw [show (1 : Int32) = Int32.ofNat 1 from rfl, i_lt v31 (by decide)]; exact nv)]
  refine ⟨S1.k1, lad (d := d) W C S1 (fun w hw => ⟨S1.k1, lfe (d := d) W C S1 (fun e he hz => ?_)⟩)⟩
  have hw2 : w = -1 ∨ ∃ q, w = Int32.ofNat q ∧ q < 2 ^ n ∧ Sub q (fre om ch dr) := hw.elim (fun a => Or.inl a.1) Or.inr
  have fin := l626 (d := d) (Q := Q) (x5 := x5) W C S1 hw2 he hz (KK h1 S1)
  by_cases z : w < 0
  · rw [if_pos z]
    rcases hw with ⟨w1, w2⟩ | ⟨q, e1, q1, q2⟩
    · have ne : ¬ bnN (FBN m Ds) m n + bnN (FNN m Ds) m n = 0 := fun y => by
        have := CON.peace (m := m) W (by omega) (by omega)
        rw [this] at w2
        exact absurd w2 (by decide)
      have s31 : bnN (FBN m Ds) m n + bnN (FNN m Ds) m n < 2147483648 := by omega
      have es : (Int32.ofNat (bnN (FBN m Ds) m n + bnN (FNN m Ds) m n) = 0) = (bnN (FBN m Ds) m n + bnN (FNN m Ds) m n = 0) := i_eq s31 (by decide)
      rw [i_add, if_neg (by rw [es]; exact ne)]
      exact fin
    · have q7 := p128 n7 q1
      rw [e1] at z
      exact absurd z (i_neg (by omega))
  · rw [if_neg z]
    exact fin
theorem l588 {c : Nat} (W : LWK g nf n Ds om nt) (C : CON g n Ds om nt fv ch dr m ord KL TT) (S : ST L xs g nf n Ds om nt fv ch dr sm p N x u h) (hc : c < n) (KK : ∀ h1, ST L xs g nf n Ds om nt fv ch dr sm p N x u h1 → wp (d + 8) 189 30 (lo30 sm (Int32.ofNat n) (x5 + 1)) [] h1 Q) :
    wp (d + 8) 189 588 (lo588 sm (Int32.ofNat n) x5 x6 (Int32.ofNat m) (Int32.ofNat ord.length) (bsum (WFN Ds) m n) (Int32.ofNat (bnN (FBN m Ds) m n)) (Int32.ofNat (bnN (FNN m Ds) m n)) (Int32.ofNat (min KL.length 60)) (Int32.ofNat c)) [.ref 1000, .int (Int32.ofNat c), .ref 1000] h Q := by
  rw [r189_588]
  refine ⟨S.k1, lq0 (d := d) W S hc ⟨S.k1, lwd (d := d) W C S hc (Or.inr (Or.inl rfl)) (fun h1 S1 => ?_)⟩⟩
  rw [if_neg (show ¬ (1 : Int32) = 0 by decide), if_pos (show (1 : Int32) = 1 from rfl), if_pos rfl]
  refine ⟨S1.k1, lq0 (d := d) W S1 hc ⟨S1.k1, lwd (d := d) W C S1 hc (Or.inr (Or.inr rfl)) (fun h2 S2 => ?_)⟩⟩
  rw [if_neg (show ¬ (2 : Int32) = 0 by decide), if_neg (show ¬ (2 : Int32) = 1 by decide), if_pos rfl]
  exact l609 (d := d) W C S2 hc KK
theorem l565 {y : UInt64} (W : LWK g nf n Ds om nt) (C : CON g n Ds om nt fv ch dr m ord KL TT) (S : ST L xs g nf n Ds om nt fv ch dr sm p N x u h) (hy : Op.cmpValue (FP.dcmp y y) .l = 0) (KK : ∀ h1, ST L xs g nf n Ds om nt fv ch dr sm p N x u h1 → wp (d + 8) 189 30 (lo30 sm (Int32.ofNat n) (x5 + 1)) [] h1 Q) :
    wp (d + 8) 189 565 (lo565 sm (Int32.ofNat n) x5 x6 (Int32.ofNat m) (Int32.ofNat ord.length) (bsum (WFN Ds) m n) (Int32.ofNat (bnN (FBN m Ds) m n)) (Int32.ofNat (bnN (FNN m Ds) m n)) (Int32.ofNat (min KL.length 60))) [.double y, .double y] h Q := by
  have n7 := W.n7
  have n0 := W.1.1.2.1
  rw [r189_565, if_pos hy]
  refine s15 (d := d + 7) n0 (by omega) (fun c hc => ⟨S.k1, lq0 (d := d) W S hc ⟨S.k1, lwd (d := d) W C S hc (Or.inl rfl) (fun h1 S1 => ?_)⟩⟩)
  rw [if_pos rfl, if_pos rfl]
  exact l588 (d := d) W C S1 hc KK
end LAW1
