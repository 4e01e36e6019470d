/-! A new desk: the shape of all that it is made of. -/
def Obs (h : PH) (l : List (Nat × Nat × Nat)) : Prop := ∀ x ∈ l, p_kd h x.1 = x.2.1 ∧ p_ln h x.1 = x.2.2 ∧ x.1 < p_nx h
def Fds (h : PH) (l : List (Nat × Nat × Nat)) : Prop := ∀ x ∈ l, p_rm h x.1 x.2.1 = x.2.2
/-- from h0 on, while the object a0 is made (all that is made begins at b): n objects, u elements, what they are, what they refer to, what a0 refers to -/
def AC (a0 b : Nat) (h0 h : PH) (n u : Nat) (ob fd : List (Nat × Nat × Nat)) (own : List (Nat × Nat)) : Prop :=
  p_nx h0 = b ∧ a0 < b ∧ p_nx h = b + n ∧ p_us h ≤ p_us h0 + u ∧ Ext h0 h (fun a => a = a0) ∧ Obs h ob ∧ Fds h fd ∧ (∀ x ∈ fd, b ≤ x.1 ∧ x.1 < b + n) ∧ ∀ x ∈ own, p_rm h a0 x.1 = x.2
section ACS
variable {a0 b n u : Nat} {h0 h : PH} {ob fd : List (Nat × Nat × Nat)} {own : List (Nat × Nat)}
theorem AC.nil (hx : p_nx h = b) (ha : a0 < b) : AC a0 b h h 0 0 [] [] [] := ⟨hx, ha, hx, Nat.le_refl _, Ext.rf, fun x hx => absurd hx List.not_mem_nil, fun x hx => absurd hx List.not_mem_nil, fun x hx => absurd hx List.not_mem_nil, fun x hx => absurd hx List.not_mem_nil⟩
theorem AC.k (A : AC a0 b h0 h n u ob fd own) : p_kd h a0 = p_kd h0 a0 := A.2.2.2.2.1.kd (by rw [A.1]; exact A.2.1)
theorem AC.kn (A : AC a0 b h0 h n u ob fd own) (k m v : Nat) : p_kd (p_new h k m v) a0 = p_kd h0 a0 := by
  have := A.2.1
  rw [pn_kd, if_neg (by rw [A.2.2.1]; omega), A.k]
theorem AC.int (A : AC a0 b h0 h n u ob fd own) (j : Nat) (v : Int32) : AC a0 b h0 (p_wi h a0 j v) n u ob fd own := by
  obtain ⟨a1, a2, a3, a4, a5, a6, a7, a8, a9⟩ := A
  exact ⟨a1, a2, a3, a4, a5.tr (Ext.wi (W := fun a => a = a0) v (fun _ => rfl)) (fun _ _ q => q), a6, a7, a8, a9⟩
theorem AC.set (A : AC a0 b h0 h n u ob fd own) (j v : Nat) (hj : ∀ x ∈ own, x.1 ≠ j) : AC a0 b h0 (p_wr h a0 j v) n u ob fd (own ++ [(j, v)]) := by
  obtain ⟨a1, a2, a3, a4, a5, a6, a7, a8, a9⟩ := A
  refine ⟨a1, a2, a3, a4, a5.tr (Ext.wr (W := fun a => a = a0) v (fun _ => rfl)) (fun _ _ q => q), a6, fun x hx => ?_, a8, fun x hx => ?_⟩
  · rw [wr_rm, if_neg (fun q => by have := (a8 x hx).1; omega)]; exact a7 x hx
  · rcases List.mem_append.mp hx with q | q
    · rw [wr_rm, if_neg (fun z => hj x q z.2)]; exact a9 x q
    · rw [List.mem_singleton.mp q, wr_rm, if_pos ⟨rfl, rfl⟩]
theorem AC.new (A : AC a0 b h0 h n u ob fd own) (k m v : Nat) : AC a0 b h0 (p_new h k m v) (n + 1) (u + v) (ob ++ [(b + n, k, m)]) fd own := by
  obtain ⟨a1, a2, a3, a4, a5, a6, a7, a8, a9⟩ := A
  refine ⟨a1, a2, by rw [pn_nx]; omega, by rw [pn_us]; omega, a5.tr (Ext.pn (W := fun a => a = a0) k m v) (fun _ _ q => q), fun x hx => ?_, fun x hx => ?_, fun x hx => ?_, fun x hx => ?_⟩
  · rcases List.mem_append.mp hx with q | q
    · have := a6 x q
      rw [pn_kd, pn_ln, pn_nx, if_neg (by omega), if_neg (by omega)]
      exact ⟨this.1, this.2.1, by omega⟩
    · rw [List.mem_singleton.mp q, pn_kd, pn_ln, pn_nx, if_pos a3.symm, if_pos a3.symm]
      exact ⟨rfl, rfl, by omega⟩
  · have := a8 x hx
    rw [pn_rm, if_neg (by omega)]; exact a7 x hx
  · have := a8 x hx; omega
  · rw [pn_rm, if_neg (by omega)]; exact a9 x hx
theorem AC.row (A : AC a0 b h0 h n u ob fd own) (k m j : Nat) (hj : ∀ x ∈ own, x.1 ≠ j) : AC a0 b h0 (p_wr (p_new h k m m) a0 j (p_nx h)) (n + 1) (u + m) (ob ++ [(b + n, k, m)]) fd (own ++ [(j, b + n)]) := by
  have := (A.new k m m).set j (p_nx h) hj
  rw [A.2.2.1] at this ⊢
  exact this
theorem AC.put {x j v : Nat} (A : AC a0 b h0 h n u ob fd own) (h1 : b ≤ x) (h2 : x < b + n) (h3 : ∀ y ∈ fd, ¬ (y.1 = x ∧ y.2.1 = j)) : AC a0 b h0 (p_wr h x j v) n u ob (fd ++ [(x, j, v)]) own := by
  obtain ⟨a1, a2, a3, a4, a5, a6, a7, a8, a9⟩ := A
  refine ⟨a1, a2, a3, a4, a5.tr (Ext.wr (W := fun a => a = x) v (fun _ => rfl)) (fun a ha q => by omega), a6, fun y hy => ?_, fun y hy => ?_, fun y hy => ?_⟩
  · rcases List.mem_append.mp hy with q | q
    · rw [wr_rm, if_neg (h3 y q)]; exact a7 y q
    · rw [List.mem_singleton.mp q, wr_rm, if_pos ⟨rfl, rfl⟩]
  · rcases List.mem_append.mp hy with q | q
    · exact a8 y q
    · rw [List.mem_singleton.mp q]; exact ⟨h1, h2⟩
  · rw [wr_rm, if_neg (by omega)]; exact a9 y hy
/-- what is made within: a new object x, and what it makes -/
theorem AC.sub {h2 : PH} {k s n1 u1 : Nat} {ob1 fd1 : List (Nat × Nat × Nat)} {own1 : List (Nat × Nat)} (A : AC a0 b h0 h n u ob fd own) (B : AC (p_nx h) (p_nx h + 1) (p_new h k 0 s) h2 n1 u1 ob1 fd1 own1) :
    AC a0 b h0 h2 (n + 1 + n1) (u + s + u1) (ob ++ [(b + n, k, 0)] ++ ob1) (fd ++ (own1.map (fun x => (b + n, x.1, x.2)) ++ fd1)) own := by
  obtain ⟨c1, c2, c3, c4, c5, c6, c7, c8, c9⟩ := A.new k 0 s
  have a3 := A.2.2.1
  have a8 := A.2.2.2.2.2.2.2.1
  obtain ⟨b1, b2, b3, b4, b5, b6, b7, b8, b9⟩ := B
  rw [a3] at b1 b2 b3 b5 b8 b9
  refine ⟨c1, c2, by omega, by omega, c5.tr b5 (fun a ha q => by omega), fun x hx => ?_, fun x hx => ?_, fun x hx => ?_, fun x hx => ?_⟩
  · rcases List.mem_append.mp hx with q | q
    · have := c6 x q
      rw [b5.kd (by omega), b5.ln (by omega)]
      exact ⟨this.1, this.2.1, by omega⟩
    · exact b6 x q
  · rcases List.mem_append.mp hx with q | q
    · have := a8 x q
      rw [b5.rm (by omega) (by omega)]
      exact c7 x q
    · rcases List.mem_append.mp q with q | q
      · obtain ⟨y, hy, rfl⟩ := List.mem_map.mp q
        exact b9 y hy
      · exact b7 x q
  · rcases List.mem_append.mp hx with q | q
    · have := a8 x q; omega
    · rcases List.mem_append.mp q with q | q
      · obtain ⟨y, hy, rfl⟩ := List.mem_map.mp q
        show b ≤ b + n ∧ b + n < _
        omega
      · have := b8 x q; omega
  · rw [b5.rm (by omega) (by omega)]
    exact c9 x hx
theorem AC.obj {h2 : PH} {k s n1 u1 j : Nat} {ob1 fd1 : List (Nat × Nat × Nat)} {own1 : List (Nat × Nat)} (A : AC a0 b h0 h n u ob fd own) (B : AC (p_nx h) (p_nx h + 1) (p_new h k 0 s) h2 n1 u1 ob1 fd1 own1) (hj : ∀ x ∈ own, x.1 ≠ j) :
    AC a0 b h0 (p_wr h2 a0 j (p_nx h)) (n + 1 + n1) (u + s + u1) (ob ++ [(b + n, k, 0)] ++ ob1) (fd ++ (own1.map (fun x => (b + n, x.1, x.2)) ++ fd1)) (own ++ [(j, b + n)]) := by
  have := (A.sub B).set j (p_nx h) hj
  rw [A.2.2.1] at this ⊢
  exact this
theorem AC.room (A : AC a0 b h0 h n u ob fd own) {m : Nat} (hb : b + n ≤ 2000) (hu : p_us h0 ≤ 100000) (h2 : u + m ≤ 100000) : p_nx h + 1 ≤ p_CN ∧ p_us h + m ≤ p_CS := by
  have e1 : p_CN = 601086 := rfl
  have e2 : p_CS = 7301442 := rfl
  have := A.2.2.1
  have := A.2.2.2.1
  omega
end ACS
theorem AC.ow {a0 b n u j v : Nat} {h0 h : PH} {ob fd : List (Nat × Nat × Nat)} {own : List (Nat × Nat)} (A : AC a0 b h0 h n u ob fd own) (hx : (j, v) ∈ own) : p_rm h a0 j = v := A.2.2.2.2.2.2.2.2 (j, v) hx
theorem AC.fdm {a0 b n u x j v : Nat} {h0 h : PH} {ob fd : List (Nat × Nat × Nat)} {own : List (Nat × Nat)} (A : AC a0 b h0 h n u ob fd own) (hx : (x, j, v) ∈ fd) : p_rm h x j = v := A.2.2.2.2.2.2.1 (x, j, v) hx
theorem AC.obm {a0 b n u x k m : Nat} {h0 h : PH} {ob fd : List (Nat × Nat × Nat)} {own : List (Nat × Nat)} (A : AC a0 b h0 h n u ob fd own) (hx : (x, k, m) ∈ ob) : p_kd h x = k ∧ p_ln h x = m := ⟨(A.2.2.2.2.2.1 (x, k, m) hx).1, (A.2.2.2.2.2.1 (x, k, m) hx).2.1⟩
theorem AC.g1 {a0 b n u k0 : Nat} {h0 h : PH} {ob fd : List (Nat × Nat × Nat)} {own : List (Nat × Nat)} (A : AC a0 b h0 h n u ob fd own) (hk : p_kd h0 a0 = k0) (h1000 : 1000 ≤ a0) (k m v : Nat) : p_kd (p_new h k m v) a0 = k0 ∧ 1000 ≤ a0 := ⟨(A.kn k m v).trans hk, h1000⟩
theorem AC.g2 {a0 b n u k0 : Nat} {h0 h : PH} {ob fd : List (Nat × Nat × Nat)} {own : List (Nat × Nat)} (A : AC a0 b h0 h n u ob fd own) (hk : p_kd h0 a0 = k0) (h1000 : 1000 ≤ a0) : p_kd h a0 = k0 ∧ 1000 ≤ a0 := ⟨A.k.trans hk, h1000⟩
theorem AC.g3 {a0 b n u k0 : Nat} {h0 h : PH} {ob fd : List (Nat × Nat × Nat)} {own : List (Nat × Nat)} (A : AC a0 b h0 h n u ob fd own) (hk : p_kd h0 a0 = k0) (h1000 : 1000 ≤ a0) : p_kd h a0 = k0 ∧ ¬ a0 = 0 := ⟨A.k.trans hk, by omega⟩
def obTok (b : Nat) : List (Nat × Nat × Nat) := [(b, 120, 3000), (b + 1, 310, 601), (b + 2, 100, 601), (b + 3, 100, 601), (b + 4, 100, 601)]
def owTok (b : Nat) : List (Nat × Nat) := [(0, b), (2, b + 1), (3, b + 2), (4, b + 3), (5, b + 4)]
section MK
variable {d a0 b : Nat} {h : PH} {Q : PH → Prop}
theorem s0 (hk : p_kd h a0 = 4) (h1000 : 1000 ≤ a0) (hx : p_nx h = b) (ha : a0 < b) (hb : b ≤ 1900) (hu : p_us h ≤ 90000) (K : ∀ h1, AC a0 b h h1 5 5404 (obTok b) [] (owTok b) → Q h1) : CV (d + 1) 0 [.ref a0] h Q := by
  have A0 : AC a0 b h h 0 0 [] [] [] := AC.nil hx ha
  have A1 := A0.row 120 3000 0 (by simp)
  have A2 := A1.int 1 0
  have A3 := A2.row 310 601 2 (by simp)
  have A4 := A3.row 100 601 3 (by simp)
  have A5 := A4.row 100 601 4 (by simp)
  have A6 := A5.row 100 601 5 (by simp)
  have A7 := A6.int 6 0
  rw [e0]
  refine ⟨h1000, ⟨by decide, A0.room (by omega) (by omega) (by omega)⟩, A0.g1 hk h1000 _ _ _, A1.g2 hk h1000, ⟨by decide, A2.room (by omega) (by omega) (by omega)⟩, A2.g1 hk h1000 _ _ _, ?_⟩
  rw [r0_13]
  refine ⟨⟨by decide, A3.room (by omega) (by omega) (by omega)⟩, A3.g1 hk h1000 _ _ _, ⟨by decide, A4.room (by omega) (by omega) (by omega)⟩, A4.g1 hk h1000 _ _ _, ⟨by decide, A5.room (by omega) (by omega) (by omega)⟩, A5.g1 hk h1000 _ _ _, ?_⟩
  rw [r0_25]
  exact ⟨A6.g2 hk h1000, K _ A7⟩
def obCode (b : Nat) : List (Nat × Nat × Nat) := [(b, 310, 600), (b + 1, 100, 600)]
def owCode (b : Nat) : List (Nat × Nat) := [(0, b), (1, b + 1)]
theorem s1 (hk : p_kd h a0 = 5) (h1000 : 1000 ≤ a0) (hx : p_nx h = b) (ha : a0 < b) (hb : b ≤ 1900) (hu : p_us h ≤ 90000) (K : ∀ h1, AC a0 b h h1 2 1200 (obCode b) [] (owCode b) → Q h1) : CV (d + 1) 1 [.ref a0] h Q := by
  have A0 : AC a0 b h h 0 0 [] [] [] := AC.nil hx ha
  have A1 := A0.row 310 600 0 (by simp)
  have A2 := A1.row 100 600 1 (by simp)
  have A3 := A2.int 2 0
  rw [e1]
  exact ⟨h1000, ⟨by decide, A0.room (by omega) (by omega) (by omega)⟩, A0.g1 hk h1000 _ _ _, ⟨by decide, A1.room (by omega) (by omega) (by omega)⟩, A1.g1 hk h1000 _ _ _, A2.g2 hk h1000, K _ A3⟩
theorem s2 (hk : p_kd h a0 = 6) (h1000 : 1000 ≤ a0) (hx : p_nx h = b) (ha : a0 < b) (K : ∀ h1, AC a0 b h h1 0 0 [] [] [] → Q h1) : CV (d + 1) 2 [.ref a0] h Q := by
  have A0 : AC a0 b h h 0 0 [] [] [] := AC.nil hx ha
  have A1 := A0.int 0 0
  have A2 := A1.int 1 0
  have A3 := A2.int 2 0
  have A4 := A3.int 3 0
  have A5 := A4.int 4 0
  have A6 := A5.int 5 0
  have A7 := A6.int 6 0
  have A8 := A7.int 7 0
  have A9 := A8.int 8 0
  have A10 := A9.int 9 0
  have A11 := A10.int 10 0
  rw [e2]
  refine ⟨h1000, ⟨A0.g2 hk h1000, Or.inl rfl⟩, A1.g2 hk h1000, A2.g2 hk h1000, A3.g2 hk h1000, A4.g2 hk h1000, A5.g2 hk h1000, A6.g2 hk h1000, ?_⟩
  rw [r2_23]
  exact ⟨A7.g2 hk h1000, A8.g2 hk h1000, A9.g2 hk h1000, A10.g2 hk h1000, K _ A11⟩
def obCl (x k : Nat) : List (Nat × Nat × Nat) := (List.range k).map (fun i => (x + i, 6, 0))
def fdCl (y x k : Nat) : List (Nat × Nat × Nat) := (List.range k).map (fun i => (y, i, x + i))
/-- the clauses of a grammar -/
theorem l3 {arr n u : Nat} {h0 : PH} {ob fd : List (Nat × Nat × Nat)} {own : List (Nat × Nat)} {Q : Option Value → PH → Prop} (hk : p_kd h0 a0 = 3) (h1000 : 1000 ≤ a0) (hb : b + n ≤ 1900) (hu : p_us h0 ≤ 90000) (hu2 : u ≤ 9000) (h2 : (2, arr) ∈ own) (h3 : (arr, 312, 16) ∈ ob) (h4 : b ≤ arr) (h5 : arr < b + n) (h6 : ∀ y ∈ fd, y.1 ≠ arr) :
    ∀ (r i : Nat) (h : PH), i + r = 16 → AC a0 b h0 h (n + i) (u + 11 * i) (ob ++ obCl (b + n) i) (fd ++ fdCl arr (b + n) i) own → (∀ h1, AC a0 b h0 h1 (n + 16) (u + 11 * 16) (ob ++ obCl (b + n) 16) (fd ++ fdCl arr (b + n) 16) own → Q none h1) →
    wp (d + 1) 3 29 [.val (.ref a0), .val (.int (Int32.ofNat i))] [] h Q := by
  intro r
  induction r with
  | zero =>
    intro i h e A K
    obtain rfl : i = 16 := by omega
    rw [r3_29, if_neg (by decide)]
    exact K h A
  | succ r ih =>
    intro i h e A K
    have ab := A.2.1
    have ax := A.2.2.1
    have au := A.2.2.2.1
    rw [r3_29, if_pos (by rw [show (16 : Int32) = Int32.ofNat 16 from rfl, i_lt (by omega) (by omega)]; omega), A.ow h2, i_nat (by omega)]
    refine ⟨A.g3 hk h1000, A.room (by omega) (by omega) (by omega), by omega, s2 (b := p_nx h + 1) (by rw [pn_kd, if_pos rfl]) (by omega) rfl (by omega) (fun h1 B => ?_)⟩
    have C := A.sub B
    have o1 := C.obm (x := arr) (k := 312) (m := 16) (List.mem_append_left _ (List.mem_append_left _ (List.mem_append_left _ h3)))
    have o2 := C.obm (x := p_nx h) (k := 6) (m := 0) (List.mem_append_left _ (List.mem_append_right _ (by rw [ax]; exact List.mem_singleton.mpr rfl)))
    rw [o1.1, o1.2, o2.1]
    refine ⟨⟨⟨⟨by decide, by omega⟩, rfl, by omega⟩, i_in (by omega) (by omega)⟩, ?_⟩
    have D := C.put (x := arr) (j := i) (v := p_nx h) h4 (by omega) (fun y hy => ?_)
    · rw [i_ofNat1, i_add]
      refine ih (i + 1) _ (by omega) ?_ K
      rw [ax] at D ⊢
      have e1 : obCl (b + n) (i + 1) = obCl (b + n) i ++ [(b + (n + i), 6, 0)] := by
        unfold obCl
        rw [List.range_succ, List.map_append, ← Nat.add_assoc]
        rfl
      have e2 : fdCl arr (b + n) (i + 1) = fdCl arr (b + n) i ++ [(arr, i, b + (n + i))] := by
        unfold fdCl
        rw [List.range_succ, List.map_append, ← Nat.add_assoc]
        rfl
      rw [e1, e2, show u + 11 * (i + 1) = u + 11 * i + 11 + 0 from by omega]
      simp only [List.append_assoc, List.append_nil, List.map_nil, List.nil_append] at D ⊢
      exact D
    · simp only [List.map_nil, List.append_nil] at hy
      rcases List.mem_append.mp hy with q | q
      · exact fun z => h6 y q z.1
      · obtain ⟨j, hj, rfl⟩ := List.mem_map.mp q
        have := List.mem_range.mp hj
        exact fun z => by have z2 : j = i := z.2; omega
def obGr (b : Nat) : List (Nat × Nat × Nat) := ([] ++ [(b + 0, 4, 0)] ++ obTok (b + 1) ++ [(b + (0 + 1 + 5), 5, 0)] ++ obCode (b + 7) ++ [(b + 9, 312, 16)] ++ [(b + 10, 6, 0)] ++ []) ++ obCl (b + 11) 16
def fdGr (b : Nat) : List (Nat × Nat × Nat) := ([] ++ ((owTok (b + 1)).map (fun x => (b + 0, x.1, x.2)) ++ []) ++ ((owCode (b + 7)).map (fun x => (b + 6, x.1, x.2)) ++ []) ++ (([] : List (Nat × Nat)).map (fun x => (b + 10, x.1, x.2)) ++ [])) ++ fdCl (b + 9) (b + 11) 16
def owGr (b : Nat) : List (Nat × Nat) := [(0, b), (1, b + 6), (2, b + 9), (3, b + 10)]
theorem s3 (hk : p_kd h a0 = 3) (h1000 : 1000 ≤ a0) (hx : p_nx h = b) (ha : a0 < b) (hb : b ≤ 1800) (hu : p_us h ≤ 80000) (K : ∀ h1, AC a0 b h h1 27 6817 (obGr b) (fdGr b) (owGr b) → Q h1) : CV (d + 3) 3 [.ref a0] h Q := by
  have A0 : AC a0 b h h 0 0 [] [] [] := AC.nil hx ha
  rw [e3]
  refine ⟨h1000, A0.room (by omega) (by omega) (by omega), by omega, s0 (b := b + 1) (by rw [pn_kd, if_pos rfl]) (by omega) (by rw [pn_nx]; omega) (by omega) (by omega) (by rw [pn_us]; omega) (fun h1 B => ?_)⟩
  rw [← hx] at B
  have A1 := A0.obj B (j := 0) (by simp)
  rw [hx] at A1
  have k1 : p_kd h1 a0 = 3 := (A0.sub B).k.trans hk
  have x1 := A1.2.2.1
  have u1 := A1.2.2.2.1
  refine ⟨⟨k1, h1000⟩, ?_⟩
  rw [hx]
  generalize p_wr h1 a0 0 b = h2 at *
  refine ⟨A1.room (by omega) (by omega) (by omega), by omega, s1 (b := p_nx h2 + 1) (by rw [pn_kd, if_pos rfl]) (by omega) rfl (by omega) (by omega) (by rw [pn_us]; omega) (fun h3 B => ?_)⟩
  have A2 := A1.obj B (j := 1) (by simp)
  have k2 : p_kd h3 a0 = 3 := (A1.sub B).k.trans hk
  refine ⟨⟨k2, h1000⟩, ?_⟩
  rw [x1] at A2 ⊢
  generalize p_wr h3 a0 1 (b + (0 + 1 + 5)) = h4 at *
  have A3 := A2.row 312 16 2 (by simp)
  refine ⟨⟨by decide, A2.room (by omega) (by omega) (by omega)⟩, A2.g1 hk h1000 _ _ _, ?_⟩
  generalize p_wr (p_new h4 312 16 16) a0 2 (p_nx h4) = h5 at *
  have x3 := A3.2.2.1
  have u3 := A3.2.2.2.1
  refine ⟨A3.room (by omega) (by omega) (by omega), by omega, s2 (b := p_nx h5 + 1) (by rw [pn_kd, if_pos rfl]) (by omega) rfl (by omega) (fun h6 B => ?_)⟩
  have A4 := A3.obj B (j := 3) (by simp)
  refine ⟨⟨(A3.sub B).k.trans hk, h1000⟩, ?_⟩
  refine ⟨A4.g2 hk h1000, ?_⟩
  have A5 := A4.int 4 0
  rw [r3_24]
  refine ⟨A5.g2 hk h1000, ?_⟩
  have A6 := A5.int 5 0
  refine l3 (d := d + 1) (arr := b + 9) (n := 11) (u := 6641) hk h1000 (by omega) (by omega) (by omega) ?_ ?_ (by omega) (by omega) ?_ 16 0 _ rfl A6 (fun h7 A7 => K h7 A7)
  · simp
  · simp [obTok, obCode]
  · intro y hy
    simp [owTok, owCode] at hy
    rcases hy with rfl | rfl | rfl | rfl | rfl | rfl | rfl <;> simp
end MK
