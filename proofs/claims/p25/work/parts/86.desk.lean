/-! A new desk: the shape of all that it is made of. -/
def Obs (h : PH) (l : List (Nat × Nat × Nat)) : Prop := ∀ x ∈ l, p_kd h x.1 = x.2.1 ∧ p_ln h x.1 = x.2.2 ∧ x.1 < p_nx h
def Fds (h : PH) (l : List (Nat × Nat × Nat)) : Prop := ∀ x ∈ l, p_rm h x.1 x.2.1 = x.2.2
/-- from h0 on, while the object a0 is made (all that is made begins at b): n objects, u elements, what they are, what they refer to, what a0 refers to -/
def AC (a0 b : Nat) (h0 h : PH) (n u : Nat) (ob fd : List (Nat × Nat × Nat)) (own : List (Nat × Nat)) : Prop :=
  p_nx h0 = b ∧ a0 < b ∧ p_nx h = b + n ∧ p_us h ≤ p_us h0 + u ∧ Ext h0 h (fun a => a = a0) ∧ Obs h ob ∧ Fds h fd ∧ (∀ x ∈ fd, b ≤ x.1 ∧ x.1 < b + n) ∧ ∀ x ∈ own, p_rm h a0 x.1 = x.2
section ACS
variable {a0 b n u : Nat} {h0 h : PH} {ob fd : List (Nat × Nat × Nat)} {own : List (Nat × Nat)}
theorem AC.nil (hx : p_nx h = b) (ha : a0 < b) : AC a0 b h h 0 0 [] [] [] := ⟨hx, ha, hx, Nat.le_refl _, Ext.rf, fun x hx => absurd hx List.not_mem_nil, fun x hx => absurd hx List.not_mem_nil, fun x hx => absurd hx List.not_mem_nil, fun x hx => absurd hx List.not_mem_nil⟩
theorem AC.k (A : AC a0 b h0 h n u ob fd own) : p_kd h a0 = p_kd h0 a0 := A.2.2.2.2.1.kd (by rw [A.1]; exact A.2.1)
theorem AC.kn (A : AC a0 b h0 h n u ob fd own) (k m v : Nat) : p_kd (p_new h k m v) a0 = p_kd h0 a0 := by
  have := A.2.1
  rw [pn_kd, if_neg (by rw [A.2.2.1]; omega), A.k]
theorem AC.int (A : AC a0 b h0 h n u ob fd own) (j : Nat) (v : Int32) : AC a0 b h0 (p_wi h a0 j v) n u ob fd own := by
  obtain ⟨a1, a2, a3, a4, a5, a6, a7, a8, a9⟩ := A
  exact ⟨a1, a2, a3, a4, a5.tr (Ext.wi (W := fun a => a = a0) v (fun _ => rfl)) (fun _ _ q => q), a6, a7, a8, a9⟩
theorem AC.set (A : AC a0 b h0 h n u ob fd own) (j v : Nat) (hj : ∀ x ∈ own, x.1 ≠ j) : AC a0 b h0 (p_wr h a0 j v) n u ob fd (own ++ [(j, v)]) := by
  obtain ⟨a1, a2, a3, a4, a5, a6, a7, a8, a9⟩ := A
  refine ⟨a1, a2, a3, a4, a5.tr (Ext.wr (W := fun a => a = a0) v (fun _ => rfl)) (fun _ _ q => q), a6, fun x hx => ?_, a8, fun x hx => ?_⟩
  · rw [wr_rm, if_neg (fun q => by have := (a8 x hx).1; omega)]; exact a7 x hx
  · rcases List.mem_append.mp hx with q | q
    · rw [wr_rm, if_neg (fun z => hj x q z.2)]; exact a9 x q
    · rw [List.mem_singleton.mp q, wr_rm, if_pos ⟨rfl, rfl⟩]
theorem AC.new (A : AC a0 b h0 h n u ob fd own) (k m v : Nat) : AC a0 b h0 (p_new h k m v) (n + 1) (u + v) (ob ++ [(b + n, k, m)]) fd own := by
  obtain ⟨a1, a2, a3, a4, a5, a6, a7, a8, a9⟩ := A
  refine ⟨a1, a2, by rw [pn_nx]; omega, by rw [pn_us]; omega, a5.tr (Ext.pn (W := fun a => a = a0) k m v) (fun _ _ q => q), fun x hx => ?_, fun x hx => ?_, fun x hx => ?_, fun x hx => ?_⟩
  · rcases List.mem_append.mp hx with q | q
    · have := a6 x q
      rw [pn_kd, pn_ln, pn_nx, if_neg (by omega), if_neg (by omega)]
      exact ⟨this.1, this.2.1, by omega⟩
    · rw [List.mem_singleton.mp q, pn_kd, pn_ln, pn_nx, if_pos a3.symm, if_pos a3.symm]
      exact ⟨rfl, rfl, by omega⟩
  · have := a8 x hx
    rw [pn_rm, if_neg (by omega)]; exact a7 x hx
  · have := a8 x hx; omega
  · rw [pn_rm, if_neg (by omega)]; exact a9 x hx
theorem AC.row (A : AC a0 b h0 h n u ob fd own) (k m j : Nat) (hj : ∀ x ∈ own, x.1 ≠ j) : AC a0 b h0 (p_wr (p_new h k m m) a0 j (p_nx h)) (n + 1) (u + m) (ob ++ [(b + n, k, m)]) fd (own ++ [(j, b + n)]) := by
  have := (A.new k m m).set j (p_nx h) hj
  rw [A.2.2.1] at this ⊢
  exact this
theorem AC.put {x j v : Nat} (A : AC a0 b h0 h n u ob fd own) (h1 : b ≤ x) (h2 : x < b + n) (h3 : ∀ y ∈ fd, ¬ (y.1 = x ∧ y.2.1 = j)) : AC a0 b h0 (p_wr h x j v) n u ob (fd ++ [(x, j, v)]) own := by
  obtain ⟨a1, a2, a3, a4, a5, a6, a7, a8, a9⟩ := A
  refine ⟨a1, a2, a3, a4, a5.tr (Ext.wr (W := fun a => a = x) v (fun _ => rfl)) (fun a ha q => by omega), a6, fun y hy => ?_, fun y hy => ?_, fun y hy => ?_⟩
  · rcases List.mem_append.mp hy with q | q
    · rw [wr_rm, if_neg (h3 y q)]; exact a7 y q
    · rw [List.mem_singleton.mp q, wr_rm, if_pos ⟨rfl, rfl⟩]
  · rcases List.mem_append.mp hy with q | q
    · exact a8 y q
    · rw [List.mem_singleton.mp q]; exact ⟨h1, h2⟩
  · rw [wr_rm, if_neg (by omega)]; exact a9 y hy
/-- what is made within: a new object x, and what it makes -/
theorem AC.sub {h2 : PH} {k s n1 u1 : Nat} {ob1 fd1 : List (Nat × Nat × Nat)} {own1 : List (Nat × Nat)} (A : AC a0 b h0 h n u ob fd own) (B : AC (p_nx h) (p_nx h + 1) (p_new h k 0 s) h2 n1 u1 ob1 fd1 own1) :
    AC a0 b h0 h2 (n + 1 + n1) (u + s + u1) (ob ++ [(b + n, k, 0)] ++ ob1) (fd ++ (own1.map (fun x => (b + n, x.1, x.2)) ++ fd1)) own := by
  obtain ⟨c1, c2, c3, c4, c5, c6, c7, c8, c9⟩ := A.new k 0 s
  have a3 := A.2.2.1
  have a8 := A.2.2.2.2.2.2.2.1
  obtain ⟨b1, b2, b3, b4, b5, b6, b7, b8, b9⟩ := B
  rw [a3] at b1 b2 b3 b5 b8 b9
  refine ⟨c1, c2, by omega, by omega, c5.tr b5 (fun a ha q => by omega), fun x hx => ?_, fun x hx => ?_, fun x hx => ?_, fun x hx => ?_⟩
  · rcases List.mem_append.mp hx with q | q
    · have := c6 x q
      rw [b5.kd (by omega), b5.ln (by omega)]
      exact ⟨this.1, this.2.1, by omega⟩
    · exact b6 x q
  · rcases List.mem_append.mp hx with q | q
    · have := a8 x q
      rw [b5.rm (by omega) (by omega)]
      exact c7 x q
    · rcases List.mem_append.mp q with q | q
      · obtain ⟨y, hy, rfl⟩ := List.mem_map.mp q
        exact b9 y hy
      · exact b7 x q
  · rcases List.mem_append.mp hx with q | q
    · have := a8 x q; omega
    · rcases List.mem_append.mp q with q | q
      · obtain ⟨y, hy, rfl⟩ := List.mem_map.mp q
        show b ≤ b + n ∧ b + n < _
        omega
      · have := b8 x q; omega
  · rw [b5.rm (by omega) (by omega)]
    exact c9 x hx
theorem AC.obj {h2 : PH} {k s n1 u1 j : Nat} {ob1 fd1 : List (Nat × Nat × Nat)} {own1 : List (Nat × Nat)} (A : AC a0 b h0 h n u ob fd own) (B : AC (p_nx h) (p_nx h + 1) (p_new h k 0 s) h2 n1 u1 ob1 fd1 own1) (hj : ∀ x ∈ own, x.1 ≠ j) :
    AC a0 b h0 (p_wr h2 a0 j (p_nx h)) (n + 1 + n1) (u + s + u1) (ob ++ [(b + n, k, 0)] ++ ob1) (fd ++ (own1.map (fun x => (b + n, x.1, x.2)) ++ fd1)) (own ++ [(j, b + n)]) := by
  have := (A.sub B).set j (p_nx h) hj
  rw [A.2.2.1] at this ⊢
  exact this
theorem AC.room (A : AC a0 b h0 h n u ob fd own) {m : Nat} (hb : b + n ≤ 2000) (hu : p_us h0 ≤ 100000) (h2 : u + m ≤ 100000) : p_nx h + 1 ≤ p_CN ∧ p_us h + m ≤ p_CS := by
  have e1 : p_CN = 601086 := rfl
  have e2 : p_CS = 7301442 := rfl
  have := A.2.2.1
  have := A.2.2.2.1
  omega
end ACS
def obTok (b : Nat) : List (Nat × Nat × Nat) := [(b, 120, 3000), (b + 1, 310, 601), (b + 2, 100, 601), (b + 3, 100, 601), (b + 4, 100, 601)]
def owTok (b : Nat) : List (Nat × Nat) := [(0, b), (2, b + 1), (3, b + 2), (4, b + 3), (5, b + 4)]
theorem s0 {d a0 : Nat} {h : PH} {Q : PH → Prop} (hk : p_kd h a0 = 4) (h1000 : 1000 ≤ a0) (ha : a0 < p_nx h) (hb : p_nx h ≤ 1900) (hu : p_us h ≤ 100000) (K : ∀ h1, AC a0 (p_nx h) h h1 5 5404 (obTok (p_nx h)) [] (owTok (p_nx h)) → Q h1) : CV (d + 1) 0 [.ref a0] h Q := by
  have A0 : AC a0 (p_nx h) h h 0 0 [] [] [] := AC.nil rfl ha
  have A1 := A0.row 120 3000 0 (by simp)
  have A2 := A1.int 1 0
  have A3 := A2.row 310 601 2 (by simp)
  have A4 := A3.row 100 601 3 (by simp)
  have A5 := A4.row 100 601 4 (by simp)
  have A6 := A5.row 100 601 5 (by simp)
  have A7 := A6.int 6 0
  have g := fun {n u ob fd own h1} (A : AC a0 (p_nx h) h h1 n u ob fd own) (k m v : Nat) => (⟨(A.kn k m v).trans hk, h1000⟩ : p_kd (p_new h1 k m v) a0 = 4 ∧ 1000 ≤ a0)
  have g2 := fun {n u ob fd own h1} (A : AC a0 (p_nx h) h h1 n u ob fd own) => (⟨A.k.trans hk, h1000⟩ : p_kd h1 a0 = 4 ∧ 1000 ≤ a0)
  rw [e0]
  refine ⟨h1000, ⟨by decide, A0.room (by omega) hu (by omega)⟩, g A0 _ _ _, g2 A1, ⟨by decide, A2.room (by omega) hu (by omega)⟩, g A2 _ _ _, ?_⟩
  rw [r0_13]
  refine ⟨⟨by decide, A3.room (by omega) hu (by omega)⟩, g A3 _ _ _, ⟨by decide, A4.room (by omega) hu (by omega)⟩, g A4 _ _ _, ⟨by decide, A5.room (by omega) hu (by omega)⟩, g A5 _ _ _, ?_⟩
  rw [r0_25]
  exact ⟨g2 A6, K _ A7⟩
