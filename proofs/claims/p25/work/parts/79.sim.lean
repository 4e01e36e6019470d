/-! The library that is chosen. -/
/-- a clause's own data: (which fact its test asks (0: no test, q + 1: fact q), more than, optional, good, bad), (needs, bars, after) -/
abbrev CLD : Type := (Nat × Nat × Nat × Nat × Nat) × List Nat × List Nat × List Nat
def cl_t (D : CLD) : Nat := D.1.1
def cl_h (D : CLD) : Nat := D.1.2.1
def cl_o (D : CLD) : Nat := D.1.2.2.1
def cl_g (D : CLD) : Nat := D.1.2.2.2.1
def cl_b (D : CLD) : Nat := D.1.2.2.2.2
def cl_N (D : CLD) : List Nat := D.2.1
def cl_B (D : CLD) : List Nat := D.2.2.1
def cl_A (D : CLD) : List Nat := D.2.2.2
def okD (n f c : Nat) (D : CLD) : Prop := cl_t D ≤ f ∧ cl_h D < 20 ∧ cl_o D ≤ 1 ∧ cl_g D < 30 ∧ cl_b D < 30 ∧ (cl_N D).length ≤ 2 ∧ (cl_B D).length ≤ 1 ∧ (cl_A D).length ≤ 2 ∧ (∀ o ∈ cl_N D, o < n ∧ o ≠ c) ∧ (∀ o ∈ cl_B D, o < n ∧ o ≠ c) ∧ ∀ o ∈ cl_A D, o < n ∧ o ≠ c
/-- a clause's head -/
def cwh (D : CLD) : List Lx := bif Nat.beq (cl_t D) 0 then [] else [(3, 0, 1), (38, 102 * 32 + (cl_t D - 1), 1), (34, 0, 1), (39, cl_h D, 1)]
def cop (D : CLD) : List Lx := bif Nat.beq (cl_o D) 0 then [] else [(4, 0, 1), (39, cl_g D, 1), (39, cl_b D, 1)]
def clk (D : CLD) : List Lx := lks 5 (cl_N D) ++ (lks 6 (cl_B D) ++ lks 7 (cl_A D))
def chd (c : Nat) (D : CLD) : List Lx := [(2, 0, 1), (38, 99 * 32 + c, 1)] ++ (cwh D ++ (cop D ++ clk D))
def isC (n f c : Nat) (D : CLD) (X : List Lx) : Prop := okD n f c D ∧ ∃ B, isB0 n f c B ∧ X = chd c D ++ B
def isCs (n f : Nat) : Nat → List CLD → List Lx → Prop
  | _, [], X => X = []
  | c, D :: r, X => ∃ Y Z, X = Y ++ Z ∧ isC n f c D Y ∧ isCs n f (c + 1) r Z
def fct (k v : Nat) : List Lx := [(1, 0, 1), (38, 102 * 32 + k, 1), (35, 0, 1), (39, v, 0), (27, 0, 1)]
def fcts : Nat → List Nat → List Lx
  | _, [] => []
  | k, v :: r => fct k v ++ fcts (k + 1) r
/-- the heap's side of a clause, its rows at p + 2 .. p + 7 -/
def PC (p : Nat) (h : PH) (c : Nat) (D : CLD) : Prop := p_im h (p + 2) c = Int32.ofNat (cl_o D) ∧ p_im h (p + 3) c = Int32.ofNat (cl_g D) ∧ p_im h (p + 4) c = Int32.ofNat (cl_b D) ∧
  (p + 10 < p_rm h (p + 5) c ∧ RW h (p_rm h (p + 5) c) (cl_N D)) ∧ (p + 10 < p_rm h (p + 6) c ∧ RW h (p_rm h (p + 6) c) (cl_B D)) ∧ p + 10 < p_rm h (p + 7) c ∧ RW h (p_rm h (p + 7) c) (cl_A D)
/-- the rows of the library -/
def SS (sm p lt n f : Nat) (h : PH) : Prop := p_kd h sm = 12 ∧ 1000 ≤ sm ∧ sm < p ∧ 1000 ≤ lt ∧ lt < p ∧ p + 11 ≤ p_nx h ∧ p_im h sm 0 = Int32.ofNat f ∧ p_im h sm 1 = Int32.ofNat n ∧ (∀ i, i < 10 → p_rm h sm (4 + i) = p + i) ∧ (∀ i, i < 10 → p_ln h (p + i) = n) ∧
  p_kd h p = 100 ∧ p_kd h (p + 1) = 100 ∧ p_kd h (p + 2) = 300 ∧ p_kd h (p + 3) = 100 ∧ p_kd h (p + 4) = 100 ∧ p_kd h (p + 5) = 314 ∧ p_kd h (p + 6) = 314 ∧ p_kd h (p + 7) = 314 ∧ p_kd h (p + 8) = 315 ∧ p_kd h (p + 9) = 100 ∧ p_kd h (p + 10) = 100
/-- what stays while clause c is made -/
def CF (sm p lt c : Nat) (h h1 : PH) : Prop := Ext h h1 (fun a => k2 (p_kd h a) ∨ p_kd h a = 15 ∨ (p ≤ a ∧ a ≤ p + 10) ∨ a = lt ∨ a = sm) ∧ ((∀ j, p_rm h1 sm j = p_rm h sm j) ∧ ∀ j, j ≠ 2 → p_im h1 sm j = p_im h sm j) ∧ ∀ i, i < 10 → ∀ j, j ≠ c → p_im h1 (p + i) j = p_im h (p + i) j ∧ p_rm h1 (p + i) j = p_rm h (p + i) j
section CFS
variable {sm p lt c n f : Nat} {h h1 h2 : PH}
theorem CF.rf : CF sm p lt c h h := ⟨Ext.rf, ⟨fun _ => rfl, fun _ _ => rfl⟩, fun _ _ _ _ => ⟨rfl, rfl⟩⟩
theorem CF.tr (A : CF sm p lt c h h1) (B : CF sm p lt c h1 h2) : CF sm p lt c h h2 := by
  refine ⟨A.1.tr B.1 (fun a ha q => ?_), ⟨fun j => (B.2.1.1 j).trans (A.2.1.1 j), fun j hj => (B.2.1.2 j hj).trans (A.2.1.2 j hj)⟩, fun i hi j hj => ⟨((B.2.2 i hi j hj).1).trans (A.2.2 i hi j hj).1, ((B.2.2 i hi j hj).2).trans (A.2.2 i hi j hj).2⟩⟩
  rw [A.1.kd ha] at q
  exact q
theorem SS.cf (S : SS sm p lt n f h) (F : CF sm p lt c h h1) : SS sm p lt n f h1 := by
  obtain ⟨a1, a2, a3, a4, a5, a6, a7, a8, a9, a10, b0, b1, b2, b3, b4, b5, b6, b7, b8, b9, b10⟩ := S
  have E := F.1
  refine ⟨by rw [E.kd (by omega), a1], a2, a3, a4, a5, Nat.le_trans a6 E.1, by rw [F.2.1.2 0 (by decide), a7], by rw [F.2.1.2 1 (by decide), a8], fun i hi => by rw [F.2.1.1, a9 i hi], fun i hi => by rw [E.ln (by omega), a10 i hi], ?_, ?_, ?_, ?_, ?_, ?_, ?_, ?_, ?_, ?_, ?_⟩
  all_goals rw [E.kd (by omega)]; assumption
theorem SS.kd_row (S : SS sm p lt n f h) {i : Nat} (hi : i ≤ 10) : p_kd h (p + i) ≠ 120 ∧ p_kd h (p + i) ≠ 13 ∧ p_kd h (p + i) ≠ 15 := by
  obtain ⟨a1, a2, a3, a4, a5, a6, a7, a8, a9, a10, b0, b1, b2, b3, b4, b5, b6, b7, b8, b9, b10⟩ := S
  have : i = 0 ∨ i = 1 ∨ i = 2 ∨ i = 3 ∨ i = 4 ∨ i = 5 ∨ i = 6 ∨ i = 7 ∨ i = 8 ∨ i = 9 ∨ i = 10 := by omega
  rcases this with rfl | rfl | rfl | rfl | rfl | rfl | rfl | rfl | rfl | rfl | rfl
  · rw [Nat.add_zero, b0]; decide
  · rw [b1]; decide
  · rw [b2]; decide
  · rw [b3]; decide
  · rw [b4]; decide
  · rw [b5]; decide
  · rw [b6]; decide
  · rw [b7]; decide
  · rw [b8]; decide
  · rw [b9]; decide
  · rw [b10]; decide
theorem CF.fs (S : SS sm p lt n f h) (F : FS sm (p + 10) lt h h1) : CF sm p lt c h h1 := by
  have hs : sm < p_nx h := by have := S.2.2.1; have := S.2.2.2.2.2.1; omega
  refine ⟨F.1.up (fun a _ q => ?_), F.2.1 hs, fun i hi j _ => ?_⟩
  · rcases q with q | q | q | q | q
    · exact Or.inl q
    · exact Or.inr (Or.inl q)
    · exact Or.inr (Or.inr (Or.inl (by omega)))
    · exact Or.inr (Or.inr (Or.inr (Or.inl q)))
    · exact Or.inr (Or.inr (Or.inr (Or.inr q)))
  · have hk := S.kd_row (i := i) (by omega)
    have hx : p + i < p_nx h := by have := S.2.2.2.2.2.1; omega
    have nW : ¬ (k2 (p_kd h (p + i)) ∨ p_kd h (p + i) = 15 ∨ p + i = p + 10 ∨ p + i = lt ∨ p + i = sm) := by
      have := S.2.2.1
      have := S.2.2.2.2.1
      rintro (q | q | q | q | q)
      · rcases q with q | q
        · exact hk.1 q
        · exact hk.2.1 q
      · exact hk.2.2 q
      · omega
      · omega
      · omega
    exact ⟨F.1.im hx nW j, F.1.rm hx nW j⟩
theorem CF.ek (S : SS sm p lt n f h) (E : EK k2 h h1) : CF sm p lt c h h1 := CF.fs S (FS.ek E S.1)
theorem CF.nw (S : SS sm p lt n f h) (E : Ext h h1 (fun _ => False)) : CF sm p lt c h h1 := CF.ek S (E.up (fun _ _ q => q.elim))
theorem CF.wi {i : Nat} (S : SS sm p lt n f h) (v : Int32) (hi : i < 10) : CF sm p lt c h (p_wi h (p + i) c v) := by
  have := S.2.2.1
  refine ⟨(Ext.wi (W := fun a => a = p + i) v (fun _ => rfl)).up (fun a _ q => Or.inr (Or.inr (Or.inl (by omega)))), ⟨fun _ => rfl, fun j _ => by rw [wi_im, if_neg (by omega)]⟩, fun i1 _ j hj => ⟨by rw [wi_im, if_neg (fun q => hj q.2)], rfl⟩⟩
theorem CF.wr {i : Nat} (S : SS sm p lt n f h) (v : Nat) (hi : i < 10) : CF sm p lt c h (p_wr h (p + i) c v) := by
  have := S.2.2.1
  refine ⟨(Ext.wr (W := fun a => a = p + i) v (fun _ => rfl)).up (fun a _ q => Or.inr (Or.inr (Or.inl (by omega)))), ⟨fun j => by rw [wr_rm, if_neg (by omega)], fun _ _ => rfl⟩, fun i1 _ j hj => ⟨rfl, by rw [wr_rm, if_neg (fun q => hj q.2)]⟩⟩
theorem RW.cf {a : Nat} {l : List Nat} (R : RW h a l) (F : CF sm p lt c h h1) (ha : p + 10 < a) (g1 : lt < p) (g2 : sm < p) : RW h1 a l := by
  refine R.ext F.1 ?_
  rintro (q | q | q | q | q)
  · rw [R.1] at q; rcases q with q | q <;> cases q
  · rw [R.1] at q; cases q
  · omega
  · omega
  · omega
theorem PC.cf {j : Nat} {D : CLD} (P : PC p h j D) (S : SS sm p lt n f h) (F : CF sm p lt c h h1) (hj : j ≠ c) : PC p h1 j D := by
  have s1 := S.2.2.1
  have s2 := S.2.2.2.2.1
  obtain ⟨q1, q2, q3, ⟨q4, q5⟩, ⟨q6, q7⟩, q8, q9⟩ := P
  have g := fun i hi => F.2.2 i hi j hj
  refine ⟨by rw [(g 2 (by decide)).1, q1], by rw [(g 3 (by decide)).1, q2], by rw [(g 4 (by decide)).1, q3], ?_, ?_, ?_⟩
  · rw [(g 5 (by decide)).2]; exact ⟨q4, q5.cf F q4 s2 s1⟩
  · rw [(g 6 (by decide)).2]; exact ⟨q6, q7.cf F q6 s2 s1⟩
  · rw [(g 7 (by decide)).2]; exact ⟨q8, q9.cf F q8 s2 s1⟩
end CFS
theorem BT.alloc {L : Nat} {xs : Nat → Int32} {N U b x u : Nat} {l : List Int32} {h h1 : PH} (B : BT L xs N U h b l) (E : Ext h h1 (fun _ => False)) (hx : p_nx h1 ≤ p_nx h + x) (hu : p_us h1 ≤ p_us h + u) : BT L xs (N + x) (U + u) h1 b l := by
  obtain ⟨C, g, v, S, g1, g2⟩ := B
  refine ⟨C.ext E (fun _ _ q => q), by omega, v, S.ext E (fun q => q) (fun q => q), ?_, ?_⟩
  · rw [E.ln S.2.2.2.2.2.1]; exact g1
  · rw [E.ln S.2.2.2.2.2.1]; omega
theorem BT.up {L : Nat} {xs : Nat → Int32} {N U N1 U1 b : Nat} {l : List Int32} {h : PH} (B : BT L xs N U h b l) (hN : N ≤ N1) (hU : U ≤ U1) : BT L xs N1 U1 h b l := by
  obtain ⟨C, g, v, S, g1, g2⟩ := B
  exact ⟨C, by omega, v, S, g1, by omega⟩
/-- a row of the library is written -/
theorem BT.row {L : Nat} {xs : Nat → Int32} {N U b sm p lt n f i c : Nat} {l : List Int32} {h : PH} (B : BT L xs N U h b l) (S : SS sm p lt n f h) (hi : i ≤ 10) (v : Int32) : BT L xs N U (p_wi h (p + i) c v) b l := by
  have := S.2.1
  have := S.2.2.1
  have k := S.kd_row hi
  exact B.wr (W := fun a => a = p + i) (Ext.wi v (fun _ => rfl)) rfl rfl (fun a q => by rw [q]; exact ⟨by omega, k.2.1, k.1⟩)
theorem BT.rowr {L : Nat} {xs : Nat → Int32} {N U b sm p lt n f i c : Nat} {l : List Int32} {h : PH} (B : BT L xs N U h b l) (S : SS sm p lt n f h) (hi : i ≤ 10) (v : Nat) : BT L xs N U (p_wr h (p + i) c v) b l := by
  have := S.2.1
  have := S.2.2.1
  have k := S.kd_row hi
  exact B.wr (W := fun a => a = p + i) (Ext.wr v (fun _ => rfl)) rfl rfl (fun a q => by rw [q]; exact ⟨by omega, k.2.1, k.1⟩)
theorem NM.row {sm p lt n f i c : Nat} {s : List Nat} {h : PH} (M : NM sm (p + 10) lt s h) (S : SS sm p lt n f h) (hi : i < 10) (v : Int32) : NM sm (p + 10) lt s (p_wi h (p + i) c v) := by
  have := S.2.2.1
  exact M.ext (W := fun a => a = p + i) (Ext.wi v (fun _ => rfl)) (by omega) (by omega)
theorem NM.rowr {sm p lt n f i c : Nat} {s : List Nat} {h : PH} (M : NM sm (p + 10) lt s h) (S : SS sm p lt n f h) (hi : i < 10) (v : Nat) : NM sm (p + 10) lt s (p_wr h (p + i) c v) := by
  have := S.2.2.1
  exact M.ext (W := fun a => a = p + i) (Ext.wr v (fun _ => rfl)) (by omega) (by omega)
theorem SS.smq {sm p lt n f : Nat} {h : PH} (S : SS sm p lt n f h) : SMq n f sm h := ⟨S.1, S.2.1, by have := S.2.2.1; have := S.2.2.2.2.2.1; omega, S.2.2.2.2.2.2.1, S.2.2.2.2.2.2.2.1⟩
/-- the first cells of a clause's column -/
def KN (p c : Nat) (l : List Int32) (h : PH) : Prop := l.length ≤ 9 ∧ ∀ i, i < l.length → p_im h (p + i) c = l.getD i 0
theorem KN.snoc {p c i : Nat} {l : List Int32} {h : PH} (K : KN p c l h) (hi : l.length = i) (h5 : i < 9) (v : Int32) : KN p c (l ++ [v]) (p_wi h (p + i) c v) := by
  refine ⟨by rw [List.length_append]; show l.length + 1 ≤ 9; omega, fun k hk => ?_⟩
  rw [List.length_append] at hk
  have hk : k < l.length + 1 := hk
  rw [wi_im]
  by_cases hz : k < l.length
  · rw [if_neg (by omega), getD_snoc32 hz]; exact K.2 k hz
  · obtain rfl : k = l.length := by omega
    rw [if_pos ⟨by omega, rfl⟩, getD_last32]
theorem KN.wr {p c a i v : Nat} {l : List Int32} {h : PH} (K : KN p c l h) : KN p c l (p_wr h a i v) := K
theorem KN.ek {sm p lt n f c : Nat} {l : List Int32} {h h1 : PH} (K : KN p c l h) (S : SS sm p lt n f h) (F : CF sm p lt (c + 1) h h1) : KN p c l h1 := ⟨K.1, fun i hi => by
  have := K.1
  rw [(F.2.2 i (by omega) c (by omega)).1, K.2 i hi]⟩
