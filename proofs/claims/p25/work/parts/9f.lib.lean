/-! A library that does not change any more: what is read in it. -/
def wL (a : Nat) : Prop := a < 1000 ∨ (1034 ≤ a ∧ a < 1066)
def AGR (g h : PH) : Prop := ∀ a, 1034 ≤ a → a < 1066 → ∀ j, p_im h a j = p_im g a j ∧ p_rm h a j = p_rm g a j
def LCD (h : PH) : Prop := p_rm h 1034 2 = 1042 ∧ p_kd h 1042 = 5 ∧ p_rm h 1042 0 = 1043 ∧ p_rm h 1042 1 = 1044 ∧ p_kd h 1043 = 310 ∧ p_ln h 1043 = 600 ∧ p_kd h 1044 = 100 ∧ p_ln h 1044 = 600
def LNB (h : PH) : Prop := (∃ T, T ≤ 3000 ∧ p_im h 1036 1 = Int32.ofNat T) ∧ (∃ S, S ≤ 601 ∧ p_im h 1036 6 = Int32.ofNat S) ∧ ∃ Z, Z ≤ 600 ∧ p_im h 1042 2 = Int32.ofNat Z ∧ ∀ i, i < Z → 1 ≤ p_rm h 1043 i ∧ p_rm h 1043 i ≤ 43
def LIB (L : Nat) (xs : Nat → Int32) (g h : PH) : Prop := CO L xs h ∧ TOK0 h ∧ LBO h ∧ GRC h ∧ LCD h ∧ LNB g ∧ AGR g h
section LIB1
variable {d L : Nat} {xs : Nat → Int32} {g h : PH}
theorem LIB.fr {Wi Wr : Nat → Prop} {h1 : PH} (B : LIB L xs g h) (F : FR Wi Wr h h1) (hi : ∀ a, wL a → ¬ Wi a) (hr : ∀ a, wL a → ¬ Wr a) : LIB L xs g h1 := by
  obtain ⟨b1, b2, b3, b4, b5, b6, b7⟩ := B
  have r : ∀ a, 1034 ≤ a → a < 1066 → ¬ Wr a := fun a q1 q2 => hr a (Or.inr ⟨q1, q2⟩)
  obtain ⟨c1, c2, c3, c4, c5, c6, c7, c8⟩ := b5
  refine ⟨b1.fr F (fun a ha => hi a (Or.inl ha)) (fun a ha => hr a (Or.inl ha)), b2.fr F (r 1036 (by decide) (by decide)), b3.fr F (r 1034 (by decide) (by decide)), b4.fr F (r 1035 (by decide) (by decide)) (r 1045 (by decide) (by decide)), ?_, b6, fun a q1 q2 j => ?_⟩
  · exact ⟨by rw [F.rm (r 1034 (by decide) (by decide)), c1], by rw [F.kd, c2], by rw [F.rm (r 1042 (by decide) (by decide)), c3], by rw [F.rm (r 1042 (by decide) (by decide)), c4], by rw [F.kd, c5], by rw [F.ln, c6], by rw [F.kd, c7], by rw [F.ln, c8]⟩
  · rw [F.im (hi a (Or.inr ⟨q1, q2⟩)), F.rm (r a q1 q2)]
    exact b7 a q1 q2 j
theorem LIB.im (B : LIB L xs g h) (a : Nat) (q1 : 1034 ≤ a) (q2 : a < 1066) (j : Nat) : p_im h a j = p_im g a j := (B.2.2.2.2.2.2 a q1 q2 j).1
theorem LIB.rm (B : LIB L xs g h) (a : Nat) (q1 : 1034 ≤ a) (q2 : a < 1066) (j : Nat) : p_rm h a j = p_rm g a j := (B.2.2.2.2.2.2 a q1 q2 j).2
/-- a row of the tokens, guarded -/
def tk (g : PH) (f : Nat) (t : Int32) : Int32 := if t < 0 then 0 else if t < p_im g 1036 6 then p_im g f t.toNatClampNeg else 0
def kdS (g : PH) (t : Int32) : Nat := if t < 0 then 42 else if t < p_im g 1042 2 then p_rm g 1043 t.toNatClampNeg else 42
def opS (g : PH) (t : Int32) : Int32 := if t < 0 then 0 else if t < p_im g 1042 2 then p_im g 1044 t.toNatClampNeg else 0
theorem s97t {t : Int32} {Q : Int32 → PH → Prop} (B : LIB L xs g h) (K : Q (tk g 1041 t) h) : CI (d + 1) 97 [.ref 1036, .int t] h Q := by
  obtain ⟨S, hS, eS⟩ := B.2.2.2.2.2.1.2.1
  obtain ⟨o1, -, -, -, o5, -, -, -, -, -, -, k1, l1⟩ := B.2.1.1
  unfold tk at K
  rw [e97, o5, k1, l1, B.im 1036 (by decide) (by decide), B.im 1041 (by decide) (by decide)]
  split
  · rename_i z; rw [r97_6]; rw [if_pos z] at K; exact K
  · rename_i z
    rw [if_neg z] at K
    refine ⟨⟨o1, by decide⟩, ?_⟩
    split
    · rename_i y; rw [if_pos y] at K; rw [eS] at y; exact ⟨⟨o1, by decide⟩, ⟨⟨by decide, by decide⟩, in_of z y hS (by decide)⟩, K⟩
    · rename_i y; rw [r97_6]; rw [if_neg y] at K; exact K
theorem s109t {t : Int32} {Q : Int32 → PH → Prop} (B : LIB L xs g h) (K : Q (tk g 1040 t) h) : CI (d + 1) 109 [.ref 1036, .int t] h Q := by
  obtain ⟨S, hS, eS⟩ := B.2.2.2.2.2.1.2.1
  obtain ⟨o1, -, -, o4, o5, -, -, -, -, k1, l1, -, -⟩ := B.2.1.1
  unfold tk at K
  rw [e109, o4, k1, l1, B.im 1036 (by decide) (by decide), B.im 1040 (by decide) (by decide)]
  split
  · rename_i z; rw [r109_6]; rw [if_pos z] at K; exact K
  · rename_i z
    rw [if_neg z] at K
    refine ⟨⟨o1, by decide⟩, ?_⟩
    split
    · rename_i y; rw [if_pos y] at K; rw [eS] at y; exact ⟨⟨o1, by decide⟩, ⟨⟨by decide, by decide⟩, in_of z y hS (by decide)⟩, K⟩
    · rename_i y; rw [r109_6]; rw [if_neg y] at K; exact K
theorem s110t {t : Int32} {Q : Int32 → PH → Prop} (B : LIB L xs g h) (K : ∀ z, Q z h) : CI (d + 1) 110 [.ref 1036, .int t] h Q := by
  obtain ⟨S, hS, eS⟩ := B.2.2.2.2.2.1.2.1
  obtain ⟨o1, -, o3, -, -, -, -, k1, l1, -, -, -, -⟩ := B.2.1.1
  rw [e110, o3, k1, l1, B.im 1036 (by decide) (by decide), B.im 1039 (by decide) (by decide)]
  split
  · rw [r110_6]; exact K _
  · rename_i z
    refine ⟨⟨o1, by decide⟩, ?_⟩
    split
    · rename_i y; rw [eS] at y; exact ⟨⟨o1, by decide⟩, ⟨⟨by decide, by decide⟩, in_of z y hS (by decide)⟩, K _⟩
    · rw [r110_6]; exact K _
theorem s64t {t : Int32} {Q : Int32 → PH → Prop} (B : LIB L xs g h) (K : ∀ z, Q z h) : CI (d + 1) 64 [.ref 1036, .int t] h Q := by
  obtain ⟨T, hT, eT⟩ := B.2.2.2.2.2.1.1
  obtain ⟨O, r, k1, l1⟩ := B.2.1
  rw [e64, r, k1, l1, B.im 1036 (by decide) (by decide)]
  split
  · rw [r64_6]; exact K _
  · rename_i z
    refine ⟨⟨O.1, by decide⟩, ?_⟩
    split
    · rename_i y; rw [eT] at y; exact ⟨⟨O.1, by decide⟩, ⟨⟨Or.inl (by decide), by decide⟩, in_of z y hT (by decide)⟩, K _⟩
    · rw [r64_6]; exact K _
theorem kdS_ok (B : LNB g) (t : Int32) : 1 ≤ kdS g t ∧ kdS g t ≤ 43 := by
  obtain ⟨Z, hZ, eZ, kZ⟩ := B.2.2
  unfold kdS
  split
  · exact ⟨by decide, by decide⟩
  · rename_i z
    split
    · rename_i y
      rw [eZ] at y
      exact kZ _ (in_of z y (Nat.le_refl _) (by omega)).2
    · exact ⟨by decide, by decide⟩
theorem s129 {t : Int32} {Q : Nat → PH → Prop} (B : LIB L xs g h) (K : Q (kdS g t) h) : CR (d + 1) 129 [.ref 1042, .int t] h Q := by
  have ok := kdS_ok B.2.2.2.2.2.1 t
  obtain ⟨Z, hZ, eZ, kZ⟩ := B.2.2.2.2.2.1.2.2
  obtain ⟨-, c2, c3, -, c5, c6, -, -⟩ := B.2.2.2.2.1
  have en := B.1.en ok.1 ok.2
  unfold kdS at K ok en
  rw [e129, c3, c5, c6, B.im 1042 (by decide) (by decide), B.rm 1043 (by decide) (by decide)]
  split
  · rename_i z; rw [if_pos z] at K; exact K
  · rename_i z
    rw [if_neg z] at K ok en
    refine ⟨⟨c2, by decide⟩, ?_⟩
    split
    · rename_i y; rw [if_pos y] at K ok en; rw [eZ] at y
      have i0 := in_of z y hZ (by decide)
      exact ⟨⟨c2, by decide⟩, ⟨⟨by decide, by decide⟩, i0⟩, Or.inr (by rw [en.1]; decide), by rw [if_neg (by omega)]; exact ⟨⟨c2, by decide⟩, ⟨⟨by decide, by decide⟩, i0⟩, K⟩⟩
    · rename_i y; rw [if_neg y] at K; exact K
theorem s130 {t : Int32} {Q : Int32 → PH → Prop} (B : LIB L xs g h) (K : Q (opS g t) h) : CI (d + 1) 130 [.ref 1042, .int t] h Q := by
  obtain ⟨Z, hZ, eZ, kZ⟩ := B.2.2.2.2.2.1.2.2
  obtain ⟨-, c2, -, c4, -, -, c5, c6⟩ := B.2.2.2.2.1
  unfold opS at K
  rw [e130, c4, c5, c6, B.im 1042 (by decide) (by decide), B.im 1044 (by decide) (by decide)]
  split
  · rename_i z; rw [r130_6]; rw [if_pos z] at K; exact K
  · rename_i z
    rw [if_neg z] at K
    refine ⟨⟨c2, by decide⟩, ?_⟩
    split
    · rename_i y; rw [if_pos y] at K; rw [eZ] at y; exact ⟨⟨c2, by decide⟩, ⟨⟨by decide, by decide⟩, in_of z y hZ (by decide)⟩, K⟩
    · rename_i y; rw [r130_6]; rw [if_neg y] at K; exact K
end LIB1
