/-! Conflicts are told: only their kinds are looked at. -/
def FND (h : PH) (f : Nat) (KL : List Nat) : Prop := p_im h f 3 = Int32.ofNat (min KL.length 60) ∧ ∀ i, i < 60 → i < KL.length → p_im h (f + 1) i = Int32.ofNat (KL.getD i 0)
def wFd (f a : Nat) : Prop := f ≤ a ∧ a ≤ f + 3
section JUD1
variable {d L c m f k : Nat} {xs : Nat → Int32} {g h : PH} {KL : List Nat}
theorem s153 {Q : PH → Prop} (C : CTF h f) (hf : 1000 ≤ f) (K : ∀ h1, FR (wFd f) w0 h h1 → FND h1 f [] → Q h1) : CV (d + 1) 153 [.ref f] h Q := by
  rw [e153]
  exact ⟨⟨C.1, hf⟩, K _ (FR.wi _ ⟨Nat.le_refl _, Nat.le_add_right _ _⟩) ⟨by rw [wi_im, if_pos ⟨rfl, rfl⟩]; rfl, fun i _ hi => absurd hi (Nat.not_lt_zero _)⟩⟩
theorem FND.fr {Wi Wr : Nat → Prop} {h1 : PH} (N : FND h f KL) (F : FR Wi Wr h h1) (r0 : ¬ Wi f) (r1 : ¬ Wi (f + 1)) : FND h1 f KL := ⟨by rw [F.im r0]; exact N.1, fun i h1 h2 => by rw [F.im r1]; exact N.2 i h1 h2⟩
theorem s156 {x y : Int32} {Q : PH → Prop} (C : CTF h f) (hf : 1000 ≤ f) (N : FND h f KL) (K : ∀ h1, FR (wFd f) w0 h h1 → FND h1 f (KL ++ [k]) → Q h1) : CV (d + 1) 156 [.ref f, .int (Int32.ofNat k), .int x, .int y] h Q := by
  obtain ⟨n1, n2⟩ := N
  have hf0 : ¬ f = 0 := by omega
  have g1 : 1000 ≤ f + 1 := by omega
  have g2 : 1000 ≤ f + 2 := by omega
  have g3 : 1000 ≤ f + 3 := by omega
  have d1 : ¬ f = f + 1 := by omega
  have d2 : ¬ f = f + 2 := by omega
  have d3 : ¬ f = f + 3 := by omega
  have d4 : ¬ f + 1 = f := by omega
  have d5 : ¬ f + 1 = f + 3 := by omega
  have d6 : ¬ f + 1 = f + 2 := by omega
  have w0' : wFd f f := by unfold wFd; omega
  have w1 : wFd f (f + 1) := by unfold wFd; omega
  have w2 : wFd f (f + 2) := by unfold wFd; omega
  have w3 : wFd f (f + 3) := by unfold wFd; omega
  have el : (KL ++ [k]).length = KL.length + 1 := by rw [List.length_append]; rfl
  by_cases z : KL.length < 60
  · have e1 : min KL.length 60 = KL.length := by omega
    have e2 : min (KL ++ [k]).length 60 = KL.length + 1 := by omega
    have l31 : KL.length < 2147483648 := by omega
    have hin : p_in (Int32.ofNat KL.length) 60 := i_in z (by decide)
    rw [e1] at n1
    obtain ⟨c1, c2, c3, c4, c5, c6, c7⟩ := C
    have i1 : ∀ (G : PH) (b j : Nat) (v : Int32), ¬ f = b → p_im (p_wi G b j v) f 3 = p_im G f 3 := fun G b j v q => by rw [wi_im, if_neg (fun z => q z.1)]
    rw [e156, n1, if_pos (by rw [show (60 : Int32) = Int32.ofNat 60 from rfl, i_lt l31 (by decide)]; exact z), c2, i_nat l31, wi_rm, c3, i1 _ _ _ _ d1, n1, i_nat l31]
    simp only [wi_kd, wi_ln]
    rw [c5.1, c5.2, c6.1, c6.2, r156_16]
    simp only [wi_kd, wi_ln, wi_rm]
    rw [c4, c7.1, c7.2, i1 _ _ _ _ d2, i1 _ _ _ _ d1, n1, i_nat l31, i1 _ _ _ _ d3, i1 _ _ _ _ d2, i1 _ _ _ _ d1, n1, r156_28, i_inc]
    refine ⟨⟨c1, hf0⟩, ⟨c1, hf0⟩, ⟨c1, hf0⟩, ⟨⟨trivial, g1⟩, hin⟩, ⟨c1, hf0⟩, ⟨c1, hf0⟩, ⟨⟨trivial, g2⟩, hin⟩, ⟨c1, hf0⟩, ⟨c1, hf0⟩, ⟨⟨rfl, g3⟩, hin⟩, ⟨c1, hf0⟩, ⟨c1, hf⟩, K _ ((((FR.wi _ w1).tr (FR.wi _ w2)).tr (FR.wi _ w3)).tr (FR.wi _ w0')) ⟨?_, fun i h1 h2 => ?_⟩⟩
    · rw [wi_im, if_pos ⟨rfl, rfl⟩, e2]
    · rw [el] at h2
      rw [wi_im, if_neg (fun q => d4 q.1), wi_im, if_neg (fun q => d5 q.1), wi_im, if_neg (fun q => d6 q.1), wi_im]
      by_cases y : i = KL.length
      · rw [if_pos ⟨rfl, y⟩, y, getD_last]
      · rw [if_neg (fun q => y q.2), n2 i h1 (by omega), getD_snoc (by omega)]
  · have e1 : min KL.length 60 = 60 := by omega
    have e2 : min (KL ++ [k]).length 60 = 60 := by omega
    rw [e1] at n1
    rw [e156, n1, if_neg (by decide), r156_28]
    exact ⟨⟨C.1, hf0⟩, K h FR.rf ⟨by rw [e2]; exact n1, fun i h1 h2 => by rw [n2 i h1 (by omega), getD_snoc (by omega)]⟩⟩
/-- clauses' places, as numbers -/
def plI (ord : List Nat) : Nat → Int32 := fun o => Int32.ofNat (plc ord o)
theorem s154 {m0 : Nat} {ord : List Nat} {x : Int32} {Q : Int32 → PH → Prop} (S : CTS h c m) (R : DRO h (c + 13) m0 ord) (K : Q (gd (plI ord) 16 x) h) : CI (d + 1) 154 [.ref c, .int x] h Q := by
  have hc0 : ¬ c = 0 := by have := S.2.1; omega
  have n13 : ¬ c + 13 = 0 := by omega
  have n15 : ¬ c + 13 + 2 = 0 := by omega
  have dd := S.2.2.2.2.2.2.2.2.2.2.2.2.2.2.2.2.2.1
  unfold gd at K
  rw [e154]
  split
  · rename_i z; rw [if_pos z] at K; rw [r154_5]; exact K
  · rename_i z
    rw [if_neg z] at K
    split
    · rename_i y
      have y : x < Int32.ofNat 16 := y
      rw [if_pos y] at K
      have hin := in_of z y (Nat.le_refl 16) (by decide)
      rw [S.2.2.1, dd.2.2.2.1, dd.2.2.2.2.2.2.2.2.1.1, dd.2.2.2.2.2.2.2.2.1.2, R.2.2.2 _ hin.2]
      exact ⟨⟨S.1, hc0⟩, ⟨dd.1, n13⟩, ⟨⟨by decide, n15⟩, hin⟩, K⟩
    · rename_i y
      have y : ¬ x < Int32.ofNat 16 := y
      rw [if_neg y] at K; rw [r154_5]; exact K
/-- whether there is a conflict -/
def cfl (k : Nat) (p q : Int32) : Bool := if k = 1 then decide (0 < q) else if k = 2 then decide (q = 0) else decide (p < q)
theorem s155 {p q : Int32} {Q : Int32 → PH → Prop} (hk : k = 1 ∨ k = 2 ∨ k = 3) (K : Q (bi (cfl k p q)) h) : CI (d + 1) 155 [.int (Int32.ofNat k), .int p, .int q] h Q := by
  rw [e155]
  unfold cfl at K
  rcases hk with rfl | rfl | rfl
  · rw [if_pos rfl] at K
    rw [if_pos (by decide)]
    by_cases z : 0 < q
    · rw [if_pos z]; rw [decide_eq_true z] at K; exact ⟨Or.inr rfl, K⟩
    · rw [if_neg z]; rw [decide_eq_false z] at K; exact ⟨Or.inl rfl, K⟩
  · rw [if_neg (by decide), if_pos rfl] at K
    rw [if_neg (by decide), if_pos (by decide)]
    by_cases z : q = 0
    · rw [if_pos z]; rw [decide_eq_true z] at K; exact ⟨Or.inr rfl, K⟩
    · rw [if_neg z]; rw [decide_eq_false z] at K; exact ⟨Or.inl rfl, K⟩
  · rw [if_neg (by decide), if_neg (by decide)] at K
    rw [if_neg (by decide), if_neg (by decide)]
    by_cases z : p < q
    · rw [if_pos z]; rw [decide_eq_true z] at K; exact ⟨Or.inr rfl, K⟩
    · rw [if_neg z]; rw [decide_eq_false z] at K; exact ⟨Or.inl rfl, K⟩
theorem s79t {i S : Nat} {Q : Nat → PH → Prop} (B : LIB L xs g h) (eS : p_im g 1036 6 = Int32.ofNat S) (hS : S ≤ 601) (hi : i < S) (hk : p_rm g 1038 i = k) (k1 : 1 ≤ k) (k2 : k ≤ 43) (K : Q k h) : CR (d + 1) 79 [.ref 1036, .int (Int32.ofNat i)] h Q := by
  obtain ⟨o1, o2, -, -, -, k3, l3, -, -, -, -, -, -⟩ := B.2.1.1
  have i31 : i < 2147483648 := by omega
  have s31 : S < 2147483648 := by omega
  have hk0 : ¬ k = 0 := by omega
  have hin : p_in (Int32.ofNat i) 601 := i_in (by omega) (by decide)
  rw [e79, if_neg (i_neg i31), B.im 1036 (by decide) (by decide), eS, if_pos (by rw [i_lt i31 s31]; exact hi), o2, k3, l3, i_nat i31, B.rm 1038 (by decide) (by decide), hk, if_neg hk0]
  exact ⟨⟨o1, by decide⟩, ⟨o1, by decide⟩, ⟨⟨by decide, by decide⟩, hin⟩, Or.inr (by rw [(B.1.en k1 k2).1]; decide), ⟨o1, by decide⟩, ⟨⟨by decide, by decide⟩, hin⟩, K⟩
end JUD1
