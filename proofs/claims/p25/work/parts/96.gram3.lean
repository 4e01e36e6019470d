/-! Clauses of the grammar, and the whole row of tokens. -/
theorem GQ.cw {L : Nat} {xs : Nat → Int32} {X U : List Lx} {h : PH} {a : Nat} (G : GQ L xs X U h) (h1 : 1046 ≤ a) (h2 : a ≤ 1062) (i : Nat) (v : Int32) : GQ L xs X U (p_wi h a i v) := by
  have F : FR (fun x => x = a) (fun _ => False) h (p_wi h a i v) := FR.wi v rfl
  obtain ⟨g1, g2, ⟨v1, v2, v3⟩, pre, e, p⟩ := G
  have es : sz (p_wi h a i v) = sz h := by
    show (p_im (p_wi h a i v) 1042 2).toNatClampNeg = _
    rw [wi_im, if_neg (by omega)]; rfl
  refine ⟨g1.fr F (fun _ _ => by omega) (fun _ _ q => q) (fun q => q) (fun q => q) (fun q => q), g2.fr F (fun q => q) (by omega) (by omega) (by omega) (by omega), ⟨?_, by rw [es]; exact v2, fun j hj => ?_⟩, pre, e, by rw [wi_im, if_neg (by omega), p]⟩
  · rw [es, wi_im, if_neg (by omega), v1]
  · rw [es] at hj
    rw [wi_rm, wi_im, if_neg (by omega)]
    exact v3 j hj
/-- what stays while a part of the clause a is read: of the clause all but the fields S -/
def GFc (a : Nat) (S : Nat → Prop) (h h1 : PH) : Prop := FR (fun x => wC x ∨ x = a) wGr h h1 ∧ p_im h1 1035 4 = p_im h 1035 4 ∧ ∀ j, ¬ S j → p_im h1 a j = p_im h a j
section GFC
variable {a : Nat} {S S1 : Nat → Prop} {h h1 h2 : PH}
theorem GFc.rf : GFc a S h h := ⟨FR.rf, rfl, fun _ _ => rfl⟩
theorem GFc.tr (A : GFc a S h h1) (B : GFc a S h1 h2) : GFc a S h h2 := ⟨A.1.tr B.1, B.2.1.trans A.2.1, fun j hj => (B.2.2 j hj).trans (A.2.2 j hj)⟩
theorem GFc.up (A : GFc a S h h1) (hs : ∀ j, S j → S1 j) : GFc a S1 h h1 := ⟨A.1, A.2.1, fun j hj => A.2.2 j (fun q => hj (hs j q))⟩
theorem GFc.gf (F : GF h h1) (ha : 1046 ≤ a) : GFc a S h h1 := ⟨F.1.up (fun _ q => Or.inl q) (fun _ q => q), F.2.1, fun j _ => F.1.im (fun q => by unfold wC at q; omega) j⟩
theorem GFc.wi {i : Nat} (v : Int32) (hi : S i) (ha : 1046 ≤ a) : GFc a S h (p_wi h a i v) := ⟨FR.wi v (Or.inr rfl), by rw [wi_im, if_neg (by omega)], fun j hj => by rw [wi_im, if_neg (fun q : a = a ∧ j = i => hj (by rw [q.2]; exact hi))]⟩
end GFC
def lkp (l : List (Nat × Nat)) : List Lx := l.flatMap (fun x => [(x.1, 0, 1), (38, 99 * 32 + x.2, 1)])
def cll (D : CLD) : List (Nat × Nat) := (cl_N D).map (fun o => (5, o)) ++ ((cl_B D).map (fun o => (6, o)) ++ (cl_A D).map (fun o => (7, o)))
theorem clk_lkp (D : CLD) : clk D = lkp (cll D) := by
  unfold clk lkp cll lks
  rw [List.flatMap_append, List.flatMap_append, List.flatMap_map, List.flatMap_map, List.flatMap_map]
section G3
variable {d L : Nat} {xs : Nat → Int32} {X r : List Lx} {x : Lx} {h : PH} {Q : Int32 → PH → Prop}
theorem s97 {i : Nat} (O : TOKS h) (N : TKN X h) (hi : i < X.length + 1) (K : Q (p_im h 1041 i) h) : CI (d + 1) 97 [.ref 1036, .int (Int32.ofNat i)] h Q := by
  obtain ⟨o1, -, -, -, o5, -, -, -, -, -, -, o12, o13⟩ := O
  have n3 := N.2.2.1
  have n4 := N.2.2.2
  rw [e97, if_neg (i_neg (by omega)), n3, if_pos (by rw [i_lt (by omega) (by omega)]; omega), o5, o12, o13, i_nat (by omega)]
  exact ⟨⟨o1, by decide⟩, ⟨o1, by decide⟩, ⟨⟨by decide, by decide⟩, i_in (by omega) (by decide)⟩, K⟩
/-- the token's number in the row, as it was read -/
theorem GQ.num {pre : List Lx} (N : TKN X h) (e : X = pre ++ (x :: r)) : p_im h 1041 pre.length = lnum x ∧ pre.length < X.length + 1 := by
  have hl : X.length = pre.length + (r.length + 1) := by rw [e, List.length_append]; rfl
  have := (N.1 pre.length (by omega)).2.2.2
  have g : X.getD pre.length (0, 0, 0) = x := by
    have := getD_app2 (l := pre) (r := x :: r) (d := ((0, 0, 0) : Lx)) (j := 0)
    rw [Nat.add_zero] at this
    rw [e, this]; rfl
  rw [g] at this
  exact ⟨this, by omega⟩
/-- a fact -/
theorem s82 {k v : Nat} (kX : kOK X) (G : GQ L xs X (fct k v ++ r) h) (K : ∀ h1, GQ L xs X r h1 → GF h h1 → Q 1 h1) : CI (d + 3) 82 [.ref 1035] h Q := by
  have G : GQ L xs X ((1, 0, 1) :: (38, 102 * 32 + k, 1) :: (35, 0, 1) :: (39, v, 0) :: (27, 0, 1) :: r) h := G
  rw [e82]
  refine ⟨G.g, s81 kX G rfl (fun h1 G1 F1 => ?_)⟩
  rw [if_neg (by decide)]
  refine ⟨G1.g, s81 kX G1 rfl (fun h2 G2 F2 => ?_)⟩
  rw [if_neg (by decide)]
  refine ⟨G2.g, s81 kX G2 rfl (fun h3 G3 F3 => ?_)⟩
  rw [if_neg (by decide)]
  refine ⟨G3.g, s81 kX G3 rfl (fun h4 G4 F4 => ?_)⟩
  rw [if_neg (by decide)]
  refine ⟨G4.g, s81 kX G4 rfl (fun h5 G5 F5 => ?_)⟩
  rw [if_neg (by decide)]
  exact ⟨Or.inr rfl, K h5 G5 ((((F1.tr F2).tr F3).tr F4).tr F5)⟩
/-- the part of a clause that tells its test -/
theorem s96 {a : Nat} {D : CLD} (kX : kOK X) (G : GQ L xs X (cwh D ++ r) h) (ka : p_kd h a = 6) (h1 : 1046 ≤ a) (h2 : a ≤ 1062) (n0 : knd r ≠ 3) (n1 : knd r ≠ 29) (n2 : knd r ≠ 30) (n3 : knd r ≠ 31) (n4 : knd r ≠ 32) (n5 : knd r ≠ 16) (n6 : knd r ≠ 17)
    (K : ∀ h1, GQ L xs X r h1 → GFc a (fun j => j = 7 ∨ j = 8) h h1 → Q 1 h1) : CI (d + 9) 96 [.ref 1035, .ref a] h Q := by
  have G1 := G.cw h1 h2 7 (p_im h 1042 2)
  have F1 : GFc a (fun j => j = 7 ∨ j = 8) h (p_wi h a 7 (p_im h 1042 2)) := GFc.wi _ (Or.inl rfl) h1
  have fin : ∀ h3, GQ L xs X r h3 → GFc a (fun j => j = 7 ∨ j = 8) h h3 → wp (d + 8) 96 13 [.val (.ref 1035), .val (.ref a), .unset] [] h3 (fun v h1 => onI v (fun x => Q x h1)) := fun h3 G3 F3 => by
    rw [r96_13, r96_16, G3.c.1]
    refine ⟨G3.g, G3.c.2, ⟨by rw [F3.1.kd, ka], by omega⟩, Or.inr rfl, K _ (G3.cw h1 h2 8 _) (F3.tr (GFc.wi _ (Or.inr rfl) h1))⟩
  rw [e96, G.c.1]
  refine ⟨G.g, G.c.2, ⟨ka, by omega⟩, G1.g, ?_⟩
  generalize p_wi h a 7 (p_im h 1042 2) = h3 at *
  cases hz : Nat.beq (cl_t D) 0
  · have e : cwh D = [(3, 0, 1), (38, 102 * 32 + (cl_t D - 1), 1), (34, 0, 1), (39, cl_h D, 1)] := by unfold cwh; rw [hz]; rfl
    rw [e] at G1
    have G1 : GQ L xs X ((3, 0, 1) :: (38, 102 * 32 + (cl_t D - 1), 1) :: (34, 0, 1) :: (39, cl_h D, 1) :: r) h3 := G1
    refine s81 kX G1 rfl (fun h4 G4 F4 => ?_)
    rw [if_neg (by decide)]
    refine ⟨G4.g, s95 kX G4 (Or.inl rfl) rfl (Or.inr rfl) n1 n2 n3 n4 n5 n6 (fun h5 G5 F5 => ?_)⟩
    rw [if_neg (by decide)]
    exact fin h5 G5 ((F1.tr (GFc.gf F4 h1)).tr (GFc.gf F5 h1))
  · have e : cwh D = [] := by unfold cwh; rw [hz]; rfl
    rw [e] at G1
    refine s81n kX G1 (by decide) n0 ?_
    rw [if_pos rfl]
    exact fin h3 G1 F1
/-- the part of a clause that tells whether it is optional -/
theorem s98 {a : Nat} {D : CLD} (kX : kOK X) (G : GQ L xs X (cop D ++ r) h) (ka : p_kd h a = 6) (h1 : 1046 ≤ a) (h2 : a ≤ 1062) (n0 : knd r ≠ 4)
    (K : ∀ h1, GQ L xs X r h1 → GFc a (fun j => j = 0 ∨ j = 1) h h1 → (Nat.beq (cl_o D) 0 = true → p_im h1 a 0 = p_im h a 0 ∧ p_im h1 a 1 = p_im h a 1) → (Nat.beq (cl_o D) 0 = false → p_im h1 a 0 = 1 ∧ p_im h1 a 1 = Int32.ofNat (cl_g D) - Int32.ofNat (cl_b D)) → Q 1 h1) : CI (d + 3) 98 [.ref 1035, .ref a] h Q := by
  rw [e98]
  cases hz : Nat.beq (cl_o D) 0
  · have e : cop D = [(4, 0, 1), (39, cl_g D, 1), (39, cl_b D, 1)] := by unfold cop; rw [hz]; rfl
    rw [e] at G
    have G : GQ L xs X ((4, 0, 1) :: (39, cl_g D, 1) :: (39, cl_b D, 1) :: r) h := G
    refine ⟨G.g, s81 kX G rfl (fun h3 G3 F3 => ?_)⟩
    rw [if_neg (by decide)]
    obtain ⟨pre, ep, pp⟩ := G3.2.2.2
    refine ⟨G3.g, G3.g, s81 kX G3 rfl (fun h4 G4 F4 => ?_)⟩
    rw [if_neg (by decide)]
    refine ⟨G4.g, s81 kX G4 rfl (fun h5 G5 F5 => ?_)⟩
    rw [if_neg (by decide)]
    have F35 := (F3.tr F4).tr F5
    have k5 : p_kd h5 a = 6 := by rw [F35.1.kd, ka]
    have G6 := G5.cw h1 h2 0 1
    have F6 : GFc a (fun j => j = 0 ∨ j = 1) h (p_wi h5 a 0 1) := (GFc.gf F35 h1).tr (GFc.wi 1 (Or.inl rfl) h1)
    have k6 : p_kd (p_wi h5 a 0 1) a = 6 := k5
    have v6 : p_im (p_wi h5 a 0 1) a 0 = 1 := by rw [wi_im, if_pos ⟨rfl, rfl⟩]
    rw [G6.t.1, pp]
    refine ⟨⟨⟨k5, by omega⟩, Or.inr rfl⟩, G6.g, G6.t.2, ?_⟩
    generalize p_wi h5 a 0 1 = h6 at *
    obtain ⟨m1, l1⟩ := GQ.num G6.2.1 ep
    have ep2 : X = (pre ++ [(39, cl_g D, 1)]) ++ ((39, cl_b D, 1) :: r) := by rw [ep, List.append_assoc]; rfl
    obtain ⟨m2, l2⟩ := GQ.num G6.2.1 ep2
    refine s97 G6.1.2.1 G6.2.1 l1 ?_
    rw [m1, G6.t.1, i_ofNat1, i_add, show pre.length + 1 = (pre ++ [((39, cl_g D, 1) : Lx)]).length from by rw [List.length_append]; rfl]
    refine ⟨G6.g, G6.t.2, s97 G6.1.2.1 G6.2.1 l2 ?_⟩
    rw [m2]
    refine ⟨⟨k6, by omega⟩, Or.inr rfl, K _ (G6.cw h1 h2 1 _) (F6.tr (GFc.wi _ (Or.inr rfl) h1)) (fun q => by rw [hz] at q; cases q) (fun _ => ⟨?_, ?_⟩)⟩
    · rw [wi_im, if_neg (by omega), v6]
    · rw [wi_im, if_pos ⟨rfl, rfl⟩]; rfl
  · have e : cop D = [] := by unfold cop; rw [hz]; rfl
    rw [e] at G
    refine ⟨G.g, s81n kX G (by decide) n0 ?_⟩
    rw [if_pos rfl]
    exact ⟨Or.inr rfl, K h G GFc.rf (fun _ => ⟨rfl, rfl⟩) (fun q => by rw [hz] at q; cases q)⟩
/-- the links of a clause -/
theorem l99 {Q : Option Value → PH → Prop} (kX : kOK X) (n5 : knd r ≠ 5) (n6 : knd r ≠ 6) (n7 : knd r ≠ 7) : ∀ (l : List (Nat × Nat)) (k : Nat) (h : PH), (∀ x ∈ l, x.1 = 5 ∨ x.1 = 6 ∨ x.1 = 7) → k + l.length < 600 → GQ L xs X (lkp l ++ r) h → (∀ h1, GQ L xs X r h1 → GF h h1 → Q (some (.int 1)) h1) →
    wp (d + 2) 99 4 [.val (.ref 1035), .val (.int 1), .val (.int (Int32.ofNat k))] [] h Q := by
  intro l
  induction l with
  | nil =>
    intro k h hl hk G K
    have G : GQ L xs X r h := G
    simp only [List.length_nil] at hk
    rw [r99_4, if_pos (by rw [show (600 : Int32) = Int32.ofNat 600 from rfl, i_lt (by omega) (by decide)]; omega), if_neg (by decide)]
    refine ⟨G.g, s80 kX G (by decide) (fun q => absurd q n5) (fun _ => ?_)⟩
    rw [if_pos rfl]
    refine ⟨G.g, s80 kX G (by decide) (fun q => absurd q n6) (fun _ => ?_)⟩
    rw [if_pos rfl]
    refine ⟨G.g, s80 kX G (by decide) (fun q => absurd q n7) (fun _ => ?_)⟩
    rw [if_pos rfl]
    exact ⟨Or.inr rfl, K h G GF.rf⟩
  | cons x l ih =>
    intro k h hl hk G K
    have G : GQ L xs X ((x.1, 0, 1) :: (38, 99 * 32 + x.2, 1) :: (lkp l ++ r)) h := G
    have hx := hl x List.mem_cons_self
    have ex : knd ((x.1, 0, 1) :: (38, 99 * 32 + x.2, 1) :: (lkp l ++ r)) = x.1 := rfl
    simp only [List.length_cons] at hk
    rw [r99_4, if_pos (by rw [show (600 : Int32) = Int32.ofNat 600 from rfl, i_lt (by omega) (by decide)]; omega), if_neg (by decide)]
    have go : wp (d + 2) 99 21 [.val (.ref 1035), .unset, .val (.int (Int32.ofNat k))] [] h Q := by
      obtain ⟨I1, I2⟩ := G.inc
      rw [r99_21]
      refine ⟨G.g, G.g1, I1.g, s81 kX I1 rfl (fun h1 G1 F1 => ?_)⟩
      rw [i_ofNat1, i_add]
      exact ih (k + 1) h1 (fun y hy => hl y (List.mem_cons_of_mem _ hy)) (by omega) G1 (fun h2 G2 F2 => K h2 G2 ((I2.tr F1).tr F2))
    refine ⟨G.g, s80 kX G (by decide) (fun q => ?_) (fun q1 => ?_)⟩
    · rw [if_neg (by decide)]; exact go
    · rw [if_pos rfl]
      refine ⟨G.g, s80 kX G (by decide) (fun q => ?_) (fun q2 => ?_)⟩
      · rw [if_neg (by decide)]; exact go
      · rw [if_pos rfl]
        refine ⟨G.g, s80 kX G (by decide) (fun q => ?_) (fun q3 => ?_)⟩
        · rw [if_neg (by decide)]; exact go
        · rw [ex] at q1 q2 q3
          omega
theorem s99 {l : List (Nat × Nat)} (kX : kOK X) (n5 : knd r ≠ 5) (n6 : knd r ≠ 6) (n7 : knd r ≠ 7) (hl : ∀ x ∈ l, x.1 = 5 ∨ x.1 = 6 ∨ x.1 = 7) (hk : l.length < 600) (G : GQ L xs X (lkp l ++ r) h) (K : ∀ h1, GQ L xs X r h1 → GF h h1 → Q 1 h1) : CI (d + 3) 99 [.ref 1035] h Q := by
  rw [e99]
  exact l99 (d := d) (Q := fun v h1 => onI v (fun x => Q x h1)) kX n5 n6 n7 l 0 h hl (by omega) G K
end G3
