/-! The grammar: places in the row of tokens, the code that is made. -/
def GS (L : Nat) (xs : Nat → Int32) (h : PH) : Prop := CO L xs h ∧ TOKS h ∧ p_kd h 1035 = 3 ∧ p_rm h 1035 0 = 1036 ∧ p_rm h 1035 1 = 1042 ∧ p_kd h 1042 = 5 ∧ p_rm h 1042 0 = 1043 ∧ p_rm h 1042 1 = 1044 ∧ p_kd h 1043 = 310 ∧ p_ln h 1043 = 600 ∧ p_kd h 1044 = 100 ∧ p_ln h 1044 = 600
/-- how long the code is -/
def sz (h : PH) : Nat := (p_im h 1042 2).toNatClampNeg
/-- o is the place of a name behind a token of the kind k -/
def okop (X : List Lx) (k o : Nat) : Prop := o < X.length ∧ 1 ≤ o ∧ (X.getD o (0, 0, 0)).1 = 38 ∧ (X.getD (o - 1) (0, 0, 0)).1 = k
/-- the code: its steps are of some kind; def and use have the places of their names -/
def CVI (X : List Lx) (h : PH) : Prop := p_im h 1042 2 = Int32.ofNat (sz h) ∧ sz h ≤ 600 ∧ ∀ i, i < sz h → 1 ≤ p_rm h 1043 i ∧ p_rm h 1043 i ≤ 43 ∧ (p_rm h 1043 i = 9 ∨ p_rm h 1043 i = 10 → ∃ o, p_im h 1044 i = Int32.ofNat o ∧ okop X (p_rm h 1043 i) o)
def wC (a : Nat) : Prop := a = 1035 ∨ a = 1042 ∨ a = 1044
def wGr (a : Nat) : Prop := a = 1043
/-- what stays while the grammar goes on -/
def GF (h h1 : PH) : Prop := FR wC wGr h h1 ∧ p_im h1 1035 4 = p_im h 1035 4 ∧ sz h ≤ sz h1 ∧ ∀ i, i < sz h → p_rm h1 1043 i = p_rm h 1043 i
theorem GF.rf {h : PH} : GF h h := ⟨FR.rf, rfl, Nat.le_refl _, fun _ _ => rfl⟩
theorem GF.tr {h h1 h2 : PH} (A : GF h h1) (B : GF h1 h2) : GF h h2 := ⟨A.1.tr B.1, B.2.1.trans A.2.1, Nat.le_trans A.2.2.1 B.2.2.1, fun i hi => (B.2.2.2 i (Nat.lt_of_lt_of_le hi A.2.2.1)).trans (A.2.2.2 i hi)⟩
/-- the grammar stands ahead of U -/
def GQ (L : Nat) (xs : Nat → Int32) (X U : List Lx) (h : PH) : Prop := GS L xs h ∧ TKN X h ∧ CVI X h ∧ ∃ pre, X = pre ++ U ∧ p_im h 1035 5 = Int32.ofNat pre.length
def knd (U : List Lx) : Nat := match U with
  | [] => 41
  | x :: _ => x.1
theorem CO.en {L : Nat} {xs : Nat → Int32} {h : PH} (C : CO L xs h) {k : Nat} (h1 : 1 ≤ k) (h2 : k ≤ 43) : p_kd h k = 16 ∧ p_im h k 0 = Int32.ofNat (k - 1) := by
  obtain ⟨a, -, b, -⟩ := C.2 k (by omega)
  refine ⟨?_, ?_⟩
  · rw [a]
    have := (by decide : ∀ k, k < 43 → c_kd (k + 1) = 16) (k - 1) (by omega)
    rw [show k - 1 + 1 = k from by omega] at this
    exact this
  · rw [b, c_im_k h2]
theorem wC_lo {a : Nat} (ha : a < 1000) : ¬ wC a := fun q => by unfold wC at q; omega
theorem wGr_lo {a : Nat} (ha : a < 1000) : ¬ wGr a := fun q => by unfold wGr at q; omega
theorem GS.fr {L : Nat} {xs : Nat → Int32} {Wi Wr : Nat → Prop} {h h1 : PH} (G : GS L xs h) (F : FR Wi Wr h h1) (hi : ∀ a, a < 1000 → ¬ Wi a) (hr : ∀ a, a < 1000 → ¬ Wr a) (r1 : ¬ Wr 1035) (r2 : ¬ Wr 1036) (r3 : ¬ Wr 1042) : GS L xs h1 := by
  obtain ⟨C, O, g⟩ := G
  refine ⟨C.fr F hi hr, O.fr F r2, ?_⟩
  rw [F.kd, F.ln, F.rm r1, F.rm r1, F.rm r3, F.rm r3]
  exact g
theorem TKN.fr {X : List Lx} {Wi Wr : Nat → Prop} {h h1 : PH} (N : TKN X h) (F : FR Wi Wr h h1) (r1 : ¬ Wr 1038) (i1 : ¬ Wi 1039) (i2 : ¬ Wi 1040) (i3 : ¬ Wi 1041) (i4 : ¬ Wi 1036) : TKN X h1 := by
  obtain ⟨n1, n2, n3, n4⟩ := N
  refine ⟨fun i hi => ?_, by rw [F.rm r1, n2], by rw [F.im i4, n3], n4⟩
  rw [F.rm r1, F.im i1, F.im i2, F.im i3]
  exact n1 i hi
/-- the same, but the place in the row of tokens -/
theorem GQ.to {L : Nat} {xs : Nat → Int32} {X U V : List Lx} {h h1 : PH} (G : GQ L xs X U h) (F : FR wC wGr h h1) (V1 : CVI X h1) (P : ∃ pre, X = pre ++ V ∧ p_im h1 1035 5 = Int32.ofNat pre.length) : GQ L xs X V h1 :=
  ⟨G.1.fr F (fun _ => wC_lo) (fun _ => wGr_lo) (by unfold wGr; decide) (by unfold wGr; decide) (by unfold wGr; decide), G.2.1.fr F (by unfold wGr; decide) (by unfold wC; decide) (by unfold wC; decide) (by unfold wC; decide) (by unfold wC; decide), V1, P⟩
section GR
variable {d L : Nat} {xs : Nat → Int32} {X U r : List Lx} {x : Lx} {h : PH}
theorem TKN.knd {pre : List Lx} (N : TKN X h) (e : X = pre ++ U) : p_rm h 1038 pre.length = knd U ∧ pre.length ≤ 600 ∧ pre.length < X.length + 1 := by
  have hl : X.length = pre.length + U.length := by rw [e, List.length_append]
  have n4 := N.2.2.2
  cases U with
  | nil =>
    rw [List.append_nil] at e
    rw [← e]
    exact ⟨N.2.1, n4, by omega⟩
  | cons x r =>
    simp only [List.length_cons] at hl
    have := (N.1 pre.length (by omega)).1
    have g : X.getD pre.length (0, 0, 0) = x := by
      rw [e]
      have := getD_app2 (l := pre) (r := x :: r) (d := ((0, 0, 0) : Lx)) (j := 0)
      rw [Nat.add_zero] at this
      rw [this]; rfl
    rw [g] at this
    exact ⟨this, by omega, by omega⟩
theorem s79 {Q : Nat → PH → Prop} {pre : List Lx} (O : TOKS h) (C : CO L xs h) (N : TKN X h) (e : X = pre ++ U) (hU : 1 ≤ knd U ∧ knd U ≤ 43) (K : Q (knd U) h) : CR (d + 1) 79 [.ref 1036, .int (Int32.ofNat pre.length)] h Q := by
  obtain ⟨o1, o2, o3, o4, o5, o6, o7, -⟩ := O
  obtain ⟨k1, k2, k3⟩ := N.knd e
  have n3 := N.2.2.1
  have n4 := N.2.2.2
  rw [e79, if_neg (i_neg (by omega)), n3, if_pos (by rw [i_lt (by omega) (by omega)]; omega), o2, o6, o7, i_nat (by omega), k1, if_neg (by omega), (C.en hU.1 hU.2).1]
  exact ⟨⟨o1, by decide⟩, ⟨o1, by decide⟩, ⟨⟨by decide, by decide⟩, i_in (by omega) (by decide)⟩, Or.inr (by decide), ⟨o1, by decide⟩, ⟨⟨by decide, by decide⟩, i_in (by omega) (by decide)⟩, K⟩
/-- all tokens are of some kind -/
def kOK (X : List Lx) : Prop := ∀ x ∈ X, 1 ≤ x.1 ∧ x.1 ≤ 43
theorem kOK.knd {pre : List Lx} (k : kOK X) (e : X = pre ++ U) : 1 ≤ knd U ∧ knd U ≤ 43 := by
  cases U with
  | nil => exact (by decide : 1 ≤ 41 ∧ 41 ≤ 43)
  | cons x r => exact k x (by rw [e]; exact List.mem_append_right _ List.mem_cons_self)
theorem s86 {Q : Nat → PH → Prop} (kX : kOK X) (G : GQ L xs X U h) (K : Q (knd U) h) : CR (d + 2) 86 [.ref 1035] h Q := by
  obtain ⟨⟨C, O, g1, g2, g3, -⟩, N, V, pre, e, p⟩ := G
  rw [e86, g2, O.1, p]
  exact ⟨⟨g1, by decide⟩, ⟨g1, by decide⟩, ⟨rfl, by decide⟩, s79 O C N e (kX.knd e) K⟩
theorem s80 {k : Nat} {Q : Int32 → PH → Prop} (kX : kOK X) (G : GQ L xs X U h) (hk : 1 ≤ k ∧ k ≤ 43) (K1 : knd U = k → Q 1 h) (K0 : knd U ≠ k → Q 0 h) : CI (d + 2) 80 [.ref 1035, .ref k] h Q := by
  obtain ⟨⟨C, O, g1, g2, g3, -⟩, N, V, pre, e, p⟩ := G
  rw [e80, g2, O.1, p]
  refine ⟨⟨g1, by decide⟩, ⟨g1, by decide⟩, ⟨rfl, by decide⟩, s79 O C N e (kX.knd e) ⟨⟨Or.inr (C.en (kX.knd e).1 (kX.knd e).2).1, Or.inr (C.en hk.1 hk.2).1⟩, ?_⟩⟩
  split
  · exact ⟨Or.inr rfl, K1 ‹_›⟩
  · exact ⟨Or.inl rfl, K0 ‹_›⟩
/-- one token on -/
theorem GQ.inc (G : GQ L xs X (x :: r) h) : GQ L xs X r (p_wi h 1035 5 (p_im h 1035 5 + 1)) ∧ GF h (p_wi h 1035 5 (p_im h 1035 5 + 1)) := by
  have F : FR wC wGr h (p_wi h 1035 5 (p_im h 1035 5 + 1)) := FR.wi (a := 1035) _ (Or.inl rfl)
  have es : sz (p_wi h 1035 5 (p_im h 1035 5 + 1)) = sz h := by unfold sz; rw [wi_im, if_neg (by omega)]
  have V := G.2.2.1
  obtain ⟨pre, e, p⟩ := G.2.2.2
  refine ⟨G.to F ?_ ⟨pre ++ [x], by rw [e, List.append_assoc]; rfl, ?_⟩, F, by rw [wi_im, if_neg (by omega)], by rw [es]; exact Nat.le_refl _, fun i _ => rfl⟩
  · unfold CVI
    rw [es]
    refine ⟨by rw [wi_im, if_neg (by omega)]; exact V.1, V.2.1, fun i hi => ?_⟩
    rw [wi_rm, wi_im, if_neg (by omega)]
    exact V.2.2 i hi
  · rw [wi_im, if_pos ⟨rfl, rfl⟩, p, i_ofNat1, i_add, List.length_append]; rfl
theorem s81 {k : Nat} {Q : Int32 → PH → Prop} (kX : kOK X) (G : GQ L xs X (x :: r) h) (hk : x.1 = k) (K : ∀ h1, GQ L xs X r h1 → GF h h1 → Q 1 h1) : CI (d + 2) 81 [.ref 1035, .ref k] h Q := by
  obtain ⟨I1, I2⟩ := G.inc
  obtain ⟨⟨C, O, g1, g2, g3, -⟩, N, V, pre, e, p⟩ := G
  have kk := kX.knd e
  rw [e81, g2, O.1, p]
  refine ⟨⟨g1, by decide⟩, ⟨g1, by decide⟩, ⟨rfl, by decide⟩, s79 O C N e kk ⟨⟨Or.inr (C.en kk.1 kk.2).1, Or.inr ?_⟩, ?_⟩⟩
  · rw [← hk]; exact (C.en kk.1 kk.2).1
  · rw [if_pos (show knd (x :: r) = k from hk)]
    exact ⟨⟨g1, by decide⟩, ⟨g1, by decide⟩, Or.inr rfl, K _ I1 I2⟩
theorem s81n {k : Nat} {Q : Int32 → PH → Prop} (kX : kOK X) (G : GQ L xs X U h) (hk : 1 ≤ k ∧ k ≤ 43) (hn : knd U ≠ k) (K : Q 0 h) : CI (d + 2) 81 [.ref 1035, .ref k] h Q := by
  obtain ⟨⟨C, O, g1, g2, g3, -⟩, N, V, pre, e, p⟩ := G
  have kk := kX.knd e
  rw [e81, g2, O.1, p]
  refine ⟨⟨g1, by decide⟩, ⟨g1, by decide⟩, ⟨rfl, by decide⟩, s79 O C N e kk ⟨⟨Or.inr (C.en kk.1 kk.2).1, Or.inr (C.en hk.1 hk.2).1⟩, ?_⟩⟩
  rw [if_neg hn]
  exact ⟨Or.inl rfl, K⟩
theorem s84 {k : Nat} {dp : Int32} {Q : Int32 → PH → Prop} (kX : kOK X) (G : GQ L xs X (x :: r) h) (hk : x.1 = k) (hd : dp < 8) (K : ∀ h1, GQ L xs X r h1 → GF h h1 → Q 1 h1) : CI (d + 2) 84 [.ref 1035, .ref k, .int dp] h Q := by
  obtain ⟨I1, I2⟩ := G.inc
  obtain ⟨⟨C, O, g1, g2, g3, -⟩, N, V, pre, e, p⟩ := G
  have kk := kX.knd e
  rw [e84, if_pos hd, g2, O.1, p]
  refine ⟨⟨g1, by decide⟩, ⟨g1, by decide⟩, ⟨rfl, by decide⟩, s79 O C N e kk ⟨⟨Or.inr (C.en kk.1 kk.2).1, Or.inr ?_⟩, ?_⟩⟩
  · rw [← hk]; exact (C.en kk.1 kk.2).1
  · rw [if_pos (show knd (x :: r) = k from hk)]
    exact ⟨⟨g1, by decide⟩, ⟨g1, by decide⟩, Or.inr rfl, K _ I1 I2⟩
/-- a step whose operand may be changed -/
def STP (s : Nat) (h : PH) : Prop := s = 600 ∨ s < sz h ∧ p_rm h 1043 s ≠ 9 ∧ p_rm h 1043 s ≠ 10
theorem STP.gf {s : Nat} {h1 : PH} (S : STP s h) (F : GF h h1) : STP s h1 := by
  rcases S with S | ⟨a, b⟩
  · exact Or.inl S
  · refine Or.inr ⟨Nat.lt_of_lt_of_le a F.2.2.1, ?_⟩
    rw [F.2.2.2 s a]
    exact b
theorem s85 {k : Nat} {o : Int32} {Q : Int32 → PH → Prop} (G : GQ L xs X U h) (hk : 1 ≤ k ∧ k ≤ 43) (ho : k = 9 ∨ k = 10 → ∃ n, o = Int32.ofNat n ∧ okop X k n) (K : ∀ h1 s, GQ L xs X U h1 → GF h h1 → s ≤ 600 → (k ≠ 9 → k ≠ 10 → STP s h1) → Q (Int32.ofNat s) h1) : CI (d + 1) 85 [.ref 1042, .ref k, .int o] h Q := by
  obtain ⟨⟨C, O, g1, g2, g3, g4, g5, g6, g7, g8, g9, g10⟩, N, V, pre, e, p⟩ := id G
  obtain ⟨v1, v2, v3⟩ := V
  rw [e85, v1]
  refine ⟨⟨g4, by decide⟩, if_ltn (k := 600) rfl (by omega) (by decide) (fun hs => ?_) (fun hs => ?_)⟩
  · rw [g5, g7, g8, i_nat (by omega), (C.en hk.1 hk.2).1]
    have r6 : p_rm (p_wr h 1043 (sz h) k) 1042 1 = 1044 := by rw [wr_rm, if_neg (by omega), g6]
    have kd : p_kd (p_wr h 1043 (sz h) k) = p_kd h := rfl
    have ln : p_ln (p_wr h 1043 (sz h) k) = p_ln h := rfl
    rw [r6, kd, ln, g4, g9, g10]
    have hin : p_in (Int32.ofNat (sz h)) 600 := i_in hs (by decide)
    refine ⟨⟨rfl, by decide⟩, ⟨⟨⟨by decide, by decide⟩, rfl, by omega⟩, hin⟩, ⟨rfl, by decide⟩, ⟨⟨rfl, by decide⟩, hin⟩, ?_⟩
    have z2 : p_im (p_wi (p_wr h 1043 (sz h) k) 1044 (sz h) o) 1042 2 = Int32.ofNat (sz h) := by rw [wi_im, if_neg (by omega), wr_im, v1]
    have kd2 : p_kd (p_wi (p_wr h 1043 (sz h) k) 1044 (sz h) o) = p_kd h := rfl
    rw [r85_16, z2, kd2, i_ofNat1, i_add]
    refine ⟨⟨g4, by decide⟩, ⟨g4, by decide⟩, ?_⟩
    have F : FR wC wGr h (p_wi (p_wi (p_wr h 1043 (sz h) k) 1044 (sz h) o) 1042 2 (Int32.ofNat (sz h + 1))) := ((FR.wr (Wi := wC) (Wr := wGr) (a := 1043) k rfl).tr (FR.wi (a := 1044) _ (Or.inr (Or.inr rfl)))).tr (FR.wi (a := 1042) _ (Or.inr (Or.inl rfl)))
    have es : sz (p_wi (p_wi (p_wr h 1043 (sz h) k) 1044 (sz h) o) 1042 2 (Int32.ofNat (sz h + 1))) = sz h + 1 := by
      show (p_im (p_wi (p_wi (p_wr h 1043 (sz h) k) 1044 (sz h) o) 1042 2 (Int32.ofNat (sz h + 1))) 1042 2).toNatClampNeg = _
      rw [wi_im, if_pos ⟨rfl, rfl⟩, i_nat (by omega)]
    have er : ∀ i, p_rm (p_wi (p_wi (p_wr h 1043 (sz h) k) 1044 (sz h) o) 1042 2 (Int32.ofNat (sz h + 1))) 1043 i = if i = sz h then k else p_rm h 1043 i := fun i => by
      rw [wi_rm, wi_rm, wr_rm]
      by_cases hi : i = sz h
      · rw [if_pos ⟨rfl, hi⟩, if_pos hi]
      · rw [if_neg (fun q => hi q.2), if_neg hi]
    have ei : ∀ i, p_im (p_wi (p_wi (p_wr h 1043 (sz h) k) 1044 (sz h) o) 1042 2 (Int32.ofNat (sz h + 1))) 1044 i = if i = sz h then o else p_im h 1044 i := fun i => by
      rw [wi_im, if_neg (by omega), wi_im]
      by_cases hi : i = sz h
      · rw [if_pos ⟨rfl, hi⟩, if_pos hi]
      · rw [if_neg (fun q => hi q.2), if_neg hi, wr_im]
    have e5 : p_im (p_wi (p_wi (p_wr h 1043 (sz h) k) 1044 (sz h) o) 1042 2 (Int32.ofNat (sz h + 1))) 1035 5 = p_im h 1035 5 := by rw [wi_im, if_neg (by omega), wi_im, if_neg (by omega), wr_im]
    have e4 : p_im (p_wi (p_wi (p_wr h 1043 (sz h) k) 1044 (sz h) o) 1042 2 (Int32.ofNat (sz h + 1))) 1035 4 = p_im h 1035 4 := by rw [wi_im, if_neg (by omega), wi_im, if_neg (by omega), wr_im]
    have e2 : p_im (p_wi (p_wi (p_wr h 1043 (sz h) k) 1044 (sz h) o) 1042 2 (Int32.ofNat (sz h + 1))) 1042 2 = Int32.ofNat (sz h + 1) := by rw [wi_im, if_pos ⟨rfl, rfl⟩]
    generalize p_wi (p_wi (p_wr h 1043 (sz h) k) 1044 (sz h) o) 1042 2 (Int32.ofNat (sz h + 1)) = h1 at *
    refine K h1 (sz h) (G.to F ?_ ⟨pre, e, by rw [e5, p]⟩) ⟨F, e4, by omega, fun i hi => by rw [er, if_neg (by omega)]⟩ (by omega) (fun n1 n2 => Or.inr ⟨by omega, by rw [er, if_pos rfl]; exact ⟨n1, n2⟩⟩)
    refine ⟨by rw [e2, es], by omega, fun i hi => ?_⟩
    rw [er, ei]
    by_cases hz : i = sz h
    · rw [if_pos hz, if_pos hz]
      exact ⟨hk.1, hk.2, ho⟩
    · rw [if_neg hz, if_neg hz]
      exact v3 i (by omega)
  · exact K h (sz h) G GF.rf v2 (fun _ _ => Or.inl (by omega))
theorem s102 {s : Nat} {Q : PH → Prop} (G : GQ L xs X U h) (S : STP s h) (hs : s ≤ 600) (K : ∀ h1, GQ L xs X U h1 → GF h h1 → Q h1) : CV (d + 1) 102 [.ref 1042, .int (Int32.ofNat s)] h Q := by
  obtain ⟨⟨C, O, g1, g2, g3, g4, g5, g6, g7, g8, g9, g10⟩, N, V, pre, e, p⟩ := id G
  obtain ⟨v1, v2, v3⟩ := V
  rw [e102, if_neg (i_neg (by omega)), v1]
  refine ⟨⟨g4, by decide⟩, if_ltn (k := sz h) rfl (by omega) (by omega) (fun hz => ?_) (fun hz => K h G GF.rf)⟩
  rw [g6, g9, g10, i_nat (by omega)]
  refine ⟨⟨g4, by decide⟩, ⟨g4, by decide⟩, ⟨⟨rfl, by decide⟩, i_in (by omega) (by decide)⟩, ?_⟩
  have F : FR wC wGr h (p_wi h 1044 s (Int32.ofNat (sz h))) := FR.wi (a := 1044) _ (Or.inr (Or.inr rfl))
  have es : sz (p_wi h 1044 s (Int32.ofNat (sz h))) = sz h := by
    show (p_im (p_wi h 1044 s (Int32.ofNat (sz h))) 1042 2).toNatClampNeg = _
    rw [wi_im, if_neg (by omega)]; rfl
  refine K _ (G.to F ?_ ⟨pre, e, by rw [wi_im, if_neg (by omega), p]⟩) ⟨F, by rw [wi_im, if_neg (by omega)], by rw [es]; exact Nat.le_refl _, fun i _ => rfl⟩
  unfold CVI
  rw [es]
  refine ⟨by rw [wi_im, if_neg (by omega), v1], v2, fun i hi => ?_⟩
  obtain ⟨a1, a2, a3⟩ := v3 i hi
  refine ⟨a1, a2, fun q => ?_⟩
  have n1 : i ≠ s := fun z => by
    rcases S with S | ⟨-, b1, b2⟩
    · omega
    · rw [wi_rm, z] at q
      rcases q with q | q
      · exact b1 q
      · exact b2 q
  rw [wi_im, if_neg (fun z => n1 z.2)]
  exact a3 q
end GR
