section NS6
variable {d L n f : Nat} {base : Nat → Nat × Nat × Nat} {xs : Nat → Int32} {X : List Lx} {h0 : PH} {Q : Option Value → PH → Prop}
/-- behind the last token -/
theorem st_end {F C om : Nat} {s : List Nat} {mk : Nat → Nat × Nat × Nat} {h : PH} (kX : kOK X) (B : NB L xs X h0) (N : NS X h0 X.length F C s om mk h) (K : Q (some (.int 0)) h) : LK d X.length h Q := by
  obtain ⟨C0, O, LB, GR, W⟩ := N.b B
  have w4 := W.2.2.2.2
  have kn : knd (X.drop X.length) = 41 := by rw [List.drop_length]; rfl
  unfold LK
  rw [r123_4, LB.2.1, W.2.2.2.1, if_pos (by rw [i_lt (by omega) (by omega)]; omega), if_pos rfl]
  refine ⟨⟨LB.1, by decide⟩, ⟨O.1, by decide⟩, ⟨LB.1, by decide⟩, ⟨O.1, by decide⟩, s79w O C0 W (Nat.le_refl _) kX ?_⟩
  rw [kn, if_neg (by decide), r123_30, i_ofNat1, i_add, r123_4, LB.2.1, W.2.2.2.1, if_neg (by rw [i_lt (by omega) (by omega)]; omega)]
  exact ⟨⟨Or.inr (C0.en (by decide) (by decide)).1, Or.inr (C0.en (by decide) (by decide)).1⟩, ⟨LB.1, by decide⟩, ⟨O.1, by decide⟩, K⟩
/-- all clauses -/
theorem k123 (kX : kOK X) (MC : NMC X) (B : NB L xs X h0) (hn : cn X X.length = n) (hn7 : n ≤ 7) (hf : f ≤ 3) (hb : ∀ j, j < n → base j = (0, 0, 0)) : ∀ (Dr Ds : List CLD) (pre Z : List Lx) (s : List Nat) (om : Nat) (h : PH), X = pre ++ Z → isCs n f Ds.length Dr Z → Ds.length + Dr.length = n → (∀ j, j < n → p_im h0 (1047 + j) 0 = Int32.ofNat (cl_o ((Ds ++ Dr).getD j D0))) → P6 s → OMx Ds om → NS X h0 pre.length f Ds.length s om (mkD base Ds) h →
    (∀ h1 om1, NS X h0 X.length f n (sn s Z) om1 (mkD base (Ds ++ Dr)) h1 → OMx (Ds ++ Dr) om1 → P6 (sn s Z) → Q (some (.int 0)) h1) → LK d pre.length h Q := by
  intro Dr
  induction Dr with
  | nil =>
    intro Ds pre Z s om h e hZ hl ho p M N K
    have hZ : Z = [] := hZ
    have lX : X.length = pre.length := by rw [e, hZ, List.append_nil]
    simp only [List.length_nil] at hl
    rw [List.append_nil] at K
    rw [hZ] at K
    have N1 : NS X h0 X.length f n s om (mkD base Ds) h := by
      rw [lX, ← hl, Nat.add_zero]
      exact N
    rw [← lX]
    exact st_end kX B N1 (K h om N1 M p)
  | cons D Dr ih =>
    intro Ds pre Z s om h e hZ hl ho p M N K
    obtain ⟨Y, W, eZ, hY, hW⟩ := hZ
    simp only [List.length_cons] at hl
    have g : (Ds ++ D :: Dr).getD Ds.length D0 = D := by
      have := getD_app2 (l := Ds) (r := D :: Dr) (d := D0) (j := 0)
      rw [Nat.add_zero] at this
      rw [this]; rfl
    have hlen : (Ds ++ [D]).length = Ds.length + 1 := by rw [List.length_append]; rfl
    have e2 : X = pre ++ (Y ++ W) := by rw [e, eZ]
    refine st_whole (D := D) kX MC B hn hn7 hf rfl (by omega) (by omega) e2 hY (by rw [ho _ (by omega), g]) M.1 p N (fun h1 N1 p1 => ?_)
    rw [mkD_snoc (hb _ (by omega)), ← hlen] at N1
    have e3 : X = (pre ++ Y) ++ W := by rw [e2, List.append_assoc]
    have l3 : (pre ++ Y).length = pre.length + Y.length := List.length_append
    rw [← l3] at N1 ⊢
    have ap : (Ds ++ [D]) ++ Dr = Ds ++ D :: Dr := by rw [List.append_assoc]; rfl
    refine ih (Ds ++ [D]) (pre ++ Y) W (sn s Y) _ h1 e3 (by rw [hlen]; exact hW) (by rw [hlen]; omega) (fun j hj => by rw [ap]; exact ho j hj) p1 (M.snoc hY.1.2.2.1) N1 (fun h2 om2 N2 M2 p2 => ?_)
    rw [ap, ← sn_app, ← eZ] at N2
    rw [ap] at M2
    rw [← sn_app, ← eZ] at p2
    exact K h2 om2 N2 M2 p2
/-- behind a fact's first token -/
theorem st_ftail {k v om : Nat} {mk : Nat → Nat × Nat × Nat} {s : List Nat} {pre post : List Lx} {h : PH} (kX : kOK X) (B : NB L xs X h0) (e : X = pre ++ (fct k v ++ post)) (hk : k < 10) (N : NS X h0 (pre.length + 1) k 0 s om mk h)
    (K : ∀ h1, NS X h0 (pre.length + 5) (k + 1) 0 s om mk h1 → LK d (pre.length + 5) h1 Q) : LK d (pre.length + 1) h Q := by
  have g : ∀ j, j < 5 → lx X (pre.length + j) = (fct k v).getD j (0, 0, 0) := fun j hj => by rw [e]; exact lx_app hj
  have hl : pre.length + 5 ≤ X.length := by rw [e, List.length_append, List.length_append]; show pre.length + 5 ≤ pre.length + (5 + post.length); omega
  have g0 := g 0 (by decide)
  have g1 := g 1 (by decide)
  have g2 := g 2 (by decide)
  have g3 := g 3 (by decide)
  have g4 := g 4 (by decide)
  rw [Nat.add_zero] at g0
  refine st_fact (F := k) kX B N (by omega) (by omega) (by rw [g1]; exact ⟨rfl, rfl, by omega, by decide⟩) (by rw [Nat.add_sub_cancel, g0]; rfl) hk (fun h1 N1 => ?_)
  refine st0 kX B N1 (by omega) (by rw [show pre.length + 1 + 1 = pre.length + 2 from rfl, g2]; show 35 ≠ 38; decide) (fun N2 => ?_)
  refine st0 kX B N2 (by omega) (by rw [show pre.length + 1 + 1 + 1 = pre.length + 3 from rfl, g3]; show 39 ≠ 38; decide) (fun N3 => ?_)
  refine st0 kX B N3 (by omega) (by rw [show pre.length + 1 + 1 + 1 + 1 = pre.length + 4 from rfl, g4]; show 27 ≠ 38; decide) (fun N4 => ?_)
  exact K h1 N4
/-- all facts -/
theorem l123 {Z : List Lx} (kX : kOK X) (B : NB L xs X h0) : ∀ (vs : List Nat) (k : Nat) (pre : List Lx) (h : PH), X = pre ++ (fcts k vs ++ Z) → k + vs.length ≤ 10 → NS X h0 pre.length k 0 [] 0 (mkD base []) h →
    (∀ h1, NS X h0 (pre.length + (fcts k vs).length) (k + vs.length) 0 [] 0 (mkD base []) h1 → LK d (pre.length + (fcts k vs).length) h1 Q) → LK d pre.length h Q := by
  intro vs
  induction vs with
  | nil =>
    intro k pre h e hk N K
    exact K h N
  | cons v vs ih =>
    intro k pre h e hk N K
    simp only [List.length_cons] at hk
    have e2 : X = pre ++ (fct k v ++ (fcts (k + 1) vs ++ Z)) := by rw [e]; show pre ++ (fct k v ++ fcts (k + 1) vs ++ Z) = _; rw [List.append_assoc (fct k v)]
    have g0 := lx_app (pre := pre) (Y := fct k v) (post := fcts (k + 1) vs ++ Z) (j := 0) (by show 0 < 5; decide)
    rw [← e2, Nat.add_zero] at g0
    have hl : pre.length + 5 ≤ X.length := by rw [e2, List.length_append, List.length_append]; show pre.length + 5 ≤ pre.length + (5 + _); omega
    refine st0 kX B N (by omega) (by rw [g0]; show 1 ≠ 38; decide) (fun N1 => ?_)
    refine st_ftail kX B e2 (by omega) N1 (fun h2 N2 => ?_)
    have e3 : X = (pre ++ fct k v) ++ (fcts (k + 1) vs ++ Z) := by rw [e2, List.append_assoc]
    have l3 : (pre ++ fct k v).length = pre.length + 5 := List.length_append
    rw [← l3] at N2
    have z := ih (k + 1) (pre ++ fct k v) h2 e3 (by omega) N2 (fun h3 N3 => ?_)
    · rw [l3] at z; exact z
    · have l4 : (pre ++ fct k v).length + (fcts (k + 1) vs).length = pre.length + (fcts k (v :: vs)).length := by
        rw [l3]; show _ = pre.length + (fct k v ++ fcts (k + 1) vs).length; rw [List.length_append]; show _ = pre.length + (5 + _); omega
      rw [l4, show k + 1 + vs.length = k + (v :: vs).length from by rw [List.length_cons]; omega] at N3
      rw [l4]
      exact K h3 N3
theorem i_self (x : Int32) : Int32.ofNat x.toBitVec.toNat = x := by
  apply Int32.toBitVec_inj.mp
  rw [pq_bv, BitVec.ofNat_toNat, BitVec.setWidth_eq]
/-- all names -/
theorem s123 {vs : List Nat} {Ds : List CLD} {Z : List Lx} {Q : Int32 → PH → Prop} (kX : kOK X) (eX : X = fcts 0 vs ++ Z) (hv : vs.length = f) (hf : f ≤ 3) (hf0 : 0 < f) (hD : Ds.length = n) (hn7 : n ≤ 7) (hZ : isCs n f 0 Ds Z) (B : NB L xs X h0) (GCs : ∀ j, j < n → GC X j (Ds.getD j D0) h0) (z7 : p_im h0 1034 7 = 0) (z8 : p_im h0 1034 8 = 0) (z9 : p_im h0 1034 9 = 0) (z10 : p_im h0 1034 10 = 0)
    (K : ∀ h1 om base, NS X h0 X.length f n (sn [] Z) om (mkD base Ds) h1 → OMx Ds om → P6 (sn [] Z) → Q 0 h1) : CI (d + 6) 123 [.ref 1034] h0 Q := by
  obtain ⟨MC, hn⟩ := NMC.of hn7 hD eX hZ
  have hb : ∀ j, j < n → (fun c => ((p_im h0 (1047 + c) 2).toBitVec.toNat, (p_im h0 (1047 + c) 3).toBitVec.toNat, (p_im h0 (1047 + c) 4).toBitVec.toNat)) j = ((0, 0, 0) : Nat × Nat × Nat) := fun j hj => by
    obtain ⟨-, -, -, c2, c3, c4⟩ := GCs j hj
    show ((p_im h0 (1047 + j) 2).toBitVec.toNat, (p_im h0 (1047 + j) 3).toBitVec.toNat, (p_im h0 (1047 + j) 4).toBitVec.toNat) = _
    rw [c2, c3, c4]; rfl
  cases vs with
  | nil => simp only [List.length_nil] at hv; omega
  | cons v vs =>
    simp only [List.length_cons] at hv
    rw [e123]
    have N0 : NS X h0 1 0 0 [] 0 (mkD (fun c => ((p_im h0 (1047 + c) 2).toBitVec.toNat, (p_im h0 (1047 + c) 3).toBitVec.toNat, (p_im h0 (1047 + c) 4).toBitVec.toNat)) []) h0 :=
      ⟨FR.rf, fun _ _ _ _ => rfl, z7, by omega, fun t ht => absurd ht (Nat.not_lt_zero _), z8, by omega, z9, by show 0 ≤ 24; omega, fun t ht => absurd ht (Nat.not_lt_zero _), z10, fun c hc => ⟨(i_self _).symm, (i_self _).symm, (i_self _).symm⟩, fun j q1 q2 => by omega⟩
    have e2 : X = [] ++ (fct 0 v ++ (fcts 1 vs ++ Z)) := by rw [eX, List.nil_append, ← List.append_assoc]; rfl
    have e3 : X = fct 0 v ++ (fcts 1 vs ++ Z) := e2
    show LK d (([] : List Lx).length + 1) h0 _
    refine st_ftail (k := 0) kX B e2 (by decide) N0 (fun h2 N2 => ?_)
    have e4 : X = (fct 0 v ++ fcts 1 vs) ++ Z := by rw [e3, List.append_assoc]
    refine l123 (d := d) (Z := Z) (Q := fun v h1 => onI v (fun x => Q x h1)) kX B vs 1 (fct 0 v) h2 e3 (by omega) N2 (fun h3 N3 => ?_)
    have l4 : (fct 0 v ++ fcts 1 vs).length = (fct 0 v).length + (fcts 1 vs).length := List.length_append
    rw [← l4] at N3 ⊢
    rw [show 1 + vs.length = f from by omega] at N3
    refine k123 (d := d) (Q := fun v h1 => onI v (fun x => Q x h1)) kX MC B hn hn7 hf hb Ds [] (fct 0 v ++ fcts 1 vs) Z [] 0 h3 e4 hZ (by show 0 + Ds.length = n; omega) (fun j hj => (GCs j hj).2.1) (show (0 : Nat) + n6 [] = 6 from by decide) ⟨by decide, fun j hj => absurd hj (Nat.not_lt_zero _)⟩ N3 (fun h4 om N4 M4 p4 => K h4 om _ N4 M4 p4)
end NS6
