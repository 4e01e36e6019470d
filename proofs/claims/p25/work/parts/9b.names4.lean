/-! Names: pieces of the row of tokens. -/
theorem lx_app {pre Y post : List Lx} {j : Nat} (hj : j < Y.length) : lx (pre ++ (Y ++ post)) (pre.length + j) = Y.getD j (0, 0, 0) := by
  unfold lx
  rw [getD_app2, getD_app1 hj]
/-- letters: six at most -/
def P6 (s : List Nat) : Prop := s.length + n6 s = 6
theorem P6.st {s : List Nat} {k : Nat} (p : P6 s) (hk : k < 6) : P6 (ins s k) := by
  unfold P6 at *
  cases hb : s.elem k
  · have e : ins s k = s ++ [k] := by unfold ins; rw [hb]; rfl
    have := n6_snoc hk hb
    rw [e, List.length_append]
    show s.length + 1 + n6 (s ++ [k]) = 6
    omega
  · have e : ins s k = s := by unfold ins; rw [hb]; rfl
    rw [e]; exact p
theorem P6.lt {s : List Nat} (p : P6 s) : s.length < 24 := by unfold P6 at p; omega
theorem lkm8 (mk : Nat → Nat × Nat × Nat) (c o : Nat) : lkm mk c 8 o = mk := by
  funext x
  unfold lkm
  split
  · rename_i h
    rw [h, if_neg (by decide), if_neg (by decide), if_neg (by decide), Nat.or_zero, Nat.or_zero, Nat.or_zero]
  · rfl
/-- the loop goes on at i -/
def LK (d i : Nat) (h : PH) (Q : Option Value → PH → Prop) : Prop := wp (d + 5) 123 4 [.val (.ref 1034), .val (.int 0), .val (.int (Int32.ofNat i))] [] h Q
/-- a piece whose names change letters and links alone -/
def PN (X : List Lx) (h0 : PH) (d F C om : Nat) (mk mk1 : Nat → Nat × Nat × Nat) (Y : List Lx) : Prop := ∀ (pre post : List Lx) (s : List Nat) (h : PH) (Q : Option Value → PH → Prop), X = pre ++ (Y ++ post) → P6 s → NS X h0 pre.length F (C + 1) s om mk h →
  (∀ h1, NS X h0 (pre.length + Y.length) F (C + 1) (sn s Y) om mk1 h1 → P6 (sn s Y) → LK d (pre.length + Y.length) h1 Q) → LK d pre.length h Q
section NS3
variable {d L F C om n f : Nat} {mk mk1 mk2 : Nat → Nat × Nat × Nat} {xs : Nat → Int32} {X : List Lx} {h0 : PH}
theorem PN.app {Y Z : List Lx} (A : PN X h0 d F C om mk mk1 Y) (B : PN X h0 d F C om mk1 mk2 Z) : PN X h0 d F C om mk mk2 (Y ++ Z) := by
  intro pre post s h Q e p N K
  rw [List.append_assoc] at e
  refine A pre (Z ++ post) s h Q e p N (fun h1 N1 p1 => ?_)
  have e2 : X = (pre ++ Y) ++ (Z ++ post) := by rw [e, List.append_assoc]
  have l2 : (pre ++ Y).length = pre.length + Y.length := List.length_append
  rw [← l2] at N1 ⊢
  refine B (pre ++ Y) post _ h1 Q e2 p1 N1 (fun h2 N2 p2 => ?_)
  have l3 : (pre ++ Y).length + Z.length = pre.length + (Y ++ Z).length := by rw [List.length_append, List.length_append]; omega
  rw [l3] at N2 ⊢
  rw [← sn_app] at N2 p2
  exact K h2 N2 p2
theorem PN.nil : PN X h0 d F C om mk mk [] := fun pre post s h Q e p N K => K h N p
theorem PN.skip {x : Lx} (kX : kOK X) (B : NB L xs X h0) (hx : x.1 ≠ 38) : PN X h0 d F C om mk mk [x] := by
  intro pre post s h Q e p N K
  have hl : pre.length < X.length := by rw [e]; simp
  have hn : (lx X pre.length).1 ≠ 38 := by
    have := lx_app (pre := pre) (Y := [x]) (post := post) (j := 0) (Nat.succ_pos _)
    rw [Nat.add_zero] at this
    rw [e, this]; exact hx
  have es : sn s [x] = s := by
    show snx s x = s
    unfold snx
    rw [beq_no hx]; rfl
  rw [es] at K
  exact st0 kX B N hl hn (fun N1 => K h N1 p)
theorem PN.cons {x : Lx} {Y : List Lx} (kX : kOK X) (B : NB L xs X h0) (hx : x.1 ≠ 38) (A : PN X h0 d F C om mk mk1 Y) : PN X h0 d F C om mk mk1 (x :: Y) := PN.app (Y := [x]) (PN.skip kX B hx) A
/-- two tokens: what stands ahead, a name -/
theorem two_lx {pre post : List Lx} {x y : Lx} (e : X = pre ++ ([x, y] ++ post)) : lx X pre.length = x ∧ lx X (pre.length + 1) = y ∧ pre.length + 2 ≤ X.length := by
  have h1 := lx_app (pre := pre) (Y := [x, y]) (post := post) (j := 0) (Nat.succ_pos _)
  have h2 := lx_app (pre := pre) (Y := [x, y]) (post := post) (j := 1) (by show 1 < 2; decide)
  rw [← e, Nat.add_zero] at h1
  rw [← e] at h2
  refine ⟨h1, h2, ?_⟩
  rw [e, List.length_append, List.length_append]
  show pre.length + 2 ≤ pre.length + (2 + post.length)
  omega
theorem PN.ask {t k b : Nat} (kX : kOK X) (B : NB L xs X h0) (ht : t = 3 ∨ t = 11 ∨ t = 12) (hk : k < F) (hk2 : k < 26) : PN X h0 d F C om mk mk [(t, 0, 1), (38, 102 * 32 + k, b)] := by
  intro pre post s h Q e p N K
  obtain ⟨q1, q2, q3⟩ := two_lx e
  refine st0 kX B N (by omega) (by rw [q1]; show t ≠ 38; omega) (fun N1 => ?_)
  have es : sn s [(t, 0, 1), (38, 102 * 32 + k, b)] = s := by
    show snx (snx s (t, 0, 1)) (38, 102 * 32 + k, b) = s
    rw [sn_name (by omega), sn_one (by omega)]; rfl
  rw [es] at K
  exact st_ask (t := t) (k := k) kX B N1 (by omega) (by omega) (by rw [q2]; exact ⟨rfl, rfl, hk2, by decide⟩) (by rw [Nat.add_sub_cancel, q1]) ht hk (fun h1 N2 => K h1 N2 p)
theorem PN.ref {k : Nat} (kX : kOK X) (MC : NMC X) (B : NB L xs X h0) (hn : cn X X.length = n) (hk : k < n) (hn7 : n ≤ 7) (hc : k ≠ C) (hC : C < 16) : PN X h0 d F C om mk mk [(8, 0, 1), (38, 99 * 32 + k, 1)] := by
  intro pre post s h Q e p N K
  obtain ⟨q1, q2, q3⟩ := two_lx e
  refine st0 kX B N (by omega) (by rw [q1]; show 8 ≠ 38; decide) (fun N1 => ?_)
  have es : sn s [(8, 0, 1), (38, 99 * 32 + k, 1)] = s := by
    show snx (snx s (8, 0, 1)) (38, 99 * 32 + k, 1) = s
    rw [sn_name (by omega), sn_one (by decide)]; rfl
  rw [es] at K
  refine st_link (t := 8) (o := k) kX MC B N1 (by omega) (by omega) (by rw [q2]; exact ⟨rfl, rfl, by omega, by decide⟩) (by rw [Nat.add_sub_cancel, q1]) (by decide) (by omega) (by omega) hC hc (fun h1 N2 => ?_)
  rw [lkm8] at N2
  exact K h1 N2 p
theorem PN.link {t k : Nat} (kX : kOK X) (MC : NMC X) (B : NB L xs X h0) (hn : cn X X.length = n) (ht : t = 5 ∨ t = 6 ∨ t = 7) (hk : k < n) (hn7 : n ≤ 7) (hc : k ≠ C) (hC : C < 16) : PN X h0 d F C om mk (lkm mk C t k) [(t, 0, 1), (38, 99 * 32 + k, 1)] := by
  intro pre post s h Q e p N K
  obtain ⟨q1, q2, q3⟩ := two_lx e
  refine st0 kX B N (by omega) (by rw [q1]; show t ≠ 38; omega) (fun N1 => ?_)
  have es : sn s [(t, 0, 1), (38, 99 * 32 + k, 1)] = s := by
    show snx (snx s (t, 0, 1)) (38, 99 * 32 + k, 1) = s
    rw [sn_name (by omega), sn_one (by omega)]; rfl
  rw [es] at K
  exact st_link (t := t) (o := k) kX MC B N1 (by omega) (by omega) (by rw [q2]; exact ⟨rfl, rfl, by omega, by decide⟩) (by rw [Nat.add_sub_cancel, q1]) (by omega) (by omega) (by omega) hC hc (fun h1 N2 => K h1 N2 p)
theorem PN.term {t k : Nat} (kX : kOK X) (B : NB L xs X h0) (ht : t = 9 ∨ t = 10) (hk : k < 6) : PN X h0 d F C om mk mk [(t, 0, 1), (38, 116 * 32 + k, 1)] := by
  intro pre post s h Q e p N K
  obtain ⟨q1, q2, q3⟩ := two_lx e
  refine st0 kX B N (by omega) (by rw [q1]; show t ≠ 38; omega) (fun N1 => ?_)
  have es : sn s [(t, 0, 1), (38, 116 * 32 + k, 1)] = ins s k := by
    show snx (snx s (t, 0, 1)) (38, 116 * 32 + k, 1) = _
    rw [sn_name (by omega), sn_one (by omega)]; rfl
  rw [es] at K
  exact st_term (t := t) (k := k) kX B N1 (by omega) (by omega) (by rw [q2]; exact ⟨rfl, rfl, by omega, by decide⟩) (by rw [Nat.add_sub_cancel, q1]) ht p.lt (fun h1 N2 => K h1 N2 (p.st hk))
theorem PN.i1 {Y : List Lx} (kX : kOK X) (MC : NMC X) (B : NB L xs X h0) (hn : cn X X.length = n) (hn7 : n ≤ 7) (hf : f ≤ 3) (hF : F = f) (hC : C < 16) (h : isI1 n f C Y) : PN X h0 d F C om mk mk Y := by
  rcases h with ⟨m, hm, e⟩ | ⟨k, hk, hc, e⟩ | ⟨t, k, ht, hk, e⟩ | ⟨q, m, hq, hm, e⟩
  · rw [e]; exact PN.skip kX B (by show 40 ≠ 38; decide)
  · rw [e]; exact PN.ref kX MC B hn hk hn7 hc hC
  · rw [e]; exact PN.term kX B ht hk
  · rw [e]
    refine PN.app (Y := [(11, 0, 1), (38, 102 * 32 + q, 0)]) (PN.ask kX B (by decide) (by omega) (by omega)) ?_
    exact PN.cons kX B (by show 31 ≠ 38; decide) (PN.cons kX B (by show 39 ≠ 38; decide) (PN.cons kX B (by show 30 ≠ 38; decide) (PN.cons kX B (by show 39 ≠ 38; decide) (PN.skip kX B (by show 27 ≠ 38; decide)))))
theorem PN.cat1 {P : List Lx → Prop} (hP : ∀ Y, P Y → PN X h0 d F C om mk mk Y) : ∀ (k : Nat) (Z : List Lx), cat P k Z → PN X h0 d F C om mk mk Z
  | 0, Z, c => by
    have : Z = [] := c
    rw [this]; exact PN.nil
  | k + 1, Z, c => by
    rcases c with c | ⟨Y, W, e, p, c⟩
    · rw [c]; exact PN.nil
    · rw [e]; exact PN.app (hP Y p) (PN.cat1 hP k W c)
theorem PN.bl {P : List Lx → Prop} {k : Nat} {Y : List Lx} (kX : kOK X) (B : NB L xs X h0) (hP : ∀ Y, P Y → PN X h0 d F C om mk mk Y) (b : isB P k Y) : PN X h0 d F C om mk mk Y := by
  obtain ⟨Z, z, e⟩ := b
  rw [e]
  exact PN.cons kX B (by show 21 ≠ 38; decide) (PN.app (PN.cat1 hP k Z z) (PN.skip kX B (by show 22 ≠ 38; decide)))
theorem PN.i0 {Y : List Lx} (kX : kOK X) (MC : NMC X) (B : NB L xs X h0) (hn : cn X X.length = n) (hn7 : n ≤ 7) (hf : f ≤ 3) (hF : F = f) (hC : C < 16) (h : isI0 n f C Y) : PN X h0 d F C om mk mk Y := by
  have bl : ∀ Z, isB1 n f C Z → PN X h0 d F C om mk mk Z := fun Z b => PN.bl kX B (fun _ y => PN.i1 kX MC B hn hn7 hf hF hC y) b
  rcases h with h | ⟨q, m, B1, B2, hq, hm, b1, b2, e⟩ | ⟨B1, B2, b1, b2, e⟩
  · exact PN.i1 kX MC B hn hn7 hf hF hC h
  · rw [e]
    refine PN.app (PN.app (Y := [(12, 0, 1), (38, 102 * 32 + q, 0)]) (Z := [(34, 0, 0), (39, m, 1)]) (PN.ask kX B (by decide) (by omega) (by omega)) (PN.cons kX B (by show 34 ≠ 38; decide) (PN.skip kX B (by show 39 ≠ 38; decide)))) ?_
    exact PN.app (bl B1 b1) (PN.cons kX B (by show 13 ≠ 38; decide) (bl B2 b2))
  · rw [e]
    refine PN.cons kX B (by show 14 ≠ 38; decide) (PN.cons kX B (by show 21 ≠ 38; decide) (PN.cons kX B (by show 15 ≠ 38; decide) ?_))
    exact PN.app (Y := B1) (Z := (15, 0, 1) :: (B2 ++ [(22, 0, 1)])) (bl B1 b1) (PN.cons kX B (by show 15 ≠ 38; decide) (PN.app (Y := B2) (Z := [(22, 0, 1)]) (bl B2 b2) (PN.skip kX B (by show 22 ≠ 38; decide))))
theorem PN.b0 {Y : List Lx} (kX : kOK X) (MC : NMC X) (B : NB L xs X h0) (hn : cn X X.length = n) (hn7 : n ≤ 7) (hf : f ≤ 3) (hF : F = f) (hC : C < 16) (h : isB0 n f C Y) : PN X h0 d F C om mk mk Y := PN.bl kX B (fun _ y => PN.i0 kX MC B hn hn7 hf hF hC y) h
/-- the links of a clause, one after the other -/
def lkf (mk : Nat → Nat × Nat × Nat) (c : Nat) (l : List (Nat × Nat)) : Nat → Nat × Nat × Nat := l.foldl (fun m x => lkm m c x.1 x.2) mk
theorem PN.lk1 (kX : kOK X) (MC : NMC X) (B : NB L xs X h0) (hn : cn X X.length = n) (hn7 : n ≤ 7) (hC : C < 16) : ∀ (l : List (Nat × Nat)) (mq : Nat → Nat × Nat × Nat), (∀ x ∈ l, (x.1 = 5 ∨ x.1 = 6 ∨ x.1 = 7) ∧ x.2 < n ∧ x.2 ≠ C) → PN X h0 d F C om mq (lkf mq C l) (lkp l)
  | [], mq, _ => PN.nil
  | x :: l, mq, h => by
    obtain ⟨h1, h2, h3⟩ := h x List.mem_cons_self
    exact PN.app (Y := [(x.1, 0, 1), (38, 99 * 32 + x.2, 1)]) (PN.link kX MC B hn h1 h2 hn7 h3 hC) (PN.lk1 kX MC B hn hn7 hC l _ (fun y hy => h y (List.mem_cons_of_mem _ hy)))
theorem PN.wh {D : CLD} (kX : kOK X) (B : NB L xs X h0) (h1 : cl_t D ≤ F) (hF : F ≤ 3) : PN X h0 d F C om mk mk (cwh D) := by
  unfold cwh
  cases hz : Nat.beq (cl_t D) 0
  · have : cl_t D ≠ 0 := fun e => by rw [e] at hz; cases hz
    exact PN.app (Y := [(3, 0, 1), (38, 102 * 32 + (cl_t D - 1), 1)]) (PN.ask kX B (by decide) (by omega) (by omega)) (PN.cons kX B (by show 34 ≠ 38; decide) (PN.skip kX B (by show 39 ≠ 38; decide)))
  · exact PN.nil
theorem PN.op {D : CLD} (kX : kOK X) (B : NB L xs X h0) : PN X h0 d F C om mk mk (cop D) := by
  unfold cop
  cases hz : Nat.beq (cl_o D) 0
  · exact PN.cons kX B (by show 4 ≠ 38; decide) (PN.cons kX B (by show 39 ≠ 38; decide) (PN.skip kX B (by show 39 ≠ 38; decide)))
  · exact PN.nil
theorem cll_n {c : Nat} {D : CLD} (ok : okD n f c D) : ∀ x ∈ cll D, (x.1 = 5 ∨ x.1 = 6 ∨ x.1 = 7) ∧ x.2 < n ∧ x.2 ≠ c := by
  obtain ⟨-, -, -, -, -, -, -, -, a, b, e⟩ := ok
  intro x hx
  unfold cll at hx
  rcases List.mem_append.mp hx with q | q
  · obtain ⟨o, ho, rfl⟩ := List.mem_map.mp q; exact ⟨Or.inl rfl, a o ho⟩
  rcases List.mem_append.mp q with q | q
  · obtain ⟨o, ho, rfl⟩ := List.mem_map.mp q; exact ⟨Or.inr (Or.inl rfl), b o ho⟩
  · obtain ⟨o, ho, rfl⟩ := List.mem_map.mp q; exact ⟨Or.inr (Or.inr rfl), e o ho⟩
/-- a whole clause -/
theorem st_whole {Y pre post : List Lx} {D : CLD} {s : List Nat} {h : PH} {Q : Option Value → PH → Prop} (kX : kOK X) (MC : NMC X) (B : NB L xs X h0) (hn : cn X X.length = n) (hn7 : n ≤ 7) (hf : f ≤ 3) (hF : F = f) (hC : C < 7) (hC2 : C < n) (e : X = pre ++ (Y ++ post)) (hY : isC n f C D Y) (ho : p_im h0 (1047 + C) 0 = Int32.ofNat (cl_o D)) (hom : om < 2 ^ C) (p : P6 s) (N : NS X h0 pre.length F C s om mk h)
    (K : ∀ h1, NS X h0 (pre.length + Y.length) F (C + 1) (sn s Y) (om + cl_o D * 2 ^ C) (lkf mk C (cll D)) h1 → P6 (sn s Y) → LK d (pre.length + Y.length) h1 Q) : LK d pre.length h Q := by
  obtain ⟨ok, Bl, b, eY⟩ := hY
  have eY2 : Y = [(2, 0, 1), (38, 99 * 32 + C, 1)] ++ (cwh D ++ (cop D ++ (lkp (cll D) ++ Bl))) := by
    rw [eY]
    unfold chd
    rw [clk_lkp]
    simp only [List.append_assoc]
  have e2 : X = pre ++ ([(2, 0, 1), (38, 99 * 32 + C, 1)] ++ ((cwh D ++ (cop D ++ (lkp (cll D) ++ Bl))) ++ post)) := by rw [e, eY2, List.append_assoc]
  obtain ⟨q1, q2, q3⟩ := two_lx e2
  refine st0 kX B N (by omega) (by rw [q1]; show 2 ≠ 38; decide) (fun N1 => ?_)
  refine st_clause (o := cl_o D) kX MC B N1 (by omega) (by omega) (by rw [q2]; exact ⟨rfl, rfl, by omega, by decide⟩) (by rw [Nat.add_sub_cancel, q1]) hC (by omega) ho ok.2.2.1 hom (fun h2 N2 => ?_)
  have A : PN X h0 d F C (om + cl_o D * 2 ^ C) mk (lkf mk C (cll D)) (cwh D ++ (cop D ++ (lkp (cll D) ++ Bl))) :=
    PN.app (PN.wh kX B (by rw [hF]; exact ok.1) (by omega)) (PN.app (PN.op kX B) (PN.app (PN.lk1 kX MC B hn hn7 (by omega) (cll D) mk (cll_n ok)) (PN.b0 kX MC B hn hn7 hf hF (by omega) b)))
  have e3 : X = (pre ++ [(2, 0, 1), (38, 99 * 32 + C, 1)]) ++ ((cwh D ++ (cop D ++ (lkp (cll D) ++ Bl))) ++ post) := by rw [e2, List.append_assoc pre]
  have l3 : (pre ++ [((2, 0, 1) : Lx), (38, 99 * 32 + C, 1)]).length = pre.length + 1 + 1 := by rw [List.length_append]; rfl
  rw [← l3] at N2
  have z := A _ post s h2 Q e3 p N2 (fun h3 N3 p3 => ?_)
  · rw [l3] at z; exact z
  · have es : sn s Y = sn s (cwh D ++ (cop D ++ (lkp (cll D) ++ Bl))) := by
      rw [eY2, sn_app]
      show sn (snx (snx s (2, 0, 1)) (38, 99 * 32 + C, 1)) _ = _
      rw [sn_name (by omega), sn_one (by decide)]; rfl
    have el : (pre ++ [((2, 0, 1) : Lx), (38, 99 * 32 + C, 1)]).length + (cwh D ++ (cop D ++ (lkp (cll D) ++ Bl))).length = pre.length + Y.length := by rw [l3, eY2]; show _ = pre.length + ((cwh D ++ (cop D ++ (lkp (cll D) ++ Bl))).length + 1 + 1); omega
    rw [es] at K
    rw [el] at N3 ⊢
    exact K h3 N3 p3
end NS3
