/-- the clauses' objects -/
def GRC (h : PH) : Prop := p_rm h 1035 2 = 1045 ∧ p_kd h 1045 = 312 ∧ p_ln h 1045 = 16 ∧ ∀ c, c < 16 → p_rm h 1045 c = 1047 + c ∧ p_kd h (1047 + c) = 6
theorem GRC.fr {Wi Wr : Nat → Prop} {h h1 : PH} (G : GRC h) (F : FR Wi Wr h h1) (r1 : ¬ Wr 1035) (r2 : ¬ Wr 1045) : GRC h1 := by
  obtain ⟨g1, g2, g3, g4⟩ := G
  exact ⟨by rw [F.rm r1, g1], by rw [F.kd, g2], by rw [F.ln, g3], fun c hc => ⟨by rw [F.rm r2]; exact (g4 c hc).1, by rw [F.kd]; exact (g4 c hc).2⟩⟩
def chead (D : CLD) : List Lx := cwh D ++ (cop D ++ clk D)
/-- what is known of a clause that has been read -/
def GC (X : List Lx) (c : Nat) (D : CLD) (h : PH) : Prop := (∃ pre post, X = pre ++ (chead D ++ post) ∧ p_im h (1047 + c) 5 = Int32.ofNat pre.length ∧ p_im h (1047 + c) 6 = Int32.ofNat (pre.length + (chead D).length)) ∧ p_im h (1047 + c) 0 = Int32.ofNat (cl_o D) ∧
  p_im h (1047 + c) 1 = (bif Nat.beq (cl_o D) 0 then 0 else Int32.ofNat (cl_g D) - Int32.ofNat (cl_b D)) ∧ p_im h (1047 + c) 2 = 0 ∧ p_im h (1047 + c) 3 = 0 ∧ p_im h (1047 + c) 4 = 0
theorem GC.of {X : List Lx} {c : Nat} {D : CLD} {h h1 : PH} (G : GC X c D h) (e : ∀ j, p_im h1 (1047 + c) j = p_im h (1047 + c) j) : GC X c D h1 := by
  unfold GC
  rw [e, e, e, e, e, e, e]
  exact G
theorem cll_ok (D : CLD) : ∀ x ∈ cll D, x.1 = 5 ∨ x.1 = 6 ∨ x.1 = 7 := by
  intro x hx
  unfold cll at hx
  rcases List.mem_append.mp hx with q | q
  · obtain ⟨o, -, rfl⟩ := List.mem_map.mp q; exact Or.inl rfl
  rcases List.mem_append.mp q with q | q
  · obtain ⟨o, -, rfl⟩ := List.mem_map.mp q; exact Or.inr (Or.inl rfl)
  · obtain ⟨o, -, rfl⟩ := List.mem_map.mp q; exact Or.inr (Or.inr rfl)
theorem cll_len {n f c : Nat} {D : CLD} (ok : okD n f c D) : (cll D).length ≤ 5 := by
  obtain ⟨-, -, -, -, -, a, b, c, -⟩ := ok
  unfold cll
  rw [List.length_append, List.length_append, List.length_map, List.length_map, List.length_map]
  omega
theorem knd_B0 {n f c : Nat} {B R : List Lx} (b : isB0 n f c B) : knd (B ++ R) = 21 := by
  obtain ⟨Z, -, e⟩ := b
  rw [e]; rfl
theorem knd_lkp {n f c : Nat} {B R : List Lx} {l : List (Nat × Nat)} (b : isB0 n f c B) (hl : ∀ x ∈ l, x.1 = 5 ∨ x.1 = 6 ∨ x.1 = 7) : knd (lkp l ++ (B ++ R)) = 21 ∨ knd (lkp l ++ (B ++ R)) = 5 ∨ knd (lkp l ++ (B ++ R)) = 6 ∨ knd (lkp l ++ (B ++ R)) = 7 := by
  cases l with
  | nil => exact Or.inl (show knd (B ++ R) = 21 from knd_B0 b)
  | cons x l => exact Or.inr (hl x List.mem_cons_self)
theorem knd_cop {n f c : Nat} {B R : List Lx} {D : CLD} (b : isB0 n f c B) : knd (cop D ++ (lkp (cll D) ++ (B ++ R))) = 4 ∨ knd (cop D ++ (lkp (cll D) ++ (B ++ R))) = 21 ∨ knd (cop D ++ (lkp (cll D) ++ (B ++ R))) = 5 ∨ knd (cop D ++ (lkp (cll D) ++ (B ++ R))) = 6 ∨ knd (cop D ++ (lkp (cll D) ++ (B ++ R))) = 7 := by
  unfold cop
  cases Nat.beq (cl_o D) 0
  · exact Or.inl rfl
  · exact Or.inr (knd_lkp b (cll_ok D))
section G4
variable {d L n f c : Nat} {xs : Nat → Int32} {X R : List Lx} {D : CLD} {h : PH} {Q : Int32 → PH → Prop}
theorem s107 {Y : List Lx} (kX : kOK X) (G : GQ L xs X (Y ++ R) h) (O : GRC h) (hc : c < 16) (h4 : p_im h 1035 4 = Int32.ofNat c) (hY : isC n f c D Y) (K : ∀ h1, GQ L xs X R h1 → FR (fun x => wC x ∨ x = 1047 + c) wGr h h1 → p_im h1 1035 4 = Int32.ofNat (c + 1) → GC X c D h1 → Q 1 h1) : CI (d + 13) 107 [.ref 1035] h Q := by
  obtain ⟨ok, B, b, eY⟩ := hY
  obtain ⟨o1, o2, o3, o4⟩ := O
  obtain ⟨oc1, oc2⟩ := o4 c hc
  have lo : 1046 ≤ 1047 + c := by omega
  have hi : 1047 + c ≤ 1062 := by omega
  have a0 : ¬ 1047 + c = 0 := by omega
  have a1 : 1000 ≤ 1047 + c := by omega
  rw [e107, o1, o2, o3, h4, i_nat (by omega), oc1]
  refine ⟨G.g, G.g, ⟨by decide, by decide⟩, if_ltn (k := 16) rfl (by omega) (by decide) (fun _ => ⟨G.g, G.g, ⟨⟨by decide, by decide⟩, i_in hc (by decide)⟩, ?_⟩) (fun z => absurd hc z)⟩
  rw [r107_14, h4, i_ofNat1, i_add]
  -- the counter
  have F0 : FR wC wGr h (p_wi h 1035 4 (Int32.ofNat (c + 1))) := FR.wi (a := 1035) _ (Or.inl rfl)
  have es0 : sz (p_wi h 1035 4 (Int32.ofNat (c + 1))) = sz h := by
    show (p_im (p_wi h 1035 4 (Int32.ofNat (c + 1))) 1042 2).toNatClampNeg = _
    rw [wi_im, if_neg (by omega)]; rfl
  have G0 : GQ L xs X (Y ++ R) (p_wi h 1035 4 (Int32.ofNat (c + 1))) := by
    obtain ⟨v1, v2, v3⟩ := G.2.2.1
    obtain ⟨pre, e, p⟩ := G.2.2.2
    refine G.to F0 ⟨by rw [es0, wi_im, if_neg (by omega), v1], by rw [es0]; exact v2, fun i hi => ?_⟩ ⟨pre, e, by rw [wi_im, if_neg (by omega), p]⟩
    rw [es0] at hi
    rw [wi_rm, wi_im, if_neg (by omega)]
    exact v3 i hi
  have c0 : p_im (p_wi h 1035 4 (Int32.ofNat (c + 1))) 1035 4 = Int32.ofNat (c + 1) := by rw [wi_im, if_pos ⟨rfl, rfl⟩]
  have k0 : p_kd (p_wi h 1035 4 (Int32.ofNat (c + 1))) (1047 + c) = 6 := oc2
  refine ⟨G.g, G.g1, ⟨k0, a0⟩, ?_⟩
  generalize p_wi h 1035 4 (Int32.ofNat (c + 1)) = h0 at *
  -- the clause is cleared
  rw [e83]
  have W1 : GFc (1047 + c) (fun _ => True) h0 (p_wi (p_wi (p_wi (p_wi (p_wi h0 (1047 + c) 0 0) (1047 + c) 1 0) (1047 + c) 2 0) (1047 + c) 3 0) (1047 + c) 4 0) := ((((GFc.wi _ trivial lo).tr (GFc.wi _ trivial lo)).tr (GFc.wi _ trivial lo)).tr (GFc.wi _ trivial lo)).tr (GFc.wi _ trivial lo)
  have G1 := ((((G0.cw lo hi 0 0).cw lo hi 1 0).cw lo hi 2 0).cw lo hi 3 0).cw lo hi 4 0
  have z1 : ∀ j, j < 5 → p_im (p_wi (p_wi (p_wi (p_wi (p_wi h0 (1047 + c) 0 0) (1047 + c) 1 0) (1047 + c) 2 0) (1047 + c) 3 0) (1047 + c) 4 0) (1047 + c) j = 0 := fun j hj => by
    have : j = 0 ∨ j = 1 ∨ j = 2 ∨ j = 3 ∨ j = 4 := by omega
    rcases this with rfl | rfl | rfl | rfl | rfl
    · rw [wi_im, if_neg (by omega), wi_im, if_neg (by omega), wi_im, if_neg (by omega), wi_im, if_neg (by omega), wi_im, if_pos ⟨rfl, rfl⟩]
    · rw [wi_im, if_neg (by omega), wi_im, if_neg (by omega), wi_im, if_neg (by omega), wi_im, if_pos ⟨rfl, rfl⟩]
    · rw [wi_im, if_neg (by omega), wi_im, if_neg (by omega), wi_im, if_pos ⟨rfl, rfl⟩]
    · rw [wi_im, if_neg (by omega), wi_im, if_pos ⟨rfl, rfl⟩]
    · rw [wi_im, if_pos ⟨rfl, rfl⟩]
  refine ⟨⟨⟨k0, a1⟩, Or.inl rfl⟩, ⟨k0, a1⟩, ⟨k0, a1⟩, ⟨k0, a1⟩, ⟨k0, a1⟩, G1.g, ?_⟩
  have k1 : p_kd (p_wi (p_wi (p_wi (p_wi (p_wi h0 (1047 + c) 0 0) (1047 + c) 1 0) (1047 + c) 2 0) (1047 + c) 3 0) (1047 + c) 4 0) (1047 + c) = 6 := k0
  generalize p_wi (p_wi (p_wi (p_wi (p_wi h0 (1047 + c) 0 0) (1047 + c) 1 0) (1047 + c) 2 0) (1047 + c) 3 0) (1047 + c) 4 0 = h1 at *
  rw [eY] at G1
  have G1 : GQ L xs X ((2, 0, 1) :: (38, 99 * 32 + c, 1) :: (cwh D ++ (cop D ++ clk D) ++ B ++ R)) h1 := G1
  rw [clk_lkp, List.append_assoc, List.append_assoc, List.append_assoc] at G1
  refine s81 kX G1 rfl (fun h2 G2 F2 => ?_)
  rw [if_neg (by decide)]
  refine ⟨G2.g, s81 kX G2 rfl (fun h3 G3 F3 => ?_)⟩
  rw [if_neg (by decide)]
  have F13 := F2.tr F3
  have k3 : p_kd h3 (1047 + c) = 6 := by rw [F13.1.kd, k1]
  obtain ⟨pre, ep, pp⟩ := G3.2.2.2
  rw [pp]
  have G4 := G3.cw lo hi 5 (Int32.ofNat pre.length)
  have W4 : GFc (1047 + c) (fun j => j = 5) h1 (p_wi h3 (1047 + c) 5 (Int32.ofNat pre.length)) := (GFc.gf F13 lo).tr (GFc.wi _ rfl lo)
  have v4 : p_im (p_wi h3 (1047 + c) 5 (Int32.ofNat pre.length)) (1047 + c) 5 = Int32.ofNat pre.length := by rw [wi_im, if_pos ⟨rfl, rfl⟩]
  have k4 : p_kd (p_wi h3 (1047 + c) 5 (Int32.ofNat pre.length)) (1047 + c) = 6 := k3
  refine ⟨G3.g, ⟨k3, a1⟩, G4.g, ?_⟩
  generalize p_wi h3 (1047 + c) 5 (Int32.ofNat pre.length) = h4 at *
  have kn := knd_cop (D := D) (R := R) b
  refine s96 (d := d + 3) kX G4 k4 lo hi (by omega) (by omega) (by omega) (by omega) (by omega) (by omega) (by omega) (fun h5 G5 W5 => ?_)
  rw [if_neg (by decide)]
  have k5 : p_kd h5 (1047 + c) = 6 := by rw [W5.1.kd, k4]
  have kn2 := knd_lkp (R := R) b (cll_ok D)
  refine ⟨G5.g, s98 kX G5 k5 lo hi (by omega) (fun h6 G6 W6 q1 q2 => ?_)⟩
  rw [if_neg (by decide)]
  refine ⟨G6.g, s99 kX (by rw [knd_B0 b]; decide) (by rw [knd_B0 b]; decide) (by rw [knd_B0 b]; decide) (cll_ok D) (by have := cll_len ok; omega) G6 (fun h7 G7 F7 => ?_)⟩
  rw [if_neg (by decide)]
  have k7 : p_kd h7 (1047 + c) = 6 := by rw [F7.1.kd, W6.1.kd, k5]
  obtain ⟨pre7, ep7, pp7⟩ := G7.2.2.2
  have l7 : pre7 = pre ++ chead D := by
    have : pre7 ++ (B ++ R) = (pre ++ chead D) ++ (B ++ R) := by
      rw [← ep7, ep]
      unfold chead
      rw [clk_lkp]
      simp only [List.append_assoc]
    exact List.append_cancel_right this
  rw [pp7]
  have G8 := (G7.cw lo hi 6 (Int32.ofNat pre7.length)).cw lo hi 9 (p_im (p_wi h7 (1047 + c) 6 (Int32.ofNat pre7.length)) 1042 2)
  have G78 := G7.cw lo hi 6 (Int32.ofNat pre7.length)
  rw [G78.c.1]
  have W8 : GFc (1047 + c) (fun j => j = 6 ∨ j = 9) h7 (p_wi (p_wi h7 (1047 + c) 6 (Int32.ofNat pre7.length)) (1047 + c) 9 (p_im (p_wi h7 (1047 + c) 6 (Int32.ofNat pre7.length)) 1042 2)) := (GFc.wi _ (Or.inl rfl) lo).tr (GFc.wi _ (Or.inr rfl) lo)
  have v8 : p_im (p_wi (p_wi h7 (1047 + c) 6 (Int32.ofNat pre7.length)) (1047 + c) 9 (p_im (p_wi h7 (1047 + c) 6 (Int32.ofNat pre7.length)) 1042 2)) (1047 + c) 6 = Int32.ofNat pre7.length := by rw [wi_im, if_neg (by omega), wi_im, if_pos ⟨rfl, rfl⟩]
  have k78 : p_kd (p_wi h7 (1047 + c) 6 (Int32.ofNat pre7.length)) (1047 + c) = 6 := k7
  have k8 : p_kd (p_wi (p_wi h7 (1047 + c) 6 (Int32.ofNat pre7.length)) (1047 + c) 9 (p_im (p_wi h7 (1047 + c) 6 (Int32.ofNat pre7.length)) 1042 2)) (1047 + c) = 6 := k7
  refine ⟨G7.g, ⟨k7, a1⟩, G78.g, G78.c.2, ⟨k78, a1⟩, G8.g, ?_⟩
  generalize p_wi (p_wi h7 (1047 + c) 6 (Int32.ofNat pre7.length)) (1047 + c) 9 (p_im (p_wi h7 (1047 + c) 6 (Int32.ofNat pre7.length)) 1042 2) = h8 at *
  refine (BLM.b0 (d := d) kX b) _ h8 _ G8 (fun h9 G9 F9 => ?_)
  have k9 : p_kd h9 (1047 + c) = 6 := by rw [F9.1.kd, k8]
  rw [G9.c.1]
  have W14 : GFc (1047 + c) (fun j => j = 5 ∨ j = 7 ∨ j = 8) h1 h5 := (W4.up (fun _ q => Or.inl q)).tr (W5.up (fun _ q => Or.inr q))
  have W9 : GFc (1047 + c) (fun j => j = 10) h8 (p_wi h9 (1047 + c) 10 (p_im h9 1042 2)) := (GFc.gf F9 lo).tr (GFc.wi _ rfl lo)
  have W69 : GFc (1047 + c) (fun j => j = 6 ∨ j = 9 ∨ j = 10) h6 (p_wi h9 (1047 + c) 10 (p_im h9 1042 2)) := ((GFc.gf F7 lo).tr (W8.up (fun _ q => q.elim Or.inl (fun q => Or.inr (Or.inl q))))).tr (W9.up (fun _ q => Or.inr (Or.inr q)))
  refine ⟨G9.g, G9.c.2, ⟨k9, a1⟩, Or.inr rfl, K _ (G9.cw lo hi 10 _) ?_ ?_ ?_⟩
  · have e0 : FR (fun x => wC x ∨ x = 1047 + c) wGr h h0 := F0.up (fun _ q => Or.inl q) (fun _ q => q)
    exact ((((e0.tr W1.1).tr W14.1).tr W6.1).tr W69.1)
  · rw [W69.2.1, W6.2.1, W14.2.1, W1.2.1, c0]
  · have t5 : p_im (p_wi h9 (1047 + c) 10 (p_im h9 1042 2)) (1047 + c) 5 = Int32.ofNat pre.length := by rw [W69.2.2 5 (by omega), W6.2.2 5 (by omega), W5.2.2 5 (by omega), v4]
    have t6 : p_im (p_wi h9 (1047 + c) 10 (p_im h9 1042 2)) (1047 + c) 6 = Int32.ofNat pre7.length := by rw [W9.2.2 6 (by omega), v8]
    have t2 : ∀ j, j = 2 ∨ j = 3 ∨ j = 4 → p_im (p_wi h9 (1047 + c) 10 (p_im h9 1042 2)) (1047 + c) j = 0 := fun j hj => by rw [W69.2.2 j (by omega), W6.2.2 j (by omega), W14.2.2 j (by omega), z1 j (by omega)]
    have t0 : ∀ j, j = 0 ∨ j = 1 → p_im (p_wi h9 (1047 + c) 10 (p_im h9 1042 2)) (1047 + c) j = p_im h6 (1047 + c) j := fun j hj => by rw [W69.2.2 j (by omega)]
    have u0 : ∀ j, j = 0 ∨ j = 1 → p_im h5 (1047 + c) j = 0 := fun j hj => by rw [W14.2.2 j (by omega), z1 j (by omega)]
    refine ⟨⟨pre, B ++ R, ?_, t5, ?_⟩, ?_, ?_, t2 2 (by omega), t2 3 (by omega), t2 4 (by omega)⟩
    · rw [ep]
      unfold chead
      rw [clk_lkp]
      simp only [List.append_assoc]
    · rw [t6, l7, List.length_append]
    · rw [t0 0 (by omega)]
      have ho := ok.2.2.1
      cases hz : Nat.beq (cl_o D) 0
      · rw [(q2 hz).1]
        have : cl_o D ≠ 0 := fun e => by rw [e] at hz; cases hz
        rw [show cl_o D = 1 from by omega]; rfl
      · rw [(q1 hz).1, u0 0 (by omega), Nat.eq_of_beq_eq_true hz]; rfl
    · rw [t0 1 (by omega)]
      cases hz : Nat.beq (cl_o D) 0
      · exact (q2 hz).2
      · rw [(q1 hz).2, u0 1 (by omega)]; rfl
/-- all clauses -/
theorem k108 {Q : Option Value → PH → Prop} (kX : kOK X) : ∀ (Dr : List CLD) (Ds : List CLD) (k : Nat) (Z : List Lx) (h : PH), Ds.length + Dr.length ≤ 16 → isCs n f Ds.length Dr Z → k + Dr.length < 600 → GQ L xs X Z h → GRC h → p_im h 1035 4 = Int32.ofNat Ds.length → (∀ j, j < Ds.length → GC X j (Ds.getD j D0) h) →
    (∀ h1, GQ L xs X [] h1 → FR (fun x => wC x ∨ 1047 ≤ x ∧ x ≤ 1062) wGr h h1 → (∀ j, j < (Ds ++ Dr).length → GC X j ((Ds ++ Dr).getD j D0) h1) → Q (some (.int 1)) h1) →
    wp (d + 13) 108 13 [.val (.ref 1035), .val (.int 1), .val (.int (Int32.ofNat k))] [] h Q := by
  intro Dr
  induction Dr with
  | nil =>
    intro Ds k Z h hl hZ hk G O h4 P K
    have hZ : Z = [] := hZ
    rw [hZ] at G
    simp only [List.length_nil] at hk
    rw [r108_13, if_pos (by rw [show (600 : Int32) = Int32.ofNat 600 from rfl, i_lt (by omega) (by decide)]; omega), if_neg (by decide)]
    refine ⟨G.g, s80 kX G (by decide) (fun _ => ?_) (fun q => absurd rfl q)⟩
    rw [if_neg (by decide)]
    rw [List.append_nil] at K
    exact ⟨Or.inr rfl, K h G FR.rf P⟩
  | cons D Dr ih =>
    intro Ds k Z h hl hZ hk G O h4 P K
    obtain ⟨Y, W, e, hY, hW⟩ := hZ
    rw [e] at G
    simp only [List.length_cons] at hk hl
    have kn : knd (Y ++ W) = 2 := by
      obtain ⟨-, B, -, eY⟩ := hY
      rw [eY]; rfl
    rw [r108_13, if_pos (by rw [show (600 : Int32) = Int32.ofNat 600 from rfl, i_lt (by omega) (by decide)]; omega), if_neg (by decide)]
    refine ⟨G.g, s80 kX G (by decide) (fun q => by rw [kn] at q; cases q) (fun _ => ?_)⟩
    rw [if_pos rfl]
    refine ⟨G.g, s80 kX G (by decide) (fun q => by rw [kn] at q; cases q) (fun _ => ?_)⟩
    rw [if_pos rfl]
    refine ⟨G.g, s107 (d := d) kX G O (by omega) h4 hY (fun h1 G1 F1 c1 C1 => ?_)⟩
    rw [r108_31, i_ofNat1, i_add]
    have hlen : (Ds ++ [D]).length = Ds.length + 1 := by rw [List.length_append]; rfl
    have O1 := O.fr F1 (by unfold wGr; decide) (by unfold wGr; decide)
    refine ih (Ds ++ [D]) (k + 1) W h1 (by omega) (by rw [hlen]; exact hW) (by omega) G1 O1 (by rw [hlen]; exact c1) (fun j hj => ?_) (fun h2 G2 F2 P2 => K h2 G2 ?_ ?_)
    · rw [hlen] at hj
      by_cases hz : j < Ds.length
      · rw [getD_app1 hz]
        refine (P j hz).of (fun i => F1.im (fun q => ?_) i)
        unfold wC at q
        omega
      · obtain rfl : j = Ds.length + 0 := by omega
        rw [getD_app2]
        exact C1
    · exact (F1.up (fun a q => q.elim Or.inl (fun q => Or.inr (by omega))) (fun _ q => q)).tr F2
    · rw [List.append_assoc] at P2
      exact P2
/-- all facts, then all clauses -/
theorem l108 {Q : Option Value → PH → Prop} {Ds : List CLD} {Z : List Lx} (kX : kOK X) (hD : Ds.length ≤ 16) (hZ : isCs n f 0 Ds Z) : ∀ (vs : List Nat) (k j : Nat) (h : PH), k + vs.length + Ds.length < 600 → GQ L xs X (fcts j vs ++ Z) h → GRC h → p_im h 1035 4 = 0 →
    (∀ h1, GQ L xs X [] h1 → FR (fun x => wC x ∨ 1047 ≤ x ∧ x ≤ 1062) wGr h h1 → (∀ j, j < Ds.length → GC X j (Ds.getD j D0) h1) → Q (some (.int 1)) h1) →
    wp (d + 13) 108 13 [.val (.ref 1035), .val (.int 1), .val (.int (Int32.ofNat k))] [] h Q := by
  intro vs
  induction vs with
  | nil =>
    intro k j h hk G O h4 K
    simp only [List.length_nil] at hk
    exact k108 (d := d) (n := n) (f := f) kX Ds [] k Z h (by show 0 + Ds.length ≤ 16; omega) hZ (by omega) G O h4 (fun j hj => absurd hj (Nat.not_lt_zero _)) K
  | cons v vs ih =>
    intro k j h hk G O h4 K
    simp only [List.length_cons] at hk
    have G : GQ L xs X (fct j v ++ fcts (j + 1) vs ++ Z) h := G
    rw [List.append_assoc] at G
    have kn : knd (fct j v ++ (fcts (j + 1) vs ++ Z)) = 1 := rfl
    rw [r108_13, if_pos (by rw [show (600 : Int32) = Int32.ofNat 600 from rfl, i_lt (by omega) (by decide)]; omega), if_neg (by decide)]
    refine ⟨G.g, s80 kX G (by decide) (fun q => by rw [kn] at q; cases q) (fun _ => ?_)⟩
    rw [if_pos rfl]
    refine ⟨G.g, s80 kX G (by decide) (fun _ => ?_) (fun q => absurd kn q)⟩
    rw [if_neg (by decide)]
    refine ⟨G.g, s82 kX G (fun h1 G1 F1 => ?_)⟩
    rw [r108_31, i_ofNat1, i_add]
    exact ih (k + 1) (j + 1) h1 (by omega) G1 (O.fr F1.1 (by unfold wGr; decide) (by unfold wGr; decide)) (by rw [F1.2.1, h4]) (fun h2 G2 F2 P2 => K h2 G2 ((F1.1.up (fun _ q => Or.inl q) (fun _ q => q)).tr F2) P2)
theorem s108 {vs : List Nat} {Ds : List CLD} {Z : List Lx} (kX : kOK X) (eX : X = fcts 0 vs ++ Z) (hv : vs.length ≤ 20) (hD : Ds.length ≤ 16) (hZ : isCs n f 0 Ds Z) (S : GS L xs h) (N : TKN X h) (O : GRC h) (K : ∀ h1, GQ L xs X [] h1 → FR (fun x => wC x ∨ 1047 ≤ x ∧ x ≤ 1062) wGr h h1 → (∀ j, j < Ds.length → GC X j (Ds.getD j D0) h1) → Q 1 h1) : CI (d + 14) 108 [.ref 1035] h Q := by
  obtain ⟨g0, g00, g1, g2, g3, g4, g5⟩ := id S
  have F : FR wC wGr h (p_wi (p_wi (p_wi h 1035 5 0) 1035 4 0) 1042 2 0) := ((FR.wi (Wi := wC) (Wr := wGr) (a := 1035) _ (Or.inl rfl)).tr (FR.wi (a := 1035) _ (Or.inl rfl))).tr (FR.wi (a := 1042) _ (Or.inr (Or.inl rfl)))
  have es : sz (p_wi (p_wi (p_wi h 1035 5 0) 1035 4 0) 1042 2 0) = 0 := by
    show (p_im (p_wi (p_wi (p_wi h 1035 5 0) 1035 4 0) 1042 2 0) 1042 2).toNatClampNeg = 0
    rw [wi_im, if_pos ⟨rfl, rfl⟩]; decide
  have r1 : p_rm (p_wi (p_wi h 1035 5 0) 1035 4 0) 1035 1 = 1042 := g3
  have k1 : p_kd (p_wi (p_wi h 1035 5 0) 1035 4 0) = p_kd h := rfl
  have k2 : p_kd (p_wi h 1035 5 0) = p_kd h := rfl
  rw [e108, r1, k1, k2, g1, g4, e78, k1, g4]
  refine ⟨⟨rfl, by decide⟩, ⟨rfl, by decide⟩, ⟨rfl, by decide⟩, ⟨rfl, by decide⟩, ⟨rfl, by decide⟩, ?_⟩
  refine l108 (d := d) (n := n) (f := f) (Q := fun v h1 => onI v (fun x => Q x h1)) kX hD hZ vs 0 0 _ (by omega) ⟨S.fr F (fun _ => wC_lo) (fun _ => wGr_lo) (by unfold wGr; decide) (by unfold wGr; decide) (by unfold wGr; decide), N.fr F (by unfold wGr; decide) (by unfold wC; decide) (by unfold wC; decide) (by unfold wC; decide) (by unfold wC; decide), ⟨?_, by rw [es]; omega, fun i hi => by rw [es] at hi; omega⟩, [], eX, ?_⟩ (O.fr F (by unfold wGr; decide) (by unfold wGr; decide)) ?_ (fun h1 G1 F1 P1 => K h1 G1 ((F.up (fun _ q => Or.inl q) (fun _ q => q)).tr F1) P1)
  · rw [es, wi_im, if_pos ⟨rfl, rfl⟩]; rfl
  · rw [wi_im, if_neg (by omega), wi_im, if_neg (by omega), wi_im, if_pos ⟨rfl, rfl⟩]; rfl
  · rw [wi_im, if_neg (by omega), wi_im, if_pos ⟨rfl, rfl⟩]
end G4
