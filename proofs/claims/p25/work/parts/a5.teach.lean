/-! A desk is taught. -/
/-- the desk's own references, before it has been taught and behind it -/
def R0K (h : PH) (l3 l4 : Nat) : Prop := p_rm h 1000 0 = 1001 ∧ p_rm h 1000 3 = l3 ∧ p_rm h 1000 4 = l4 ∧ p_rm h 1000 5 = 1066 ∧ p_rm h 1000 8 = 1067 ∧ p_rm h 1000 9 = 1087 ∧ p_rm h 1000 10 = 1107 ∧ p_rm h 1000 11 = 1110 ∧ p_rm h 1000 12 = 1112
def w27 (a : Nat) : Prop := a = 1000 ∨ a = 1066 ∨ wD 1112 a
def wr27 (a : Nat) : Prop := a = 1000
section TEACH
variable {d L n f : Nat} {xs : Nat → Int32} {X Z : List Lx} {h h1 g : PH} {vs : List Nat} {Ds : List CLD} {Q : Int32 → PH → Prop}
theorem kOK_of : ∀ {X : List Lx}, tlok X → kOK X := by
  have one : ∀ x : Lx, okx x → 1 ≤ x.1 ∧ x.1 ≤ 43 := fun x h => by
    rcases h with ⟨h, -⟩ | ⟨h, -⟩ | ⟨h, -⟩ | ⟨h, -⟩
    · rw [h]; decide
    · rw [h]; decide
    · rw [h]; decide
    · have := (kw1_lt h).1
      exact (by decide : ∀ k, k < 44 → (kw1 k = true ∨ ks1 k = true) → 1 ≤ k ∧ k ≤ 43) x.1 this h
  intro X
  induction X with
  | nil => intro _ x hx; exact absurd hx List.not_mem_nil
  | cons a r ih =>
    intro h x hx
    cases r with
    | nil =>
      rcases List.mem_cons.mp hx with q | q
      · rw [q]; exact one a h.1
      · exact absurd q List.not_mem_nil
    | cons b r =>
      rcases List.mem_cons.mp hx with q | q
      · rw [q]; exact one a h.1
      · exact ih h.2.2 x q
theorem lx_mem5 {H : List Lx} {j : Nat} (hj : j < H.length) : lx H j ∈ H := by
  unfold lx
  rw [List.getD_eq_getElem?_getD, List.getElem?_eq_getElem hj]
  exact List.getElem_mem _
theorem R0K.fr {Wi Wr : Nat → Prop} {a b : Nat} (R : R0K h a b) (F : FR Wi Wr h h1) (r : ¬ Wr 1000) : R0K h1 a b := by
  have e : ∀ j, p_rm h1 1000 j = p_rm h 1000 j := fun j => F.rm r j
  unfold R0K
  rw [e, e, e, e, e, e, e, e, e]
  exact R
theorem tk_in {S i : Nat} {F : Nat} (e : p_im g 1036 6 = Int32.ofNat S) (hS : S ≤ 601) (hi : i < S) : tk g F (Int32.ofNat i) = p_im g F i := by
  have i31 : i < 2147483648 := by omega
  have s31 : S < 2147483648 := by omega
  unfold tk
  rw [if_neg (i_neg i31), e, if_pos (by rw [i_lt i31 s31]; exact hi), i_nat i31]
/-- what a library is known to be once its names are looked at -/
theorem kno_of {h0 : PH} {om nt : Nat} {base : Nat → Nat × Nat × Nat} (kX : kOK X) (hn7 : n ≤ 7) (hn0 : 0 < n) (hf : f ≤ 3) (hf0 : 0 < f) (hD : Ds.length = n) (hZ : isCs n f 0 Ds Z) (B : NB L xs X g) (N : NS X h0 X.length f n (sn [] Z) om (mkD base Ds) g) (M : OMx Ds om) (P : P6 (sn [] Z)) (CV : CVI X g)
    (G : ∀ c, c < n → ∃ pre post, X = pre ++ (chead (Ds.getD c D0) ++ post) ∧ p_im g (1047 + c) 5 = Int32.ofNat pre.length ∧ p_im g (1047 + c) 6 = Int32.ofNat (pre.length + (chead (Ds.getD c D0)).length)) (hnt : nt = (sn [] Z).length) :
    KNO g f n (fun c => msk (cl_N (Ds.getD c D0))) (fun c => msk (cl_B (Ds.getD c D0))) (fun c => msk (cl_A (Ds.getD c D0))) om nt (fun c => hxm (chead (Ds.getD c D0))) ∧ OKG g nt := by
  obtain ⟨n1, n2, n3, n4, n5, n6', n7, n8, n9, n10, n11, n12, n13⟩ := N
  obtain ⟨C, O, LB, GR, W⟩ := B
  obtain ⟨w1, w2, w3, w4, w5⟩ := W
  obtain ⟨c1, c2, c3⟩ := CV
  have hnt6 : nt ≤ 6 := by unfold P6 at P; omega
  have s601 : X.length + 1 ≤ 601 := by omega
  have LN : LNB g := ⟨⟨_, w1.2.2.2.2.2.1, w1.2.2.2.2.1⟩, ⟨_, s601, w4⟩, ⟨_, c2, c1, fun i hi => ⟨(c3 i hi).1, (c3 i hi).2.1⟩⟩⟩
  refine ⟨⟨⟨hn7, hn0, n6', n11, by rw [← hD]; exact M.1, fun c hc => ?_⟩, by rw [hnt]; exact n8, by omega, fun c hc => ?_, n3, hf0, hf⟩, LN, fun t ht => ?_⟩
  · have ok := isCs_ok Ds 0 Z hZ c (by omega)
    obtain ⟨-, -, -, -, -, -, -, -, oN, oB, oA⟩ := ok
    obtain ⟨m1, m2, m3⟩ := n12 c (by omega)
    have e : mkD base Ds c = (msk (cl_N (Ds.getD c D0)), msk (cl_B (Ds.getD c D0)), msk (cl_A (Ds.getD c D0))) := by unfold mkD; rw [if_pos (by omega)]
    rw [e] at m1 m2 m3
    exact ⟨⟨m1, msk_lt (fun o ho => (oN o ho).1)⟩, ⟨m2, msk_lt (fun o ho => (oB o ho).1)⟩, m3, msk_lt (fun o ho => (oA o ho).1)⟩
  · obtain ⟨pre, post, e, g5, g6⟩ := G c hc
    have ok := isCs_ok Ds 0 Z hZ c (by omega)
    have ps := PRS.chd ok
    have el : X.length = pre.length + ((chead (Ds.getD c D0)).length + post.length) := by rw [e, List.length_append, List.length_append]
    refine ⟨pre.length, X.length + 1, g5, by rw [hxm_len]; exact g6, w4, s601, by rw [hxm_len]; omega, fun j hj => ?_⟩
    rw [hxm_len] at hj
    rw [hxm_get _ _ hj]
    have lj : ∀ i, i < (chead (Ds.getD c D0)).length → lx X (pre.length + i) = lx (chead (Ds.getD c D0)) i := fun i hi => by rw [e]; exact lx_app hi
    have jX : pre.length + j < X.length := by omega
    have k1 := (w2 _ jX).1
    rw [lj j hj] at k1
    have km : lx (chead (Ds.getD c D0)) j ∈ X := by
      rw [e]
      exact List.mem_append_right _ (List.mem_append_left _ (lx_mem5 hj))
    refine ⟨k1, (kX _ km).1, (kX _ km).2, fun hk => ?_⟩
    obtain ⟨j1, o, o1, o2⟩ := ps j hj hk
    have jX1 : pre.length + (j + 1) < X.length := by omega
    have l1 := lj (j + 1) j1
    rw [o2] at l1
    have mm := (n13 (pre.length + (j + 1)) (by omega) jX1 jX1 (by rw [l1])).1 (by rw [show pre.length + (j + 1) - 1 = pre.length + j from by omega, lj j hj]; exact hk)
    rw [l1] at mm
    have mm : p_im g 1041 (pre.length + (j + 1)) = Int32.ofNat (99 * 32 + o - 99 * 32) := mm
    rw [show pre.length + j + 1 = pre.length + (j + 1) from by omega, tk_in w4 s601 (by omega), mm, o2]
    refine ⟨rfl, ?_⟩
    show 99 * 32 + o - 99 * 32 < 16
    omega
  · unfold kdS at ht
    by_cases z0 : t < 0
    · rw [if_pos z0] at ht; omega
    rw [if_neg z0] at ht
    by_cases z1 : t < p_im g 1042 2
    · rw [if_pos z1] at ht
      have z2 := z1
      rw [c1] at z2
      have hin := in_of z0 z2 c2 (by decide)
      have hlt : t.toNatClampNeg < sz g := by
        have h3 := (Int32.lt_iff_toInt_lt).mp z2
        rw [i_int (by omega)] at h3
        have h4 : t.toNatClampNeg = t.toInt.toNat := rfl
        have h5 := hin.1
        omega
      obtain ⟨-, -, q3⟩ := c3 _ hlt
      obtain ⟨o, q4, q5, q6, q7, q8⟩ := q3 ht
      have q7 : (lx X o).1 = 38 := q7
      have q8 : (lx X (o - 1)).1 = _ := q8
      obtain ⟨y, y1, y2⟩ := (n13 o q6 q5 q5 q7).2 (by rw [q8]; exact ht)
      refine ⟨y, by rw [hnt]; exact y1, ?_⟩
      unfold tm opS
      rw [if_neg z0, if_pos z1, q4, tk_in w4 s601 (by omega), y2]
      have y31 : y < 2147483648 := by omega
      by_cases u : 0 < Int32.ofNat y
      · rw [if_pos u]
      · rw [if_neg u]
        have u2 : ¬ Int32.ofNat 0 < Int32.ofNat y := u
        rw [i_lt (by decide) y31] at u2
        have y0 : y = 0 := by omega
        rw [y0]; rfl
    · rw [if_neg z1] at ht; omega
theorem l127 {Q : Option Value → PH → Prop} : ∀ (k i : Nat) (h : PH), i + k = 10 → DKO h → R0K h 1034 1002 → (∀ h1, FR w27 w0 h h1 → p_im h1 1000 6 = 0 → p_im h1 1000 7 = 0 → Q none h1) →
    wp (d + 3) 127 12 [.val (.ref 1000), .unset, .val (.int (Int32.ofNat i))] [] h Q := by
  intro k
  induction k with
  | zero =>
    intro i h hi D R K
    have e : i = 10 := by omega
    obtain ⟨r0, r3, r4, r5, r8, r9, r10, r11, r12⟩ := R
    rw [r127_12, e, if_neg (by decide)]
    have F1 : FR (fun a => a = 1000) w0 h (p_wi (p_wi h 1000 6 0) 1000 7 0) := FR.tr (FR.wi (Wi := fun a => a = 1000) (Wr := w0) (a := 1000) _ rfl) (FR.wi (a := 1000) _ rfl)
    have D1 : DKO (p_wi (p_wi h 1000 6 0) 1000 7 0) := D.fr F1 (fun _ q => q.elim)
    have i6 : p_im (p_wi (p_wi h 1000 6 0) 1000 7 0) 1000 6 = 0 := by rw [wi_im, if_neg (fun z => absurd z.2 (by decide)), wi_im, if_pos ⟨rfl, rfl⟩]
    have i7 : p_im (p_wi (p_wi h 1000 6 0) 1000 7 0) 1000 7 = 0 := by rw [wi_im, if_pos ⟨rfl, rfl⟩]
    have k0 : p_kd (p_wi h 1000 6 0) 1000 = 1 := D.2.2.1
    have rr : p_rm (p_wi (p_wi h 1000 6 0) 1000 7 0) 1000 12 = 1112 := r12
    rw [rr]
    refine ⟨⟨D.2.2.1, Nat.le_refl _⟩, ⟨k0, Nat.le_refl _⟩, ⟨D1.2.2.1, by decide⟩, ⟨D1.kpt.1, by decide⟩, s126 (d := d + 1) D1.kpt (fun h1 F2 _ _ _ _ => ?_)⟩
    have w10 : ¬ wD 1112 1000 := by unfold wD; omega
    exact K h1 ((F1.up (fun a q => Or.inl q) (fun _ q => q)).tr (F2.up (fun a q => Or.inr (Or.inr q)) (fun _ q => q))) ((F2.im w10 6).trans i6) ((F2.im w10 7).trans i7)
  | succ k ih =>
    intro i h hi D R K
    have i10 : i < 10 := by omega
    have i31 : i < 2147483648 := by omega
    obtain ⟨r0, r3, r4, r5, r8, r9, r10, r11, r12⟩ := id R
    obtain ⟨o1, o2, o3, o4, o5, o6, o7, o8, -⟩ := D.lbo
    have e66 := D.ob (a := 1066) (k := 100) (l := 10) (by decide +kernel)
    have hin : p_in (Int32.ofNat i) 10 := i_in i10 (by decide)
    rw [r127_12, if_pos (by rw [show (10 : Int32) = Int32.ofNat 10 from rfl, i_lt i31 (by decide)]; exact i10), r3, r5, o4, o7, o8, e66.1, e66.2, i_nat i31, i_inc]
    have F1 : FR (fun a => a = 1066) w0 h (p_wi h 1066 i (p_im h 1063 i)) := FR.wi _ rfl
    exact ⟨⟨D.2.2.1, by decide⟩, ⟨D.2.2.1, by decide⟩, ⟨o1, by decide⟩, ⟨⟨by decide, by decide⟩, hin⟩, ⟨⟨rfl, by decide⟩, hin⟩, ih (i + 1) _ (by omega) (D.fr F1 (fun _ q => q.elim)) (R.fr F1 (fun q => q)) (fun h1 F2 a b => K h1 ((F1.up (fun a q => Or.inr (Or.inl q)) (fun _ q => q)).tr F2) a b)⟩
theorem s127 {Q : PH → Prop} (D : DKO h) (R : R0K h 1002 1034) (K : ∀ h1, FR w27 wr27 h h1 → R0K h1 1034 1002 → p_im h1 1000 6 = 0 → p_im h1 1000 7 = 0 → Q h1) : CV (d + 4) 127 [.ref 1000] h Q := by
  obtain ⟨r0, r3, r4, r5, r8, r9, r10, r11, r12⟩ := id R
  have F1 : FR w27 wr27 h (p_wr (p_wr h 1000 3 1034) 1000 4 1002) := FR.tr (FR.wr (Wi := w27) (Wr := wr27) (a := 1000) _ rfl) (FR.wr (a := 1000) _ rfl)
  have D1 : DKO (p_wr (p_wr h 1000 3 1034) 1000 4 1002) := D.fr F1 (fun _ q => Or.inl q)
  have rj : ∀ j, j ≠ 3 → j ≠ 4 → p_rm (p_wr (p_wr h 1000 3 1034) 1000 4 1002) 1000 j = p_rm h 1000 j := fun j a b => by rw [wr_rm, if_neg (fun q => b q.2), wr_rm, if_neg (fun q => a q.2)]
  have R1 : R0K (p_wr (p_wr h 1000 3 1034) 1000 4 1002) 1034 1002 := by
    refine ⟨(rj 0 (by decide) (by decide)).trans r0, ?_, ?_, (rj 5 (by decide) (by decide)).trans r5, (rj 8 (by decide) (by decide)).trans r8, (rj 9 (by decide) (by decide)).trans r9, (rj 10 (by decide) (by decide)).trans r10, (rj 11 (by decide) (by decide)).trans r11, (rj 12 (by decide) (by decide)).trans r12⟩
    · rw [wr_rm, if_neg (fun q => absurd q.2 (by decide)), wr_rm, if_pos ⟨rfl, rfl⟩]
    · rw [wr_rm, if_pos ⟨rfl, rfl⟩]
  have k0 : p_kd (p_wr h 1000 3 1034) 1000 = 1 := D.2.2.1
  rw [e127, r3, r4]
  refine ⟨⟨D.2.2.1, by decide⟩, ⟨D.2.2.1, by decide⟩, ⟨D.2.2.1, Nat.le_refl _⟩, ⟨k0, Nat.le_refl _⟩, ?_⟩
  refine l127 (d := d) (Q := fun v h1 => onV v (Q h1)) 10 0 _ rfl D1 R1 (fun h1 F2 a b => K h1 (F1.tr (F2.up (fun _ q => q) (fun _ q => q.elim))) ?_ a b)
  exact R1.fr F2 (fun q => q)
theorem s162 (C : CO L xs h) (D : DKO h) (R : R0K h 1002 1034) (e1 : p_im h 1000 1 = Int32.ofNat (lbn X).length) (ev : ∀ i, i < (lbn X).length → p_im h 1001 i = Int32.ofNat ((lbn X).getD i 0)) (hl : (lbn X).length ≤ 3000) (ok : tlok X) (hX : X.length ≤ 600) (eX : X = fcts 0 vs ++ Z) (hv : vs.length = f) (hf : f ≤ 3) (hf0 : 0 < f) (hD : Ds.length = n) (hn7 : n ≤ 7) (hn0 : 0 < n) (hZ : isCs n f 0 Ds Z)
    (K : ∀ g h1 om nt, nt = (sn [] Z).length → nt ≤ 6 → OMx Ds om → KNO g f n (fun c => msk (cl_N (Ds.getD c D0))) (fun c => msk (cl_B (Ds.getD c D0))) (fun c => msk (cl_A (Ds.getD c D0))) om nt (fun c => hxm (chead (Ds.getD c D0))) → OKG g nt →
      (∀ c, c < n → p_im g (1047 + c) 0 = Int32.ofNat (cl_o (Ds.getD c D0)) ∧ p_im g (1047 + c) 1 = (bif Nat.beq (cl_o (Ds.getD c D0)) 0 then 0 else Int32.ofNat (cl_g (Ds.getD c D0)) - Int32.ofNat (cl_b (Ds.getD c D0)))) →
      p_nx h1 = p_nx h → p_us h1 = p_us h → Ext h h1 (fun a => 1000 ≤ a ∧ a < 1120) → (∃ fv, DES L xs g n (fun c => msk (cl_N (Ds.getD c D0))) (fun c => msk (cl_A (Ds.getD c D0))) om nt (fun c => hxm (chead (Ds.getD c D0))) fv 0 0 h1) → Q 0 h1) : CI (d + 15) 162 [.ref 1000] h Q := by
  have kX := kOK_of ok
  obtain ⟨r0, r3, r4, r5, r8, r9, r10, r11, r12⟩ := id R
  have k1 : p_kd h 1000 = 1 := D.2.2.1
  have k34 := D.lbo.1
  have k01 := D.ob (a := 1001) (k := 120) (l := 3000) (by decide +kernel)
  rw [e162, r0, r4, e1]
  refine ⟨⟨k1, by decide⟩, ⟨k1, by decide⟩, ⟨k1, by decide⟩, ⟨k34, by decide⟩, s77 (d := d + 5) C D.tok0 k34 D.lbo.2.1 hX ok hl k01.1 k01.2 ev (fun h1 F1 T1 N1 z7 z8 z9 z10 => ?_)⟩
  have FA : FR (fun a => wO a ∨ a = 1000) wTr h (p_wi h1 1000 1 0) := (F1.up (fun _ q => Or.inl q) (fun _ q => q)).tr (FR.wi _ (Or.inr rfl))
  have FB : FR (fun a => a = 1000) w0 h1 (p_wi h1 1000 1 0) := FR.wi _ rfl
  have D2 : DKO (p_wi h1 1000 1 0) := D.fr FA (fun a q => Or.inr (Or.inl q))
  have R2 : R0K (p_wi h1 1000 1 0) 1002 1034 := R.fr FA (by unfold wTr; decide)
  have C2 : CO L xs (p_wi h1 1000 1 0) := C.fr FA (fun a ha q => by unfold wO wT at q; omega) (fun a ha q => by unfold wTr at q; omega)
  have N2 : TKN X (p_wi h1 1000 1 0) := N1.fr FB (fun q => q) (by decide) (by decide) (by decide) (by decide)
  have T2 : TXT (lbn X) (p_wi h1 1000 1 0) := T1.fr FB (by decide) (by decide) (fun q => q)
  have z7 : p_im (p_wi h1 1000 1 0) 1034 7 = 0 := (FB.im (by decide) 7).trans z7
  have z8 : p_im (p_wi h1 1000 1 0) 1034 8 = 0 := (FB.im (by decide) 8).trans z8
  have z9 : p_im (p_wi h1 1000 1 0) 1034 9 = 0 := (FB.im (by decide) 9).trans z9
  have z10 : p_im (p_wi h1 1000 1 0) 1034 10 = 0 := (FB.im (by decide) 10).trans z10
  have k1h : p_kd h1 1000 = 1 := by rw [F1.kd]; exact k1
  refine ⟨⟨k1h, Nat.le_refl _⟩, ?_⟩
  generalize p_wi h1 1000 1 0 = H2 at *
  rw [R2.2.2.1, D2.l0]
  refine ⟨⟨D2.2.2.1, by decide⟩, ⟨D2.lbo.1, by decide⟩, ⟨D2.k35, by decide⟩, s108 (d := d) kX eX (by omega) (by omega) hZ (D2.gs C2) N2 D2.grc (fun h3 G3 F3 GC3 => ?_)⟩
  have D3 : DKO h3 := D2.fr F3 (fun a q => Or.inr (Or.inr q))
  have R3 : R0K h3 1002 1034 := R2.fr F3 (by unfold wGr; decide)
  have n34 : ¬ (wC 1034 ∨ 1047 ≤ 1034 ∧ 1034 ≤ 1062) := by unfold wC; decide
  have T3 : TXT (lbn X) h3 := T2.fr F3 (by unfold wC; decide) (by unfold wC; decide) (by unfold wGr; decide)
  have B3 : NB L xs X h3 := ⟨G3.1.1, D3.toks, D3.lbo, D3.grc, TKW.of T3 G3.2.1⟩
  rw [if_neg (by decide), R3.2.2.1]
  refine ⟨⟨D3.2.2.1, by decide⟩, ⟨D3.lbo.1, by decide⟩, s123 (d := d + 8) kX eX hv hf hf0 hD hn7 hZ B3 (fun j hj => GC3 j (by omega)) ((F3.im n34 7).trans z7) ((F3.im n34 8).trans z8) ((F3.im n34 9).trans z9) ((F3.im n34 10).trans z10) (fun h4 om base N4 M4 P4 => ?_)⟩
  have F4 := N4.1
  have D4 : DKO h4 := D3.fr F4 (fun a q => q.elim)
  have R4 : R0K h4 1002 1034 := R3.fr F4 (fun q => q)
  have B4 : NB L xs X h4 := N4.b B3
  have x42 : ¬ wN 1042 := by unfold wN; omega
  have x44 : ¬ wN 1044 := by unfold wN; omega
  have V4 : CVI X h4 := by
    obtain ⟨v1, v2, v3⟩ := G3.2.2.1
    have es : sz h4 = sz h3 := by unfold sz; rw [F4.im x42]
    refine ⟨by rw [es, F4.im x42]; exact v1, by rw [es]; exact v2, fun i hi => ?_⟩
    rw [F4.rm (fun q => q), F4.im x44]
    exact v3 i (by rw [← es]; exact hi)
  have GG : ∀ c, c < n → ∀ j, j < 2 ∨ 4 < j → p_im h4 (1047 + c) j = p_im h3 (1047 + c) j := fun c hc => N4.2.1 c (by omega)
  obtain ⟨KN, OK⟩ := kno_of (nt := (sn [] Z).length) kX hn7 hn0 hf hf0 hD hZ B4 N4 M4 P4 V4 (fun c hc => by
    obtain ⟨⟨pre, post, q1, q2, q3⟩, -⟩ := GC3 c (by omega)
    exact ⟨pre, post, q1, by rw [GG c hc 5 (by decide)]; exact q2, by rw [GG c hc 6 (by decide)]; exact q3⟩) rfl
  have nt6 : (sn [] Z).length ≤ 6 := by unfold P6 at P4; omega
  have GF' : ∀ c, c < n → p_im h4 (1047 + c) 0 = Int32.ofNat (cl_o (Ds.getD c D0)) ∧ p_im h4 (1047 + c) 1 = (bif Nat.beq (cl_o (Ds.getD c D0)) 0 then 0 else Int32.ofNat (cl_g (Ds.getD c D0)) - Int32.ofNat (cl_b (Ds.getD c D0))) := fun c hc => by
    obtain ⟨-, q2, q3, -⟩ := GC3 c (by omega)
    exact ⟨by rw [GG c hc 0 (by decide)]; exact q2, by rw [GG c hc 1 (by decide)]; exact q3⟩
  have k4 : p_kd h4 1000 = 1 := D4.2.2.1
  rw [r162_20, R4.2.2.1]
  refine ⟨⟨k4, by decide⟩, ⟨D4.lbo.1, by decide⟩, ?_⟩
  rw [e124, if_pos rfl, if_pos rfl]
  have F5 : FR (fun a => a = 1000) w0 h4 (p_wi h4 1000 2 (-1)) := FR.wi _ rfl
  have D5 : DKO (p_wi h4 1000 2 (-1)) := D4.fr F5 (fun _ q => q.elim)
  have R5 : R0K (p_wi h4 1000 2 (-1)) 1002 1034 := R4.fr F5 (fun q => q)
  refine ⟨⟨k4, Nat.le_refl _⟩, ⟨D5.2.2.1, by decide⟩, ?_⟩
  generalize p_wi h4 1000 2 (-1) = H5 at *
  refine s127 (d := d + 10) D5 R5 (fun h6 F6 R6 i6 i7 => ?_)
  have D6 : DKO h6 := D5.fr F6 (fun a q => Or.inl q)
  have FC : FR w27 wr27 h4 h6 := (F5.up (fun _ q => Or.inl q) (fun _ q => q.elim)).tr F6
  have C6 : CO L xs h6 := B4.1.fr FC (fun a ha q => by unfold w27 wD at q; omega) (fun a ha q => by unfold wr27 at q; omega)
  have LI : LIB L xs h4 h6 := ⟨C6, D6.tok0, D6.lbo, D6.grc, D6.lcd, OK.1, fun a q1 q2 j => ⟨FC.im (by unfold w27 wD; omega) j, FC.rm (by unfold wr27; omega) j⟩⟩
  obtain ⟨q0, q3, q4, q5, q8, q9, q10, q11, q12⟩ := id R6
  have DK : DKS h6 := ⟨D6.2.2.1, ⟨q0, q3, q5, q8, q9, q10, q11⟩, D6.scb, D6.pgs, D6.now, D6.trial⟩
  obtain ⟨V, ent, hnt, hHX, -⟩ := id KN
  have k6 : p_kd h6 1000 = 1 := D6.2.2.1
  rw [q8, q3, q5, i6, i7]
  refine ⟨⟨k6, by decide⟩, ⟨k6, by decide⟩, ⟨k6, by decide⟩, ⟨k6, by decide⟩, ⟨k6, by decide⟩, ⟨D6.now.1, by decide⟩, s161 (d := d + 7) (ch := 0) (dr := 0) V LI D6.now (Nat.two_pow_pos n) ent hnt hHX (fun h7 F7 C7 N7 => ?_)⟩
  have w66 : ¬ wCt 1067 1066 := by unfold wCt; decide
  have w10 : ¬ wCt 1067 1000 := by unfold wCt; decide
  have nx : p_nx h7 = p_nx h := by rw [F7.1, FC.1, F4.1, F3.1, FA.1]
  have us : p_us h7 = p_us h := by rw [F7.2.1, FC.2.1, F4.2.1, F3.2.1, FA.2.1]
  refine K h4 h7 om _ rfl nt6 M4 KN OK GF' nx us ?_ ⟨p_im h6 1066, DES.rd LI DK F7 C7, funext (fun j => F7.im w66 j), ⟨(F7.im w10 6).trans i6, (F7.im w10 7).trans i7⟩, ⟨Nat.two_pow_pos n, Nat.two_pow_pos n⟩, fun i hi => absurd hi (by rw [Nat.zero_testBit]; decide), N7⟩
  have U : ∀ {Wi Wr : Nat → Prop} {a b : PH}, FR Wi Wr a b → (∀ x, Wi x → 1000 ≤ x ∧ x < 1120) → (∀ x, Wr x → 1000 ≤ x ∧ x < 1120) → Ext a b (fun x => 1000 ≤ x ∧ x < 1120) := fun F i r => F.ext.up (fun x _ q => q.elim (i x) (r x))
  refine ((((U FA (fun x q => ?_) (fun x q => ?_)).tr (U F3 (fun x q => ?_) (fun x q => ?_)) (fun _ _ q => q)).tr (U F4 (fun x q => ?_) (fun x q => ?_)) (fun _ _ q => q)).tr (U FC (fun x q => ?_) (fun x q => ?_)) (fun _ _ q => q)).tr (U F7 (fun x q => ?_) (fun x q => ?_)) (fun _ _ q => q)
  · unfold wO wT at q; omega
  · unfold wTr at q; omega
  · unfold wC at q; omega
  · unfold wGr at q; omega
  · unfold wN at q; omega
  · exact q.elim
  · unfold w27 wD at q; omega
  · unfold wr27 at q; omega
  · unfold wCt at q; omega
  · unfold wCs at q; omega
end TEACH
