/-! A new desk's tape is empty; the whole law. -/
section MK4
variable {d a0 b : Nat} {h : PH} {Q : PH → Prop}
theorem AC.keep {h0 h2 : PH} {n u k s n1 u1 j v : Nat} {ob fd ob1 fd1 : List (Nat × Nat × Nat)} {own own1 : List (Nat × Nat)} (A : AC a0 b h0 h n u ob fd own) (B : AC (p_nx h) (p_nx h + 1) (p_new h k 0 s) h2 n1 u1 ob1 fd1 own1) (t : p_im h a0 1 = 0) : p_im (p_wr h2 a0 j v) a0 1 = 0 := by
  have lt : a0 < p_nx h := by have := A.2.1; have := A.2.2.1; omega
  have e := B.2.2.2.2.1.im (a := a0) (by rw [pn_nx]; omega) (fun q => by omega) 1
  rw [pn_im, if_neg (by omega)] at e
  exact e.trans t
theorem s10t (hk : p_kd h a0 = 1) (h1000 : 1000 ≤ a0) (hx : p_nx h = b) (ha : a0 < b) (hb : b ≤ 1500) (hu : p_us h ≤ 20000) (K : ∀ h1, AC a0 b h h1 119 31633 (obDk b) (fdDk b) (owDk b) → p_im h1 a0 1 = 0 → Q h1) : CV (d + 6) 10 [.ref a0] h Q := by
  have A0 : AC a0 b h h 0 0 [] [] [] := AC.nil hx ha
  have A1 := A0.row 120 3000 0 (by simp)
  have A2 := A1.int 1 0
  have A3 := A2.int 2 (-1)
  rw [e10]
  refine ⟨h1000, ⟨by decide, A0.room (by omega) (by omega) (by omega)⟩, A0.g1 hk h1000 _ _ _, A1.g2 hk h1000, A2.g2 hk h1000, ?_⟩
  have x3 := A3.2.2.1
  have u3 := A3.2.2.2.1
  have t3 : p_im (p_wi (p_wi (p_wr (p_new h 120 3000 3000) a0 0 (p_nx h)) a0 1 0) a0 2 (-1)) a0 1 = 0 := by rw [wi_im, if_neg (fun q => absurd q.2 (by decide)), wi_im, if_pos ⟨rfl, rfl⟩]
  generalize p_wi (p_wi (p_wr (p_new h 120 3000 3000) a0 0 (p_nx h)) a0 1 0) a0 2 (-1) = h3 at *
  refine ⟨A3.room (by omega) (by omega) (by omega), by omega, s4 (b := p_nx h3 + 1) (by rw [pn_kd, if_pos rfl]) (by omega) rfl (by omega) (by omega) (by rw [pn_us]; omega) (fun h4 B => ?_)⟩
  have A4 := A3.obj B (j := 3) (by simp)
  refine ⟨⟨(A3.sub B).k.trans hk, h1000⟩, ?_⟩
  have t5 : p_im (p_wr h4 a0 3 (p_nx h3)) a0 1 = 0 := A3.keep B t3
  rw [x3] at A4 t5 ⊢
  generalize p_wr h4 a0 3 _ = h5 at *
  have x5 := A4.2.2.1
  have u5 := A4.2.2.2.1
  refine ⟨A4.room (by omega) (by omega) (by omega), by omega, s4 (b := p_nx h5 + 1) (by rw [pn_kd, if_pos rfl]) (by omega) rfl (by omega) (by omega) (by rw [pn_us]; omega) (fun h6 B => ?_)⟩
  have A5 := A4.obj B (j := 4) (by simp)
  refine ⟨⟨(A4.sub B).k.trans hk, h1000⟩, ?_⟩
  have t7 : p_im (p_wr h6 a0 4 (p_nx h5)) a0 1 = 0 := A4.keep B t5
  rw [x5] at A5 t7 ⊢
  generalize p_wr h6 a0 4 _ = h7 at *
  have A6 := A5.row 100 10 5 (by simp)
  refine ⟨⟨by decide, A5.room (by omega) (by omega) (by omega)⟩, ?_⟩
  rw [r10_25]
  have A7 := A6.int 6 0
  have A8 := A7.int 7 0
  refine ⟨A5.g1 hk h1000 _ _ _, A6.g2 hk h1000, A7.g2 hk h1000, ?_⟩
  have x8 := A8.2.2.1
  have u8 := A8.2.2.2.1
  have t8 : p_im (p_wi (p_wi (p_wr (p_new h7 100 10 10) a0 5 (p_nx h7)) a0 6 0) a0 7 0) a0 1 = 0 := by
    have ne : a0 ≠ p_nx h7 := by have := A5.2.1; have := A5.2.2.1; omega
    rw [wi_im, if_neg (fun q => absurd q.2 (by decide)), wi_im, if_neg (fun q => absurd q.2 (by decide))]
    show p_im (p_new h7 100 10 10) a0 1 = 0
    rw [pn_im, if_neg ne]
    exact t7
  generalize p_wi (p_wi (p_wr (p_new h7 100 10 10) a0 5 (p_nx h7)) a0 6 0) a0 7 0 = h8 at *
  refine ⟨A8.room (by omega) (by omega) (by omega), by omega, s9 (m := 6000) (b := p_nx h8 + 1) (by decide) (by rw [pn_kd, if_pos rfl]) (by omega) rfl (by omega) (by omega) (by rw [pn_us]; omega) (fun h9 B => ?_)⟩
  have A9 := A8.obj B (j := 8) (by simp)
  refine ⟨⟨(A8.sub B).k.trans hk, h1000⟩, ?_⟩
  have t10 : p_im (p_wr h9 a0 8 (p_nx h8)) a0 1 = 0 := A8.keep B t8
  rw [x8] at A9 t10 ⊢
  generalize p_wr h9 a0 8 _ = h10 at *
  have x10 := A9.2.2.1
  have u10 := A9.2.2.2.1
  refine ⟨A9.room (by omega) (by omega) (by omega), by omega, s9 (m := 0) (b := p_nx h10 + 1) (by decide) (by rw [pn_kd, if_pos rfl]) (by omega) rfl (by omega) (by omega) (by rw [pn_us]; omega) (fun h11 B => ?_)⟩
  have A10 := A9.obj B (j := 9) (by simp)
  refine ⟨⟨(A9.sub B).k.trans hk, h1000⟩, ?_⟩
  have t12 : p_im (p_wr h11 a0 9 (p_nx h10)) a0 1 = 0 := A9.keep B t10
  rw [x10] at A10 t12 ⊢
  generalize p_wr h11 a0 9 _ = h12 at *
  have x12 := A10.2.2.1
  have u12 := A10.2.2.2.1
  refine ⟨A10.room (by omega) (by omega) (by omega), by omega, s6 (b := p_nx h12 + 1) (by rw [pn_kd, if_pos rfl]) (by omega) rfl (by omega) (by omega) (by rw [pn_us]; omega) (fun h13 B => ?_)⟩
  have A11 := A10.obj B (j := 10) (by simp)
  refine ⟨⟨(A10.sub B).k.trans hk, h1000⟩, ?_⟩
  have t14 : p_im (p_wr h13 a0 10 (p_nx h12)) a0 1 = 0 := A10.keep B t12
  rw [x12] at A11 t14 ⊢
  generalize p_wr h13 a0 10 _ = h14 at *
  have x14 := A11.2.2.1
  have u14 := A11.2.2.2.1
  refine ⟨A11.room (by omega) (by omega) (by omega), by omega, s7 (m := 0) (b := p_nx h14 + 1) (by decide) (by rw [pn_kd, if_pos rfl]) (by omega) rfl (by omega) (by omega) (by rw [pn_us]; omega) (fun h15 B => ?_)⟩
  have A12 := A11.obj B (j := 11) (by simp)
  refine ⟨⟨(A11.sub B).k.trans hk, h1000⟩, ?_⟩
  have t16 : p_im (p_wr h15 a0 11 (p_nx h14)) a0 1 = 0 := A11.keep B t14
  rw [x14] at A12 t16 ⊢
  generalize p_wr h15 a0 11 _ = h16 at *
  have x16 := A12.2.2.1
  have u16 := A12.2.2.2.1
  rw [r10_55]
  refine ⟨A12.room (by omega) (by omega) (by omega), by omega, s8 (m := 6000) (b := p_nx h16 + 1) (by decide) (by rw [pn_kd, if_pos rfl]) (by omega) rfl (by omega) (by omega) (by rw [pn_us]; omega) (fun h17 B => ?_)⟩
  have A13 := A12.obj B (j := 12) (by simp)
  refine ⟨⟨(A12.sub B).k.trans hk, h1000⟩, ?_⟩
  have t18 : p_im (p_wr h17 a0 12 (p_nx h16)) a0 1 = 0 := A12.keep B t16
  rw [x16] at A13 t18 ⊢
  generalize p_wr h17 a0 12 _ = h18 at *
  have A14 := A13.row 100 16 13 (by simp)
  refine ⟨⟨by decide, A13.room (by omega) (by omega) (by omega)⟩, A13.g1 hk h1000 _ _ _, K _ ?_ ?_⟩
  · exact A14
  · have ne : a0 ≠ p_nx h18 := by have := A13.2.1; have := A13.2.2.1; omega
    show p_im (p_new h18 100 16 16) a0 1 = 0
    rw [pn_im, if_neg ne]
    exact t18
end MK4
section LAW5
variable {d L : Nat} {xs : Nat → Int32} {h h1 : PH}
theorem R0K.ext {a b : Nat} {W : Nat → Prop} (R : R0K h a b) (E : Ext h h1 W) (hx : 1000 < p_nx h) (w : ¬ W 1000) : R0K h1 a b := by
  have e : ∀ j, p_rm h1 1000 j = p_rm h 1000 j := fun j => E.rm hx w j
  unfold R0K
  rw [e, e, e, e, e, e, e, e, e]
  exact R
theorem EXn.ef {N : Nat} (E : Ext h h1 (fun _ => False)) (hN : N ≤ p_nx h) : EXn N h h1 := EXn.ext (E.up (fun _ _ q => q.elim)) hN
theorem law_run (hL : L ≤ 260) : CI (d + 17) 189 [.ref 60] (c_w L xs) (fun x h => x = 1 ∧ p_nx h ≤ 601000 ∧ p_us h ≤ 7300000) := by
  have C0 := CO.start L xs
  have hx0 : p_nx (c_w L xs) = 1000 := rfl
  have hu0 : p_us (c_w L xs) = 0 := rfl
  have e1 : p_CN = 601086 := rfl
  have e2 : p_CS = 7301442 := rfl
  generalize c_w L xs = h0 at *
  rw [e189, hx0, hu0]
  have kA : p_kd (p_new h0 1 0 14) 1000 = 1 := by rw [pn_kd, if_pos hx0.symm]
  have xA : p_nx (p_new h0 1 0 14) = 1001 := by rw [pn_nx, hx0]
  have uA : p_us (p_new h0 1 0 14) = 14 := by rw [pn_us, hu0]
  refine ⟨⟨by decide, by decide⟩, Nat.le_refl _, s10t (d := d + 10) (b := 1001) kA (Nat.le_refl _) xA (by decide) (by decide) (by rw [uA]; decide) (fun h1 A t1 => ?_)⟩
  have x1 : p_nx h1 = 1120 := A.2.2.1
  have u1 : p_us h1 ≤ 31647 := by have := A.2.2.2.1; rw [uA] at this; omega
  have k1 : p_kd h1 1000 = 1 := A.k.trans kA
  have C1 : CO L xs h1 := (C0.ext (Ext.pn (W := fun _ => False) 1 0 14) (fun _ _ q => q)).ext A.2.2.2.2.1 (fun a ha q => by omega)
  have DK1 : DKO h1 := DKO.of k1 A (Nat.le_refl _)
  have R1 : R0K h1 1002 1034 := ⟨A.ow (by decide), A.ow (by decide), A.ow (by decide), A.ow (by decide), A.ow (by decide), A.ow (by decide), A.ow (by decide), A.ow (by decide), A.ow (by decide)⟩
  refine ⟨⟨by omega, by omega⟩, by omega, s12 (d := d + 14) (by omega) (by omega) (by omega) (fun h2 S2 l2 E2 x2 u2 => ?_)⟩
  have hb0 : p_nx h1 = 1120 := x1
  rw [x1] at S2 l2 x2 ⊢
  have C2 : CO L xs h2 := C1.ext E2 (fun _ _ q => q)
  have DK2 : DKO h2 := DK1.ext E2 (fun _ _ _ q => q.elim)
  have R2 : R0K h2 1002 1034 := R1.ext E2 (by omega) (fun q => q)
  have i2 : p_im h2 1000 1 = 0 := (E2.im (by omega) (fun q => q) 1).trans t1
  have B2 : BT L xs 1122 40000 h2 1120 [] := ⟨C2, by rw [x2]; exact Nat.le_refl _, 1120 + 1, S2, by rw [l2]; exact Nat.le_refl _, by rw [l2]; show p_us h2 ≤ 40000 + 100 * 0 + 2 * 16; omega⟩
  refine s52 (d := d + 6) hL (by decide) (by decide) B2 (fun h3 sm p lt n f vs Ds X n0 n7 f0 f3 hvs hv20 hDs hX ST3 PC3 E3 hsm hlen => ?_)
  obtain ⟨BT3, NM3, SS3⟩ := ST3
  have tl : tlok (fcts 0 vs ++ X) := tlok_app (tlok_fcts vs 0 (by omega) hv20) (tlok_Cs n7 f3 Ds 0 X (by omega) hX)
  obtain ⟨lb1, lb2⟩ := lbs_lbn tl
  rw [lb1] at BT3 hlen
  rw [List.length_map] at hlen
  obtain ⟨C3, x3, v, S3, g3, u3⟩ := BT3
  rw [List.length_map] at x3 g3 u3
  have w1000 : ¬ (k2 (p_kd h2 1000) ∨ p_kd h2 1000 = 15) := by
    rw [DK2.2.2.1]
    unfold k2
    decide
  have DK3 : DKO h3 := DK2.ext E3 (fun a _ _ q => by unfold k2 at q; omega)
  have R3 : R0K h3 1002 1034 := R2.ext E3 (by omega) w1000
  have i3 : p_im h3 1000 1 = 0 := (E3.im (by omega) w1000 1).trans i2
  have x23 : p_nx h2 ≤ p_nx h3 := E3.1
  refine s57 (d := d + 11) S3 (by omega) lb2 ?_ (fun hsf hl2 => ?_)
  · rw [if_pos rfl]
    exact ⟨Or.inr rfl, rfl, by omega, by omega⟩
  rw [if_neg (by decide)]
  have kb : p_kd h3 1120 = 13 ∧ ¬ 1120 = 0 := ⟨S3.1, by decide⟩
  refine ⟨kb, s41 (d := d + 10) S3 (by omega) (by rw [List.length_map]; omega) (fun h5 T5 E5 x5 u5 => ?_)⟩
  rw [List.length_map] at u5
  have C5 : CO L xs h5 := C3.ext E5 (fun _ _ q => q)
  have DK5 : DKO h5 := DK3.ext E5 (fun _ _ _ q => q.elim)
  have R5 : R0K h5 1002 1034 := R3.ext E5 (by omega) (fun q => q)
  have i5 : p_im h5 1000 1 = 0 := (E5.im (by omega) (fun q => q) 1).trans i3
  have k01 := DK5.ob (a := 1001) (k := 120) (l := 3000) (by decide +kernel)
  have P5 : TP h5 1000 1001 [] := ⟨DK5.2.2.1, Nat.le_refl _, by omega, k01.1, by decide, by omega, R5.1, k01.2, i5, Nat.zero_le _, fun i hi => absurd hi (Nat.not_lt_zero _)⟩
  refine s163 (d := d + 11) lb2 hl2 T5 (by omega) (by omega) (by omega) (by omega) (by omega) P5 (by omega) (by omega) (fun h6 P6 F6 x6 u6 => ?_)
  obtain ⟨E6, r6, -⟩ := F6
  have C6 : CO L xs h6 := C5.ext E6 (fun a ha q => by omega)
  have DK6 : DKO h6 := DK5.ext E6 (fun a q1 _ q => by omega)
  have R6 : R0K h6 1002 1034 := by
    unfold R0K
    rw [r6, r6, r6, r6, r6, r6, r6, r6, r6]
    exact R5
  have lX : (fcts 0 vs ++ X).length ≤ 600 := by
    have := sf_all (fcts 0 vs ++ X) false 0 tl (fun _ _ _ q => absurd q (by decide))
    omega
  have p1 := P6.2.2.2.2.2.2.2.2.1
  have p2 := P6.2.2.2.2.2.2.2.2.2.2
  rw [List.length_map] at p1 p2
  refine s162 (d := d) (Z := X) (vs := vs) (Ds := Ds) C6 DK6 R6 p1 (fun i hi => ?_) (by omega) tl lX rfl hvs f3 f0 hDs n7 n0 hX (fun g h7 om nt hnt nt6 OM KN OG GF7 x7 u7 E7 ⟨fv, D7⟩ => ?_)
  · rw [p2 i hi]
    simp [List.getD, List.getElem?_map]
    rw [List.getElem?_eq_getElem hi]
    rfl
  rw [if_pos rfl]
  have W : LWK g f n Ds om nt := ⟨KN, OG, ⟨hDs, fun c hc => by have := isCs_ok Ds 0 X hX c (by omega); rw [Nat.zero_add] at this; exact this⟩, GF7, OM⟩
  have x56 : p_nx h5 ≤ p_nx h6 := E6.1
  have EX : EXn (p_nx h3) h3 h7 := ((EXn.ef E5 (Nat.le_refl _)).tr (EXn.ext (E6.up (fun a _ q => by omega)) (by omega))).tr (EXn.ext E7 (by omega))
  have SIM3 : SIM sm p n f nt Ds (p_nx h3) h3 := by
    obtain ⟨a1, a2, a3, a4, a5, a6, a7, a8, a9, a10, b0, b1, b2, b3, b4, b5, b6, b7, b8, b9, b10⟩ := SS3
    have ns := NM3.2.2.2.2.2.2.2.2.2.2.2.2.2.1
    refine ⟨⟨by omega, by omega, by omega, by omega⟩, ⟨a1, a7, a8, by rw [ns, hnt]⟩, ⟨a9 2 (by decide), a9 3 (by decide), a9 4 (by decide), a9 5 (by decide), a9 6 (by decide), a9 7 (by decide)⟩, ⟨⟨b2, a10 2 (by decide)⟩, ⟨b3, a10 3 (by decide)⟩, ⟨b4, a10 4 (by decide)⟩, ⟨b5, a10 5 (by decide)⟩, ⟨b6, a10 6 (by decide)⟩, ⟨b7, a10 7 (by decide)⟩⟩, fun c hc => ?_⟩
    obtain ⟨q1, q2, q3, ⟨q4, q5⟩, ⟨q6, q7⟩, q8, q9⟩ := PC3 c hc
    have row : ∀ a l, p + 10 < a → RW h3 a l → ROW h3 a l (p_nx h3) := fun a l q R => ⟨R.1, by omega, R.2.2.1, R.2.2.2.1, R.2.2.2.2.2⟩
    exact ⟨⟨q1, q2, q3⟩, row _ _ q4 q5, row _ _ q6 q7, row _ _ q8 q9⟩
  have SIM7 : SIM sm p n f nt Ds (p_nx h3) h7 := SIM3.ex EX
  have S7 : ST L xs g f n Ds om nt fv 0 0 sm p (p_nx h3) (p_nx h7) (p_us h7) h7 := ⟨D7, SIM7, rfl, rfl⟩
  rw [r189_25, SIM7.2.1.2.2.1]
  refine ⟨S7.ks, l30 (d := d + 8) (Q := fun v h1 => onI v (fun x => x = 1 ∧ p_nx h1 ≤ 601000 ∧ p_us h1 ≤ 7300000)) (X := 601000) (U := 7300000) hL W (fun h1 a b => ⟨rfl, a, b⟩) (Nat.le_refl _) (Nat.le_refl _) 14 0 fv 0 0 _ _ h7 rfl (by omega) (by omega) (by omega) S7⟩
theorem law_wp (hL : L ≤ 260) : wp 1000 189 0 (l_ent 25 [.ref 60]) [] (c_w L xs) (fun v h => v = some (.int 1) ∧ p_nx h ≤ 601000 ∧ p_us h ≤ 7300000) := by
  have H : CI (984 + 17) 189 [.ref 60] (c_w L xs) (fun x h => x = 1 ∧ p_nx h ≤ 601000 ∧ p_us h ≤ 7300000) := law_run (d := 984) hL
  have H : wp 1000 189 0 (l_ent 25 [.ref 60]) [] (c_w L xs) (fun v h => onI v (fun x => x = 1 ∧ p_nx h ≤ 601000 ∧ p_us h ≤ 7300000)) := H
  refine wp_mono (fun v h q => ?_) H
  rcases v with _ | v
  · exact q.elim
  · cases v with
    | int x =>
      have q : x = 1 ∧ p_nx h ≤ 601000 ∧ p_us h ≤ 7300000 := q
      exact ⟨by rw [q.1], q.2⟩
    | _ => exact False.elim q
end LAW5
