/-! The desk at work: what it is made of, what stays when others are made. -/
def FX (h h1 : PH) : Prop := p_nx h ≤ p_nx h1 ∧ ∀ a, a < 1120 → (p_kd h1 a = p_kd h a ∧ p_ln h1 a = p_ln h a) ∧ (∀ j, p_im h1 a j = p_im h a j) ∧ ∀ j, p_rm h1 a j = p_rm h a j
theorem FX.kd {h h1 : PH} (F : FX h h1) {a : Nat} (ha : a < 1120) : p_kd h1 a = p_kd h a := (F.2 a ha).1.1
theorem FX.ln {h h1 : PH} (F : FX h h1) {a : Nat} (ha : a < 1120) : p_ln h1 a = p_ln h a := (F.2 a ha).1.2
theorem FX.im {h h1 : PH} (F : FX h h1) {a : Nat} (ha : a < 1120) (j : Nat) : p_im h1 a j = p_im h a j := (F.2 a ha).2.1 j
theorem FX.rm {h h1 : PH} (F : FX h h1) {a : Nat} (ha : a < 1120) (j : Nat) : p_rm h1 a j = p_rm h a j := (F.2 a ha).2.2 j
section FX1
variable {L m m0 : Nat} {xs : Nat → Int32} {g h h1 : PH} {ord KL : List Nat} {T : (Nat → Nat) × (Nat → Nat) × (Nat → Int32)}
theorem CO.fx (C : CO L xs h) (F : FX h h1) : CO L xs h1 := ⟨Nat.le_trans C.1 F.1, fun a ha => by
  have h2 : a < 1120 := by omega
  obtain ⟨c1, c2, c3, c4⟩ := C.2 a ha
  exact ⟨(F.kd h2).trans c1, (F.ln h2).trans c2, fun j => (F.im h2 j).trans (c3 j), fun j => (F.rm h2 j).trans (c4 j)⟩⟩
theorem TOK0.fx (O : TOK0 h) (F : FX h h1) : TOK0 h1 := by
  obtain ⟨⟨o1, o2, o3, o4, o5, o6, o7, o8, o9, p1, p2, p3, p4⟩, q1, q2, q3⟩ := O
  exact ⟨⟨(F.kd (by decide)).trans o1, (F.rm (by decide) 2).trans o2, (F.rm (by decide) 3).trans o3, (F.rm (by decide) 4).trans o4, (F.rm (by decide) 5).trans o5, (F.kd (by decide)).trans o6, (F.ln (by decide)).trans o7, (F.kd (by decide)).trans o8, (F.ln (by decide)).trans o9, (F.kd (by decide)).trans p1, (F.ln (by decide)).trans p2, (F.kd (by decide)).trans p3, (F.ln (by decide)).trans p4⟩, (F.rm (by decide) 0).trans q1, (F.kd (by decide)).trans q2, (F.ln (by decide)).trans q3⟩
theorem LBO.fx (O : LBO h) (F : FX h h1) : LBO h1 := by
  obtain ⟨o1, o2, o3, o4, o5, o6, o7, o8, o9, p1, p2, p3⟩ := O
  exact ⟨(F.kd (by decide)).trans o1, (F.rm (by decide) 1).trans o2, (F.rm (by decide) 3).trans o3, (F.rm (by decide) 4).trans o4, (F.rm (by decide) 5).trans o5, (F.rm (by decide) 6).trans o6, (F.kd (by decide)).trans o7, (F.ln (by decide)).trans o8, (F.kd (by decide)).trans o9, (F.ln (by decide)).trans p1, (F.kd (by decide)).trans p2, (F.ln (by decide)).trans p3⟩
theorem GRC.fx (O : GRC h) (F : FX h h1) : GRC h1 := by
  obtain ⟨o1, o2, o3, o4⟩ := O
  exact ⟨(F.rm (by decide) 2).trans o1, (F.kd (by decide)).trans o2, (F.ln (by decide)).trans o3, fun c hc => ⟨(F.rm (by decide) c).trans (o4 c hc).1, (F.kd (by omega)).trans (o4 c hc).2⟩⟩
theorem LCD.fx (O : LCD h) (F : FX h h1) : LCD h1 := by
  obtain ⟨o1, o2, o3, o4, o5, o6, o7, o8⟩ := O
  exact ⟨(F.rm (by decide) 2).trans o1, (F.kd (by decide)).trans o2, (F.rm (by decide) 0).trans o3, (F.rm (by decide) 1).trans o4, (F.kd (by decide)).trans o5, (F.ln (by decide)).trans o6, (F.kd (by decide)).trans o7, (F.ln (by decide)).trans o8⟩
theorem LIB.fx (B : LIB L xs g h) (F : FX h h1) : LIB L xs g h1 := ⟨B.1.fx F, B.2.1.fx F, B.2.2.1.fx F, B.2.2.2.1.fx F, B.2.2.2.2.1.fx F, B.2.2.2.2.2.1, fun a q1 q2 j => ⟨(F.im (by omega) j).trans (B.im a q1 q2 j), (F.rm (by omega) j).trans (B.rm a q1 q2 j)⟩⟩
theorem PGS.fx {p : Nat} (P : PGS h p m) (hp : p + 1 < 1120) (F : FX h h1) : PGS h1 p m := by
  have h0 : p < 1120 := by omega
  obtain ⟨a, b, c, e, f, g⟩ := P
  exact ⟨(F.kd h0).trans a, b, (F.rm h0 0).trans c, (F.kd hp).trans e, (F.ln hp).trans f, g⟩
theorem SCB.fx {s : Nat} (P : SCB h s) (hs : s + 2 < 1120) (F : FX h h1) : SCB h1 s := by
  have h0 : s < 1120 := by omega
  have h2 : s + 1 < 1120 := by omega
  obtain ⟨s1, s2, s3, s4, s5, s6, s7⟩ := P
  exact ⟨(F.kd h0).trans s1, (F.rm h0 4).trans s2, (F.rm h0 6).trans s3, (F.kd h2).trans s4, (F.ln h2).trans s5, (F.kd hs).trans s6, (F.ln hs).trans s7⟩
theorem CTF.fx {f : Nat} (P : CTF h f) (hf : f + 3 < 1120) (F : FX h h1) : CTF h1 f := by
  have h0 : f < 1120 := by omega
  have h2 : f + 1 < 1120 := by omega
  have h3 : f + 2 < 1120 := by omega
  obtain ⟨f1, f2, f3, f4, ⟨f5, f6⟩, ⟨f7, f8⟩, ⟨f9, f0⟩⟩ := P
  exact ⟨(F.kd h0).trans f1, (F.rm h0 0).trans f2, (F.rm h0 1).trans f3, (F.rm h0 2).trans f4, ⟨(F.kd h2).trans f5, (F.ln h2).trans f6⟩, ⟨(F.kd h3).trans f7, (F.ln h3).trans f8⟩, ⟨(F.kd hf).trans f9, (F.ln hf).trans f0⟩⟩
theorem DRS.fx {a : Nat} (P : DRS h a m) (ha : a + 6 < 1120) (F : FX h h1) : DRS h1 a m := by
  have h0 : a < 1120 := by omega
  have h2 : a + 1 < 1120 := by omega
  have h3 : a + 2 < 1120 := by omega
  have h4 : a + 3 < 1120 := by omega
  have h5 : a + 4 < 1120 := by omega
  have h6 : a + 5 + 1 < 1120 := by omega
  obtain ⟨a1, a2, a3, a4, a5, a6, a7, ⟨a8, a9⟩, ⟨b1, b2⟩, ⟨b3, b4⟩, ⟨b5, b6⟩, b7⟩ := P
  exact ⟨(F.kd h0).trans a1, a2, (F.rm h0 2).trans a3, (F.rm h0 3).trans a4, (F.rm h0 4).trans a5, (F.rm h0 5).trans a6, (F.rm h0 6).trans a7, ⟨(F.kd h2).trans a8, (F.ln h2).trans a9⟩, ⟨(F.kd h3).trans b1, (F.ln h3).trans b2⟩, ⟨(F.kd h4).trans b3, (F.ln h4).trans b4⟩, ⟨(F.kd h5).trans b5, (F.ln h5).trans b6⟩, b7.fx h6 F⟩
theorem CTS.fx {c : Nat} (P : CTS h c m) (hc : c + 19 < 1120) (F : FX h h1) : CTS h1 c m := by
  have h0 : c < 1120 := by omega
  have h8 : c + 8 < 1120 := by omega
  have h9 : c + 9 < 1120 := by omega
  have h10 : c + 10 < 1120 := by omega
  have h11 : c + 11 < 1120 := by omega
  have h12 : c + 12 < 1120 := by omega
  have hf : c + 1 + 3 < 1120 := by omega
  have hs : c + 5 + 2 < 1120 := by omega
  have hd : c + 13 + 6 < 1120 := by omega
  obtain ⟨a1, a2, a3, a4, a5, a6, a7, a8, a9, b1, ⟨b2, b3⟩, ⟨b4, b5⟩, ⟨b6, b7⟩, ⟨b8, b9⟩, ⟨c1, c2⟩, ff, ss, dr, q1, q2⟩ := P
  exact ⟨(F.kd h0).trans a1, a2, (F.rm h0 0).trans a3, (F.rm h0 1).trans a4, (F.rm h0 2).trans a5, (F.rm h0 5).trans a6, (F.rm h0 6).trans a7, (F.rm h0 7).trans a8, (F.rm h0 8).trans a9, (F.rm h0 9).trans b1, ⟨(F.kd h8).trans b2, (F.ln h8).trans b3⟩, ⟨(F.kd h9).trans b4, (F.ln h9).trans b5⟩, ⟨(F.kd h10).trans b6, (F.ln h10).trans b7⟩, ⟨(F.kd h11).trans b8, (F.ln h11).trans b9⟩, ⟨(F.kd h12).trans c1, (F.ln h12).trans c2⟩, ff.fx hf F, ss.fx hs F, dr.fx hd F, (F.kd (by decide)).trans q1, (F.ln (by decide)).trans q2⟩
theorem DRO.fx {a : Nat} (S : DRO h a m ord) (ha : a + 2 < 1120) (F : FX h h1) : DRO h1 a m ord := by
  have h0 : a < 1120 := by omega
  have h2 : a + 1 < 1120 := by omega
  obtain ⟨a1, a2, a3, a4⟩ := S
  exact ⟨(F.im h0 0).trans a1, (F.im h0 1).trans a2, fun i hi => (F.im h2 i).trans (a3 i hi), fun c hc => (F.im ha c).trans (a4 c hc)⟩
theorem TLY.fx {c : Nat} (Y : TLY h c T) (hc : c + 19 < 1120) (F : FX h h1) : TLY h1 c T := by
  have h9 : c + 9 < 1120 := by omega
  have h10 : c + 10 < 1120 := by omega
  have h11 : c + 11 < 1120 := by omega
  exact fun y hy => ⟨(F.im h9 y).trans (Y y hy).1, (F.im h10 y).trans (Y y hy).2.1, (F.im h11 y).trans (Y y hy).2.2⟩
theorem FND.fx {f : Nat} (N : FND h f KL) (hf : f + 1 < 1120) (F : FX h h1) : FND h1 f KL := by
  have h0 : f < 1120 := by omega
  exact ⟨(F.im h0 3).trans N.1, fun i q1 q2 => (F.im hf i).trans (N.2 i q1 q2)⟩
theorem DRN.fx {n nt c ch dr om : Nat} {nd af : Nat → Nat} {HX : Nat → List (Nat × Nat)} {fv : Nat → Int32} (D : DRN g n nd af om HX nt h c fv ch dr) (hc : c + 19 < 1120) (F : FX h h1) : DRN g n nd af om HX nt h1 c fv ch dr := by
  have h0 : c < 1120 := by omega
  have h18 : c + 18 < 1120 := by omega
  have hd : c + 13 + 2 < 1120 := by omega
  have hf : c + 1 + 1 < 1120 := by omega
  obtain ⟨d1, d2, d3, d4, d5, d6⟩ := D
  exact ⟨(F.im h0 3).trans d1, (F.im h0 4).trans d2, d3.fx hd F, d4.fx hc F, d5.fx hf F, (F.im h18 1).trans d6⟩
/-- the desk itself -/
def DKS (h : PH) : Prop := p_kd h 1000 = 1 ∧ (p_rm h 1000 0 = 1001 ∧ p_rm h 1000 3 = 1034 ∧ p_rm h 1000 5 = 1066 ∧ p_rm h 1000 8 = 1067 ∧ p_rm h 1000 9 = 1087 ∧ p_rm h 1000 10 = 1107 ∧ p_rm h 1000 11 = 1110) ∧ SCB h 1107 ∧ PGS h 1110 0 ∧ CTS h 1067 6000 ∧ CTS h 1087 0
theorem DKS.fx (D : DKS h) (F : FX h h1) : DKS h1 := by
  obtain ⟨d1, ⟨r0, r3, r5, r8, r9, r10, r11⟩, d3, d4, d5, d6⟩ := D
  exact ⟨(F.kd (by decide)).trans d1, ⟨(F.rm (by decide) 0).trans r0, (F.rm (by decide) 3).trans r3, (F.rm (by decide) 5).trans r5, (F.rm (by decide) 8).trans r8, (F.rm (by decide) 9).trans r9, (F.rm (by decide) 10).trans r10, (F.rm (by decide) 11).trans r11⟩, d3.fx (by decide) F, d4.fx (by decide) F, d5.fx (by decide) F, d6.fx (by decide) F⟩
/-- what is known of a library that has been taught, once and for all: nf facts, n clauses, nt terms -/
def KNO (g : PH) (nf n : Nat) (nd br af : Nat → Nat) (om nt : Nat) (HX : Nat → List (Nat × Nat)) : Prop := LD g n nd br af om ∧ p_im g 1034 9 = Int32.ofNat nt ∧ nt ≤ 24 ∧ (∀ x, x < n → HDR g x (HX x)) ∧ p_im g 1034 7 = Int32.ofNat nf ∧ 0 < nf ∧ nf ≤ 3
/-- the desk with facts and choices, and the contract that is drawn from them -/
def DES (L : Nat) (xs : Nat → Int32) (g : PH) (n : Nat) (nd af : Nat → Nat) (om nt : Nat) (HX : Nat → List (Nat × Nat)) (fv : Nat → Int32) (ch dr : Nat) (h : PH) : Prop :=
  (LIB L xs g h ∧ DKS h) ∧ p_im h 1066 = fv ∧ (p_im h 1000 6 = Int32.ofNat ch ∧ p_im h 1000 7 = Int32.ofNat dr) ∧ (ch < 2 ^ n ∧ dr < 2 ^ n) ∧ (∀ i, ch.testBit i = true → dr.testBit i = false) ∧ DRN g n nd af om HX nt h 1067 fv ch dr
theorem DES.fx {n nt ch dr om : Nat} {nd af : Nat → Nat} {HX : Nat → List (Nat × Nat)} {fv : Nat → Int32} (D : DES L xs g n nd af om nt HX fv ch dr h) (F : FX h h1) : DES L xs g n nd af om nt HX fv ch dr h1 := by
  obtain ⟨⟨d1, d2⟩, d3, ⟨d4, d5⟩, d6, d7, d8⟩ := D
  exact ⟨⟨d1.fx F, d2.fx F⟩, (funext (fun j => F.im (by decide) j)).trans d3, ⟨(F.im (by decide) 6).trans d4, (F.im (by decide) 7).trans d5⟩, d6, d7, d8.fx (by decide) F⟩
end FX1
