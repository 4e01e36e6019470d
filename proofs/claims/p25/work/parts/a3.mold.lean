/-! A new desk, as those who work with it see it. -/
def DKO (h : PH) : Prop := Obs h (obDk 1001) ∧ Fds h (fdDk 1001) ∧ p_kd h 1000 = 1 ∧ 1120 ≤ p_nx h
theorem fd_ok : ∀ x ∈ fdDk 1001, (1001 < x.1 ∧ x.1 < 1120 ∧ x.1 ≠ 1038 ∧ x.1 ≠ 1043) ∧ ∃ y ∈ obDk 1001, y.1 = x.1 ∧ y.2.1 ≠ 120 ∧ y.2.1 ≠ 13 ∧ y.2.1 ≠ 15 := by decide +kernel
theorem ob_ok : ∀ x ∈ obDk 1001, x.1 < 1120 := by decide +kernel
section MOLD
variable {h h1 : PH} {L : Nat} {xs : Nat → Int32}
theorem DKO.of {h0 : PH} {n u : Nat} (hk : p_kd h 1000 = 1) (A : AC 1000 1001 h0 h n u (obDk 1001) (fdDk 1001) (owDk 1001)) (hn : 119 ≤ n) : DKO h := ⟨A.2.2.2.2.2.1, A.2.2.2.2.2.2.1, hk, by have := A.2.2.1; omega⟩
theorem DKO.ext {W : Nat → Prop} (D : DKO h) (E : Ext h h1 W) (hW : ∀ a, 1001 < a → a < 1120 → W a → p_kd h a = 120 ∨ p_kd h a = 13 ∨ p_kd h a = 15) : DKO h1 := by
  obtain ⟨d1, d2, d3, d4⟩ := D
  have k0 : p_kd h1 1000 = p_kd h 1000 := E.kd (by omega)
  have nx := E.1
  refine ⟨fun x hx => ?_, fun x hx => ?_, k0.trans d3, by omega⟩
  · have hl := ob_ok x hx
    have hlt : x.1 < p_nx h := by omega
    have e := d1 x hx
    exact ⟨(E.kd hlt).trans e.1, (E.ln hlt).trans e.2.1, by omega⟩
  · obtain ⟨⟨q1, q2, -, -⟩, y, y1, y2, y3, y4, y5⟩ := fd_ok x hx
    have hlt : x.1 < p_nx h := by omega
    have e := (d1 y y1).1
    rw [y2] at e
    refine (E.rm hlt (fun q => ?_) _).trans (d2 x hx)
    have := hW _ q1 q2 q
    rw [e] at this
    rcases this with z | z | z
    · exact y3 z
    · exact y4 z
    · exact y5 z
theorem DKO.fr {Wi Wr : Nat → Prop} (D : DKO h) (F : FR Wi Wr h h1) (hr : ∀ a, Wr a → a = 1000 ∨ a = 1038 ∨ a = 1043) : DKO h1 := by
  obtain ⟨d1, d2, d3, d4⟩ := D
  refine ⟨fun x hx => ?_, fun x hx => ?_, by rw [F.kd]; exact d3, by rw [F.1]; exact d4⟩
  · rw [F.kd, F.ln, F.1]; exact d1 x hx
  · obtain ⟨⟨q1, q2, q3, q4⟩, -⟩ := fd_ok x hx
    rw [F.rm (fun q => by rcases hr _ q with z | z | z; omega; exact q3 z; exact q4 z)]
    exact d2 x hx
theorem DKO.ob {a k l : Nat} (D : DKO h) (m : (a, k, l) ∈ obDk 1001) : p_kd h a = k ∧ p_ln h a = l := ⟨(D.1 _ m).1, (D.1 _ m).2.1⟩
theorem DKO.fd {a j v : Nat} (D : DKO h) (m : (a, j, v) ∈ fdDk 1001) : p_rm h a j = v := D.2.1 _ m
theorem grc_ok : ∀ c, c < 16 → (1045, c, 1047 + c) ∈ fdDk 1001 ∧ (1047 + c, 6, 0) ∈ obDk 1001 := by decide +kernel
theorem DKO.toks (D : DKO h) : TOKS h :=
  ⟨(D.ob (a := 1036) (k := 4) (l := 0) (by decide +kernel)).1, D.fd (by decide +kernel), D.fd (by decide +kernel), D.fd (by decide +kernel), D.fd (by decide +kernel), (D.ob (a := 1038) (k := 310) (l := 601) (by decide +kernel)).1, (D.ob (a := 1038) (k := 310) (l := 601) (by decide +kernel)).2, (D.ob (a := 1039) (k := 100) (l := 601) (by decide +kernel)).1, (D.ob (a := 1039) (k := 100) (l := 601) (by decide +kernel)).2, (D.ob (a := 1040) (k := 100) (l := 601) (by decide +kernel)).1, (D.ob (a := 1040) (k := 100) (l := 601) (by decide +kernel)).2, (D.ob (a := 1041) (k := 100) (l := 601) (by decide +kernel)).1, (D.ob (a := 1041) (k := 100) (l := 601) (by decide +kernel)).2⟩
theorem DKO.tok0 (D : DKO h) : TOK0 h := ⟨D.toks, D.fd (by decide +kernel), (D.ob (a := 1037) (k := 120) (l := 3000) (by decide +kernel)).1, (D.ob (a := 1037) (k := 120) (l := 3000) (by decide +kernel)).2⟩
theorem DKO.lbo (D : DKO h) : LBO h :=
  ⟨(D.ob (a := 1034) (k := 2) (l := 0) (by decide +kernel)).1, D.fd (by decide +kernel), D.fd (by decide +kernel), D.fd (by decide +kernel), D.fd (by decide +kernel), D.fd (by decide +kernel), (D.ob (a := 1063) (k := 100) (l := 10) (by decide +kernel)).1, (D.ob (a := 1063) (k := 100) (l := 10) (by decide +kernel)).2, (D.ob (a := 1064) (k := 100) (l := 10) (by decide +kernel)).1, (D.ob (a := 1064) (k := 100) (l := 10) (by decide +kernel)).2, (D.ob (a := 1065) (k := 100) (l := 24) (by decide +kernel)).1, (D.ob (a := 1065) (k := 100) (l := 24) (by decide +kernel)).2⟩
theorem DKO.grc (D : DKO h) : GRC h :=
  ⟨D.fd (by decide +kernel), (D.ob (a := 1045) (k := 312) (l := 16) (by decide +kernel)).1, (D.ob (a := 1045) (k := 312) (l := 16) (by decide +kernel)).2, fun c hc => ⟨D.fd (grc_ok c hc).1, (D.ob (grc_ok c hc).2).1⟩⟩
theorem DKO.lcd (D : DKO h) : LCD h :=
  ⟨D.fd (by decide +kernel), (D.ob (a := 1042) (k := 5) (l := 0) (by decide +kernel)).1, D.fd (by decide +kernel), D.fd (by decide +kernel), (D.ob (a := 1043) (k := 310) (l := 600) (by decide +kernel)).1, (D.ob (a := 1043) (k := 310) (l := 600) (by decide +kernel)).2, (D.ob (a := 1044) (k := 100) (l := 600) (by decide +kernel)).1, (D.ob (a := 1044) (k := 100) (l := 600) (by decide +kernel)).2⟩
theorem DKO.gs (D : DKO h) (C : CO L xs h) : GS L xs h :=
  ⟨C, D.toks, (D.ob (a := 1035) (k := 3) (l := 0) (by decide +kernel)).1, D.fd (by decide +kernel), D.fd (by decide +kernel), D.lcd.2.1, D.lcd.2.2.1, D.lcd.2.2.2.1, D.lcd.2.2.2.2.1, D.lcd.2.2.2.2.2.1, D.lcd.2.2.2.2.2.2.1, D.lcd.2.2.2.2.2.2.2⟩
theorem DKO.l0 (D : DKO h) : p_rm h 1034 0 = 1035 := D.fd (by decide +kernel)
theorem DKO.k35 (D : DKO h) : p_kd h 1035 = 3 := (D.ob (a := 1035) (k := 3) (l := 0) (by decide +kernel)).1
theorem DKO.scb (D : DKO h) : SCB h 1107 :=
  ⟨(D.ob (a := 1107) (k := 9) (l := 0) (by decide +kernel)).1, D.fd (by decide +kernel), D.fd (by decide +kernel), (D.ob (a := 1107 + 1) (k := 100) (l := 64) (by decide +kernel)).1, (D.ob (a := 1107 + 1) (k := 100) (l := 64) (by decide +kernel)).2, (D.ob (a := 1107 + 2) (k := 100) (l := 600) (by decide +kernel)).1, (D.ob (a := 1107 + 2) (k := 100) (l := 600) (by decide +kernel)).2⟩
theorem DKO.pgs (D : DKO h) : PGS h 1110 0 :=
  ⟨(D.ob (a := 1110) (k := 11) (l := 0) (by decide +kernel)).1, by decide, D.fd (by decide +kernel), (D.ob (a := 1110 + 1) (k := 120) (l := 0) (by decide +kernel)).1, (D.ob (a := 1110 + 1) (k := 120) (l := 0) (by decide +kernel)).2, by decide⟩
theorem DKO.drs (D : DKO h) {a m : Nat} (ha : 1067 ≤ a) (hm : m ≤ 6000) (o : (a, 10, 0) ∈ obDk 1001 ∧ (a + 1, 100, 16) ∈ obDk 1001 ∧ (a + 2, 100, 16) ∈ obDk 1001 ∧ (a + 3, 100, 16) ∈ obDk 1001 ∧ (a + 4, 100, 16) ∈ obDk 1001 ∧ (a + 5, 11, 0) ∈ obDk 1001 ∧ (a + 5 + 1, 120, m) ∈ obDk 1001)
    (f : (a, 2, a + 1) ∈ fdDk 1001 ∧ (a, 3, a + 2) ∈ fdDk 1001 ∧ (a, 4, a + 3) ∈ fdDk 1001 ∧ (a, 5, a + 4) ∈ fdDk 1001 ∧ (a, 6, a + 5) ∈ fdDk 1001 ∧ (a + 5, 0, a + 5 + 1) ∈ fdDk 1001) : DRS h a m := by
  obtain ⟨o1, o2, o3, o4, o5, o6, o7⟩ := o
  obtain ⟨f1, f2, f3, f4, f5, f6⟩ := f
  exact ⟨(D.ob o1).1, ha, D.fd f1, D.fd f2, D.fd f3, D.fd f4, D.fd f5, D.ob o2, D.ob o3, D.ob o4, D.ob o5, (D.ob o6).1, by omega, D.fd f6, (D.ob o7).1, (D.ob o7).2, hm⟩
theorem DKO.kpt (D : DKO h) : DRS h 1112 6000 := D.drs (by decide) (by decide) (by decide +kernel) (by decide +kernel)
theorem DKO.cts (D : DKO h) {c m : Nat} (hc : 1067 ≤ c) (dr : DRS h (c + 13) m) (o : (c, 7, 0) ∈ obDk 1001 ∧ (c + 8, 100, 16) ∈ obDk 1001 ∧ (c + 9, 100, 24) ∈ obDk 1001 ∧ (c + 10, 100, 24) ∈ obDk 1001 ∧ (c + 11, 100, 24) ∈ obDk 1001 ∧ (c + 12, 100, 24) ∈ obDk 1001)
    (f : (c, 0, c + 13) ∈ fdDk 1001 ∧ (c, 1, c + 1) ∈ fdDk 1001 ∧ (c, 2, c + 5) ∈ fdDk 1001 ∧ (c, 5, c + 8) ∈ fdDk 1001 ∧ (c, 6, c + 9) ∈ fdDk 1001 ∧ (c, 7, c + 10) ∈ fdDk 1001 ∧ (c, 8, c + 11) ∈ fdDk 1001 ∧ (c, 9, c + 12) ∈ fdDk 1001)
    (o2 : (c + 1, 8, 0) ∈ obDk 1001 ∧ (c + 1 + 1, 100, 60) ∈ obDk 1001 ∧ (c + 1 + 2, 100, 60) ∈ obDk 1001 ∧ (c + 1 + 3, 100, 60) ∈ obDk 1001 ∧ (c + 5, 9, 0) ∈ obDk 1001 ∧ (c + 5 + 1, 100, 64) ∈ obDk 1001 ∧ (c + 5 + 2, 100, 600) ∈ obDk 1001)
    (f2 : (c + 1, 0, c + 1 + 1) ∈ fdDk 1001 ∧ (c + 1, 1, c + 1 + 2) ∈ fdDk 1001 ∧ (c + 1, 2, c + 1 + 3) ∈ fdDk 1001 ∧ (c + 5, 4, c + 5 + 1) ∈ fdDk 1001 ∧ (c + 5, 6, c + 5 + 2) ∈ fdDk 1001) : CTS h c m := by
  obtain ⟨o1, o2', o3, o4, o5, o6⟩ := o
  obtain ⟨f1, f2', f3, f4, f5, f6, f7, f8⟩ := f
  obtain ⟨p1, p2, p3, p4, p5, p6, p7⟩ := o2
  obtain ⟨g1, g2, g3, g4, g5⟩ := f2
  have e66 : (1066, 100, 10) ∈ obDk 1001 := by decide +kernel
  exact ⟨(D.ob o1).1, hc, D.fd f1, D.fd f2', D.fd f3, D.fd f4, D.fd f5, D.fd f6, D.fd f7, D.fd f8, D.ob o2', D.ob o3, D.ob o4, D.ob o5, D.ob o6, ⟨(D.ob p1).1, D.fd g1, D.fd g2, D.fd g3, D.ob p2, D.ob p3, D.ob p4⟩, ⟨(D.ob p5).1, D.fd g4, D.fd g5, (D.ob p6).1, (D.ob p6).2, (D.ob p7).1, (D.ob p7).2⟩, dr, D.ob e66⟩
theorem DKO.now (D : DKO h) : CTS h 1067 6000 := D.cts (by decide) (D.drs (by decide) (by decide) (by decide +kernel) (by decide +kernel)) (by decide +kernel) (by decide +kernel) (by decide +kernel) (by decide +kernel)
theorem DKO.trial (D : DKO h) : CTS h 1087 0 := D.cts (by decide) (D.drs (by decide) (by decide) (by decide +kernel) (by decide +kernel)) (by decide +kernel) (by decide +kernel) (by decide +kernel) (by decide +kernel)
end MOLD
