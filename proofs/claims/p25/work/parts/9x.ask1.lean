/-! What is asked of the desk: it stays as it is. -/
def wA (a : Nat) : Prop := 1087 ≤ a ∧ a ≤ 1111
def wAs (a : Nat) : Prop := a = 1092 ∨ a = 1107
/-- a choice, as it is told -/
def cho (ch dr c : Nat) : Int32 := if ch.testBit c = true then 1 else if dr.testBit c = true then 0 else -1
def mnI (a b : Int32) : Int32 := if b < a then b else a
section ASK1
variable {d L n nt ch dr om m nf c : Nat} {xs : Nat → Int32} {g h h1 : PH} {nd br af : Nat → Nat} {HX : Nat → List (Nat × Nat)} {fv : Nat → Int32} {Q : Int32 → PH → Prop}
theorem DRN.fr {Wi Wr : Nat → Prop} (D : DRN g n nd af om HX nt h 1067 fv ch dr) (F : FR Wi Wr h h1) (hW : ∀ a, Wi a → a < 1067 ∨ 1087 ≤ a) : DRN g n nd af om HX nt h1 1067 fv ch dr := by
  have w : ∀ a, 1067 ≤ a → a < 1087 → ¬ Wi a := fun a q1 q2 z => by have := hW a z; omega
  obtain ⟨d1, d2, d3, d4, d5, d6⟩ := D
  refine ⟨(F.im (w 1067 (by decide) (by decide)) 3).trans d1, (F.im (w 1067 (by decide) (by decide)) 4).trans d2, d3.fr F (w _ (by decide) (by decide)) (w _ (by decide) (by decide)) (w _ (by decide) (by decide)), fun y hy => ?_, d5.fr F (w _ (by decide) (by decide)) (w _ (by decide) (by decide)), (F.im (w _ (by decide) (by decide)) 1).trans d6⟩
  exact ⟨(F.im (w _ (by decide) (by decide)) y).trans (d4 y hy).1, (F.im (w _ (by decide) (by decide)) y).trans (d4 y hy).2.1, (F.im (w _ (by decide) (by decide)) y).trans (d4 y hy).2.2⟩
theorem DES.fa (D : DES L xs g n nd af om nt HX fv ch dr h) (F : FR wA wAs h h1) (C : CTS h1 1087 0) (S : SCB h1 1107) : DES L xs g n nd af om nt HX fv ch dr h1 := by
  have w : ∀ a, a < 1087 → ¬ wA a := fun a q z => by unfold wA at z; omega
  have wr : ∀ a, a < 1087 → ¬ wAs a := fun a q z => by unfold wAs at z; omega
  obtain ⟨⟨d1, ⟨k0, ⟨r0, r3, r5, r8, r9, r10, r11⟩, k2, k3, k4, k5⟩⟩, d3, ⟨d4, d5⟩, d6, d7, d8⟩ := D
  refine ⟨⟨d1.fr F (fun a q => w a (by unfold wL at q; omega)) (fun a q => wr a (by unfold wL at q; omega)), ?_⟩, (funext (fun j => F.im (w 1066 (by decide)) j)).trans d3, ⟨(F.im (w 1000 (by decide)) 6).trans d4, (F.im (w 1000 (by decide)) 7).trans d5⟩, d6, d7, d8.fr F (fun a q => Or.inr (by unfold wA at q; omega))⟩
  have r : ∀ j, p_rm h1 1000 j = p_rm h 1000 j := fun j => F.rm (wr 1000 (by decide)) j
  exact ⟨by rw [F.kd]; exact k0, ⟨(r 0).trans r0, (r 3).trans r3, (r 5).trans r5, (r 8).trans r8, (r 9).trans r9, (r 10).trans r10, (r 11).trans r11⟩, S, k3.fr F (by unfold wAs; decide), k4.fr F (fun a q => Or.inr (Or.inr (by unfold wAs at q; omega))) (fun q => absurd q (by unfold wAs; decide)), C⟩
theorem DES.k1 (D : DES L xs g n nd af om nt HX fv ch dr h) : p_kd h 1000 = 1 ∧ ¬ 1000 = 0 := ⟨D.1.2.1, by decide⟩
theorem DES.r3 (D : DES L xs g n nd af om nt HX fv ch dr h) : p_rm h 1000 3 = 1034 := D.1.2.2.1.2.1
theorem DES.r5 (D : DES L xs g n nd af om nt HX fv ch dr h) : p_rm h 1000 5 = 1066 := D.1.2.2.1.2.2.1
theorem DES.r8 (D : DES L xs g n nd af om nt HX fv ch dr h) : p_rm h 1000 8 = 1067 := D.1.2.2.1.2.2.2.1
theorem DES.r9 (D : DES L xs g n nd af om nt HX fv ch dr h) : p_rm h 1000 9 = 1087 := D.1.2.2.1.2.2.2.2.1
theorem DES.ct (D : DES L xs g n nd af om nt HX fv ch dr h) : CTS h 1067 6000 := D.1.2.2.2.2.2.1
theorem DES.dd (D : DES L xs g n nd af om nt HX fv ch dr h) : DRS h (1067 + 13) 6000 := D.ct.2.2.2.2.2.2.2.2.2.2.2.2.2.2.2.2.2.1
theorem DES.dn (D : DES L xs g n nd af om nt HX fv ch dr h) : DRN g n nd af om HX nt h 1067 fv ch dr := D.2.2.2.2.2
theorem DES.im_lt (K0 : KNO g nf n nd br af om nt HX) (D : DES L xs g n nd af om nt HX fv ch dr h) : inM g n nd om fv ch dr < 2 ^ n := inM_lt K0.1 D.2.2.2.1.1
theorem s166 (K0 : KNO g nf n nd br af om nt HX) (D : DES L xs g n nd af om nt HX fv ch dr h) (hc : c < n) (K : Q 1 h) : CI (d + 1) 166 [.ref 1000, .int (Int32.ofNat c)] h Q := by
  obtain ⟨v1, v2, v3, -⟩ := K0.1
  have c31 : c < 2147483648 := by omega
  have n31 : n < 2147483648 := by omega
  rw [e166, if_neg (i_neg c31), D.r3, D.1.1.im 1034 (by decide) (by decide), v3, if_pos (by rw [i_lt c31 n31]; exact hc)]
  exact ⟨D.k1, D.1.1.lb, Or.inr rfl, K⟩
theorem s167 (K0 : KNO g nf n nd br af om nt HX) (D : DES L xs g n nd af om nt HX fv ch dr h) (hc : c < n) (K : Q (cho ch dr c) h) : CI (d + 2) 167 [.ref 1000, .int (Int32.ofNat c)] h Q := by
  have v1 := K0.1.1
  have c16 : c < 16 := by omega
  rw [e167, D.2.2.1.1]
  refine ⟨D.k1, s144 (p128 v1 D.2.2.2.1.1) c16 ?_⟩
  unfold cho at K
  cases h1 : ch.testBit c with
  | true =>
    rw [h1, if_pos rfl] at K
    rw [if_neg (by decide)]
    exact K
  | false =>
    rw [h1, if_neg (by decide)] at K
    rw [if_pos (by decide), D.2.2.1.2]
    refine ⟨D.k1, s144 (p128 v1 D.2.2.2.1.2) c16 ?_⟩
    cases h2 : dr.testBit c with
    | true =>
      rw [h2, if_pos rfl] at K
      rw [if_neg (by decide)]
      exact K
    | false =>
      rw [h2, if_neg (by decide)] at K
      rw [if_pos (by decide)]
      exact K
theorem s169 (D : DES L xs g n nd af om nt HX fv ch dr h) (hc : c < 16) (K : ∀ h1, DES L xs g n nd af om nt HX fv ch dr h1 → FR wA wAs h h1 → Q (itd g fv (plI (orM g n nd af om fv ch dr)) c) h1) : CI (d + 6) 169 [.ref 1000, .ref (1047 + c)] h Q := by
  obtain ⟨k0, ⟨r0, r3, r5, r8, r9, r10, r11⟩, k2, k3, k4, k5⟩ := id D.1.2
  have xa : 1034 ≤ 1047 + c := by omega
  have xb : 1047 + c < 1066 := by omega
  have hd := D.dd
  rw [e169, r11]
  refine ⟨D.k1, ⟨k3.1, by decide⟩, s125 (d := d + 4) k3 (fun h1 F1 z1 => ?_)⟩
  have F1' : FR wA wAs h h1 := F1.up (fun a q => by have q : a = 1110 := q; unfold wA; omega) (fun _ q => q.elim)
  have D1 : DES L xs g n nd af om nt HX fv ch dr h1 := D.fa F1' (k5.fr0 F1) ⟨by rw [F1.kd]; exact k2.1, by rw [F1.rm (fun q => q)]; exact k2.2.1, by rw [F1.rm (fun q => q)]; exact k2.2.2.1, by rw [F1.kd]; exact k2.2.2.2.1, by rw [F1.ln]; exact k2.2.2.2.2.1, by rw [F1.kd]; exact k2.2.2.2.2.2.1, by rw [F1.ln]; exact k2.2.2.2.2.2.2⟩
  obtain ⟨k0', ⟨r0', r3', r5', r8', r9', r10', r11'⟩, k2', k3', k4', k5'⟩ := id D1.1.2
  have hd1 := D1.dd
  rw [r3', r5', r8', D1.ct.2.2.1, hd1.2.2.2.1, r10', r11']
  refine ⟨D1.k1, D1.k1, D1.k1, D1.k1, ⟨D1.ct.1, by decide⟩, ⟨hd1.1, by decide⟩, D1.k1, ⟨k2'.1, by decide⟩, s128 (q := 1067 + 13 + 2) (p := 1110) (m := 0) k2' (by decide) k3' D1.ct.2.2.2.2.2.2.2.2.2.2.2.2.2.2.2.2.2.2 hd1.2.2.2.2.2.2.2.2.1 (by decide) (fun h2 F2 ej e4 e6 O T => ?_)⟩
  have F2' : FR wA wAs h1 h2 := F2.up (fun a q => by have q : a = 1107 := q; unfold wA; omega) (fun a q => Or.inr q)
  have C2 : CTS h2 1087 0 := k5'.fr F2 (fun a q => Or.inr (Or.inr (by have q : a = 1107 := q; omega))) (fun q => absurd q (by decide))
  have D2 : DES L xs g n nd af om nt HX fv ch dr h2 := D1.fa F2' C2 ⟨by rw [F2.kd]; exact k2'.1, by rw [e4]; exact k2'.2.1, by rw [e6]; exact k2'.2.2.1, by rw [F2.kd]; exact k2'.2.2.2.1, by rw [F2.ln]; exact k2'.2.2.2.2.1, by rw [F2.kd]; exact k2'.2.2.2.2.2.1, by rw [F2.ln]; exact k2'.2.2.2.2.2.2⟩
  obtain ⟨k0'', ⟨r0'', r3'', r5'', r8'', r9'', r10'', r11''⟩, k2'', k3'', k4'', k5''⟩ := id D2.1.2
  obtain ⟨-, -, kc⟩ := D2.1.1.cl (i := c) hc
  rw [r10'', D2.1.1.im (1047 + c) xa xb, D2.1.1.im (1047 + c) xa xb]
  have SJ : SDJ 1107 (1067 + 13 + 2) 1110 := by unfold SDJ; decide
  refine ⟨D2.k1, kc, kc, ⟨k2''.1, by decide⟩, s141h (d := d) D2.1.1 O SJ T (fun h3 R => ?_)⟩
  have F3 : FR wA wAs h2 h3 := R.1.up (fun a q => by unfold wSP wS wP at q; unfold wA; omega) (fun _ q => q.elim)
  have D3 : DES L xs g n nd af om nt HX fv ch dr h3 := D2.fa F3 (k5''.fr0 R.1) ⟨by rw [R.1.kd]; exact k2''.1, by rw [R.1.rm (fun q => q)]; exact k2''.2.1, by rw [R.1.rm (fun q => q)]; exact k2''.2.2.1, by rw [R.1.kd]; exact k2''.2.2.2.1, by rw [R.1.ln]; exact k2''.2.2.2.2.1, by rw [R.1.kd]; exact k2''.2.2.2.2.2.1, by rw [R.1.ln]; exact k2''.2.2.2.2.2.2⟩
  rw [D3.1.2.2.1.2.2.2.2.2.2, R.2.2, D2.2.1, F2.im (show ¬ (1110 = 1107) by decide), z1, Int32.zero_add]
  refine ⟨D3.k1, ⟨D3.1.2.2.2.2.1.1, by decide⟩, ?_⟩
  have := K h3 D3 ((F1'.tr F2').tr F3)
  rw [show fD g fv (p_im h2 (1067 + 13 + 2)) (p_im g (1047 + c) 10) 600 (p_im g (1047 + c) 9) [] = itd g fv (plI (orM g n nd af om fv ch dr)) c from itd_congr (fun o ho => D2.dn.2.2.1.2.2.2 o ho) c]
  exact this
end ASK1
