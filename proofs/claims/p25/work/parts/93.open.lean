/-! A library is opened: its tokens are read. -/
theorem FR.cp {Wi Wr : Nat → Prop} {h : PH} {a : Nat} (s sp dp n : Nat) (ha : Wi a) : FR Wi Wr h (p_cp h s sp a dp n) := ⟨rfl, rfl, rfl, rfl, fun x hx j => by rw [cp_im, if_neg (fun q : x = a ∧ dp ≤ j ∧ j < dp + n => hx (by rw [q.1]; exact ha))], fun _ _ _ => rfl⟩
def TOK0 (h : PH) : Prop := TOKS h ∧ p_rm h 1036 0 = 1037 ∧ p_kd h 1037 = 120 ∧ p_ln h 1037 = 3000
theorem TOK0.fr {Wi Wr : Nat → Prop} {h h1 : PH} (O : TOK0 h) (A : FR Wi Wr h h1) (hr : ¬ Wr 1036) : TOK0 h1 := ⟨O.1.fr A hr, by rw [A.rm hr]; exact O.2.1, by rw [A.kd]; exact O.2.2.1, by rw [A.ln]; exact O.2.2.2⟩
theorem s76 {d L : Nat} {xs : Nat → Int32} {X : List Lx} {h : PH} {Q : PH → Prop} (C : CO L xs h) (O : TOK0 h) (hX : X.length ≤ 600) (ok : tlok X) (hl : (lbn X).length ≤ 3000) (k1 : p_kd h 1001 = 120) (l1 : p_ln h 1001 = 3000) (v1 : ∀ i, i < (lbn X).length → p_im h 1001 i = Int32.ofNat ((lbn X).getD i 0))
    (K : ∀ h1, FR wT wTr h h1 → TXT (lbn X) h1 → TKN X h1 → Q h1) : CV (d + 8) 76 [.ref 1036, .ref 1001, .int (Int32.ofNat (lbn X).length)] h Q := by
  obtain ⟨O1, q0, q1, q2⟩ := id O
  have o1 := O1.1
  rw [e76, k1, l1]
  refine ⟨⟨by decide, by decide⟩, s21 (a := 3000) (b := 3000) (by decide) (by decide) (Nat.le_refl _) ?_⟩
  refine s21 (a := (lbn X).length) (b := 3000) (by omega) (by decide) hl ?_
  have go : ∀ n, n = (lbn X).length → (p_kd h 1036 = 4 ∧ 1000 ≤ 1036) ∧ (p_kd (p_wi h 1036 1 (Int32.ofNat n)) 1036 = 4 ∧ ¬ 1036 = 0) ∧ (p_kd (p_wi h 1036 1 (Int32.ofNat n)) 1036 = 4 ∧ ¬ 1036 = 0) ∧ (((p_kB (p_kd (p_wi h 1036 1 (Int32.ofNat n)) 1001) = true ∧ ¬ 1001 = 0) ∧ (p_kd (p_wi h 1036 1 (Int32.ofNat n)) (p_rm (p_wi h 1036 1 (Int32.ofNat n)) 1036 0) = 120 ∧ 1000 ≤ (p_rm (p_wi h 1036 1 (Int32.ofNat n)) 1036 0))) ∧ (0 ≤ ((0 : Int32)).toInt ∧ 0 ≤ ((0 : Int32)).toInt ∧ 0 ≤ ((p_im (p_wi h 1036 1 (Int32.ofNat n)) 1036 1)).toInt) ∧ 0 + ((p_im (p_wi h 1036 1 (Int32.ofNat n)) 1036 1)).toNatClampNeg ≤ p_ln (p_wi h 1036 1 (Int32.ofNat n)) 1001 ∧ 0 + ((p_im (p_wi h 1036 1 (Int32.ofNat n)) 1036 1)).toNatClampNeg ≤ p_ln (p_wi h 1036 1 (Int32.ofNat n)) (p_rm (p_wi h 1036 1 (Int32.ofNat n)) 1036 0)) ∧ ((p_kd (p_cp (p_wi h 1036 1 (Int32.ofNat n)) 1001 0 (p_rm (p_wi h 1036 1 (Int32.ofNat n)) 1036 0) 0 ((p_im (p_wi h 1036 1 (Int32.ofNat n)) 1036 1)).toNatClampNeg) 1036 = 4 ∧ 1000 ≤ 1036) ∧ wp (d + 7) 76 27 [.val (.ref 1036), .unset, .unset, .val (.int (0 : Int32)), .val (.int (0 : Int32)), .val (.int (0 : Int32)), .unset, .unset] [] (p_wi (p_cp (p_wi h 1036 1 (Int32.ofNat n)) 1001 0 (p_rm (p_wi h 1036 1 (Int32.ofNat n)) 1036 0) 0 ((p_im (p_wi h 1036 1 (Int32.ofNat n)) 1036 1)).toNatClampNeg) 1036 6 (0 : Int32)) (fun v h1 => onV v (Q h1))) := by
    intro n hn
    have i1 : p_im (p_wi h 1036 1 (Int32.ofNat n)) 1036 1 = Int32.ofNat n := by rw [wi_im, if_pos ⟨rfl, rfl⟩]
    have r1 : p_rm (p_wi h 1036 1 (Int32.ofNat n)) 1036 0 = 1037 := by rw [wi_rm, q0]
    have g1 : p_kd (p_wi h 1036 1 (Int32.ofNat n)) = p_kd h := rfl
    have g2 : p_ln (p_wi h 1036 1 (Int32.ofNat n)) = p_ln h := rfl
    have g3 : p_kd (p_cp (p_wi h 1036 1 (Int32.ofNat n)) 1001 0 1037 0 n) = p_kd h := rfl
    rw [i1, r1, i_nat (by omega), g1, g2, g3, o1, k1, q1, l1, q2, i_int (by omega)]
    refine ⟨⟨rfl, by decide⟩, ⟨rfl, by decide⟩, ⟨rfl, by decide⟩, ⟨⟨⟨by decide, by decide⟩, rfl, by decide⟩, ⟨by decide, by decide, by omega⟩, by omega, by omega⟩, ⟨rfl, by decide⟩, ?_⟩
    have F : FR wT wTr h (p_wi (p_cp (p_wi h 1036 1 (Int32.ofNat n)) 1001 0 1037 0 n) 1036 6 0) := ((FR.wi (Wi := wT) (Wr := wTr) (a := 1036) _ (Or.inl rfl)).tr (FR.cp (a := 1037) 1001 0 0 n (Or.inr (Or.inl rfl)))).tr (FR.wi (a := 1036) _ (Or.inl rfl))
    have T : TXT (lbn X) (p_wi (p_cp (p_wi h 1036 1 (Int32.ofNat n)) 1001 0 1037 0 n) 1036 6 0) := by
      refine ⟨o1, q0, q1, q2, ?_, hl, (lbs_lbn ok).2, fun i hi => ?_⟩
      · rw [wi_im, if_neg (by omega), cp_im, if_neg (by omega), i1, hn]
      · rw [wi_im, if_neg (by omega), cp_im, if_pos (by omega), wi_im, if_neg (by omega), show 0 + (i - 0) = i from by omega, v1 i hi]
    have C1 := C.fr F (fun a ha q => by unfold wT at q; omega) (fun a ha q => by unfold wTr at q; omega)
    exact l76 (d := d) (Q := fun v h1 => onV v (Q h1)) hX rfl X [] 0 0 _ rfl ok ⟨[], rfl, rfl⟩ rfl C1 (O1.fr F (by unfold wTr; decide)) T (fun i hi => absurd hi (Nat.not_lt_zero _)) (fun h1 F1 T1 N1 => K h1 (F.tr F1) T1 N1)
  refine s18 (fun hz => go (lbn X).length rfl) (fun hz => go 0 ?_)
  rw [i_ofNat0, i_lt (by decide) (by omega)] at hz
  omega
def wO (a : Nat) : Prop := a = 1034 ∨ wT a
theorem s77 {d L : Nat} {xs : Nat → Int32} {X : List Lx} {h : PH} {Q : PH → Prop} (C : CO L xs h) (O : TOK0 h) (k0 : p_kd h 1034 = 2) (r1 : p_rm h 1034 1 = 1036) (hX : X.length ≤ 600) (ok : tlok X) (hl : (lbn X).length ≤ 3000) (k1 : p_kd h 1001 = 120) (l1 : p_ln h 1001 = 3000) (v1 : ∀ i, i < (lbn X).length → p_im h 1001 i = Int32.ofNat ((lbn X).getD i 0))
    (K : ∀ h1, FR wO wTr h h1 → TXT (lbn X) h1 → TKN X h1 → p_im h1 1034 7 = 0 → p_im h1 1034 8 = 0 → p_im h1 1034 9 = 0 → p_im h1 1034 10 = 0 → Q h1) : CV (d + 9) 77 [.ref 1034, .ref 1001, .int (Int32.ofNat (lbn X).length)] h Q := by
  rw [e77]
  have F : FR wO wTr h (p_wi (p_wi (p_wi (p_wi (p_wi h 1034 7 0) 1034 8 0) 1034 9 0) 1034 10 0) 1034 11 0) := ((((FR.wi (Wi := wO) (Wr := wTr) (a := 1034) _ (Or.inl rfl)).tr (FR.wi (a := 1034) _ (Or.inl rfl))).tr (FR.wi (a := 1034) _ (Or.inl rfl))).tr (FR.wi (a := 1034) _ (Or.inl rfl))).tr (FR.wi (a := 1034) _ (Or.inl rfl))
  have g : p_rm (p_wi (p_wi (p_wi (p_wi (p_wi h 1034 7 0) 1034 8 0) 1034 9 0) 1034 10 0) 1034 11 0) 1034 1 = 1036 := r1
  have im : ∀ j, j = 7 ∨ j = 8 ∨ j = 9 ∨ j = 10 → p_im (p_wi (p_wi (p_wi (p_wi (p_wi h 1034 7 0) 1034 8 0) 1034 9 0) 1034 10 0) 1034 11 0) 1034 j = 0 := fun j hj => by
    rcases hj with rfl | rfl | rfl | rfl
    · rw [wi_im, if_neg (by omega), wi_im, if_neg (by omega), wi_im, if_neg (by omega), wi_im, if_neg (by omega), wi_im, if_pos ⟨rfl, rfl⟩]
    · rw [wi_im, if_neg (by omega), wi_im, if_neg (by omega), wi_im, if_neg (by omega), wi_im, if_pos ⟨rfl, rfl⟩]
    · rw [wi_im, if_neg (by omega), wi_im, if_neg (by omega), wi_im, if_pos ⟨rfl, rfl⟩]
    · rw [wi_im, if_neg (by omega), wi_im, if_pos ⟨rfl, rfl⟩]
  have O1 := O.fr F (by unfold wTr; decide)
  rw [g]
  refine ⟨⟨k0, by decide⟩, ⟨k0, by decide⟩, ⟨k0, by decide⟩, ⟨k0, by decide⟩, ⟨k0, by decide⟩, ⟨k0, by decide⟩, ⟨O1.1.1, by decide⟩, ?_⟩
  have n1 : ¬ wO 1001 := by unfold wO wT; decide
  refine s76 (C.fr F (fun a ha q => by unfold wO wT at q; omega) (fun a ha q => by unfold wTr at q; omega)) O1 hX ok hl (by rw [F.kd, k1]) (by rw [F.ln, l1]) (fun i hi => by rw [F.im n1, v1 i hi]) (fun h1 F1 T1 N1 => ?_)
  have n2 : ¬ wT 1034 := by unfold wT; decide
  refine K h1 (F.tr (F1.up (fun a q => Or.inr q) (fun a q => q))) T1 N1 ?_ ?_ ?_ ?_
  · rw [F1.im n2, im 7 (by omega)]
  · rw [F1.im n2, im 8 (by omega)]
  · rw [F1.im n2, im 9 (by omega)]
  · rw [F1.im n2, im 10 (by omega)]
