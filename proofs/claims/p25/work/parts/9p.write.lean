/-! The contract is written: only lengths, and what was shown. -/
def itd (g : PH) (fv pl : Nat → Int32) (x : Nat) : Int32 := fD g fv pl (p_im g (1047 + x) 10) 600 (p_im g (1047 + x) 9) []
def itn (g : PH) (fv : Nat → Int32) (x : Nat) (sh : List Int32) : List Int32 := fN g fv (p_im g (1047 + x) 10) 600 (p_im g (1047 + x) 9) [] sh
def shW (g : PH) (fv : Nat → Int32) : List Nat → List Int32 → List Int32
  | [], sh => sh
  | x :: r, sh => shW g fv r (itn g fv x sh)
def bdW (g : PH) (fv : Nat → Int32) : List Nat → List Int32 → List Nat
  | [], _ => []
  | x :: r, sh => (itn g fv x sh).length :: bdW g fv r (itn g fv x sh)
def wWr (c a : Nat) : Prop := (c + 5 ≤ a ∧ a ≤ c + 8) ∨ (c + 16 ≤ a ∧ a ≤ c + 19)
section WRT
variable {d L n om c m : Nat} {xs : Nat → Int32} {g h : PH} {nd br af : Nat → Nat} {sh : List Int32}
theorem l149 {m0 : Nat} {ord : List Nat} {fv pl : Nat → Int32} {Q : Option Value → PH → Prop} (V : LD g n nd br af om) (hx : ∀ x ∈ ord, x < n) (ho : ord.length ≤ 7) : ∀ (R P : List Nat) (sh : List Int32) (h : PH), ord = P ++ R → LIB L xs g h → CTS h c m → SCO h (c + 5) (c + 15) (c + 18) m → SSH h (c + 5) sh → DRO h (c + 13) m0 ord → p_im h 1066 = fv → p_im h (c + 15) = pl →
    (∀ h1, FR (wWr c) w0 h h1 → SSH h1 (c + 5) (shW g fv R sh) → p_im h1 (c + 18) 1 = p_im h (c + 18) 1 + sumI (fun x => 4 + itd g fv pl x) R → (∀ j, j < P.length → p_im h1 (c + 8) j = p_im h (c + 8) j) → (∀ j, j < R.length → p_im h1 (c + 8) (P.length + j) = Int32.ofNat ((bdW g fv R sh).getD j 0)) → Q none h1) →
    wp (d + 5) 149 6 [.val (.ref c), .val (.ref 1034), .val (.ref (c + 18)), .val (.int (Int32.ofNat P.length)), .unset] [] h Q := by
  intro R
  induction R with
  | nil =>
    intro P sh h e B S O T RO ef ep K
    have hc0 : ¬ c = 0 := by have := S.2.1; omega
    have e : ord = P := by rw [e, List.append_nil]
    have n1 : ord.length < 2147483648 := by omega
    have nn : ¬ ord.length < ord.length := by omega
    rw [r149_6, S.2.2.1, RO.2.1, ← e, if_neg (by rw [i_lt n1 n1]; exact nn)]
    refine ⟨⟨S.1, hc0⟩, ⟨S.2.2.2.2.2.2.2.2.2.2.2.2.2.2.2.2.2.1.1, by omega⟩, K h FR.rf T ?_ (fun _ _ => rfl) (fun j hj => absurd hj (Nat.not_lt_zero _))⟩
    show _ = _ + (0 : Int32)
    rw [Int32.add_zero]
  | cons x R ih =>
    intro P sh h e B S O T RO ef ep K
    have hc := S.2.1
    have hc0 : ¬ c = 0 := by omega
    have hd0 : ¬ c + 13 = 0 := by omega
    have hs0 : ¬ c + 5 = 0 := by omega
    have hp0 : ¬ c + 18 = 0 := by omega
    have el : ord.length = P.length + (R.length + 1) := by rw [e, List.length_append]; rfl
    have gx : ord.getD P.length 0 = x := by
      have := getD_app2 (l := P) (r := x :: R) (d := 0) (j := 0)
      rw [Nat.add_zero] at this
      rw [e, this]; rfl
    have hxn : x < n := hx x (by rw [e]; exact List.mem_append.mpr (Or.inr List.mem_cons_self))
    have x16 : x < 16 := by have := V.1; omega
    have x31 : x < 2147483648 := by omega
    have p16 : P.length < 16 := by omega
    have p31 : P.length < 2147483648 := by omega
    have o31 : ord.length < 2147483648 := by omega
    have plt : P.length < ord.length := by omega
    have dlp : dl (Int32.ofNat P.length + 1) = 1 := by rw [i_ofNat1, i_add]; exact dl_small _ (by omega)
    have g16 : 1000 ≤ c + 13 + 3 := by omega
    have g17 : 1000 ≤ c + 13 + 4 := by omega
    have g8 : 1000 ≤ c + 8 := by omega
    have g14 : ¬ c + 13 + 1 = 0 := by omega
    have w16 : wWr c (c + 13 + 3) := by unfold wWr; omega
    have w17 : wWr c (c + 13 + 4) := by unfold wWr; omega
    have w8 : wWr c (c + 8) := by unfold wWr; omega
    have wp18 : ∀ a, wP (c + 18) a → wWr c a := fun a z => by unfold wP at z; unfold wWr; omega
    have wsp : ∀ a, wSP (c + 5) (c + 18) a → wWr c a := fun a z => by unfold wSP wS wP at z; unfold wWr; omega
    have wct : ∀ a, wWr c a → wCt c a := fun a z => by unfold wWr at z; unfold wCt; omega
    have n13 : ∀ a, c + 13 ≤ a → a ≤ c + 15 → ¬ wWr c a := fun a q1 q2 z => by unfold wWr at z; omega
    have n66 : ¬ wWr c 1066 := fun z => by unfold wWr at z; omega
    have q13 := n13 (c + 13) (by omega) (by omega)
    have q14 := n13 (c + 13 + 1) (by omega) (by omega)
    have q15 := n13 (c + 13 + 2) (by omega) (by omega)
    have s5 : ¬ wP (c + 18) (c + 5) := by unfold wP; omega
    have s7 : ¬ wP (c + 18) (c + 5 + 2) := by unfold wP; omega
    have p16' : ¬ wP (c + 18) (c + 8) := by unfold wP; omega
    have b8 : ¬ wSP (c + 5) (c + 18) (c + 8) := by unfold wSP wS wP; omega
    have v18 : ¬ c + 18 = c + 13 + 3 := by omega
    have v19 : ¬ c + 18 = c + 13 + 4 := by omega
    have v20 : ¬ c + 18 = c + 8 := by omega
    have v21 : ¬ c + 8 = c + 13 + 3 := by omega
    have v22 : ¬ c + 8 = c + 13 + 4 := by omega
    have v23 : ¬ c + 5 = c + 13 + 3 := by omega
    have v24 : ¬ c + 5 + 2 = c + 13 + 3 := by omega
    have v25 : ¬ c + 5 = c + 13 + 4 := by omega
    have v26 : ¬ c + 5 + 2 = c + 13 + 4 := by omega
    have v27 : ¬ c + 5 = c + 8 := by omega
    have v28 : ¬ c + 5 + 2 = c + 8 := by omega
    have elp : (P ++ [x]).length = P.length + 1 := by rw [List.length_append]; rfl
    have hj1 : ∀ j, j < P.length → j < (P ++ [x]).length := fun j hj => by rw [elp]; omega
    have hP1 : P.length < (P ++ [x]).length := by rw [elp]; omega
    have hs1 : ∀ j, P.length + (j + 1) = P.length + 1 + j := fun j => by omega
    have xa : 1034 ≤ 1047 + x := by omega
    have xb : 1047 + x < 1066 := by omega
    have e2 : ord = (P ++ [x]) ++ R := by rw [e, List.append_assoc]; rfl
    have D := S.sdj
    have hpg := O.pg
    have dd : ∀ {h' : PH}, CTS h' c m → DRS h' (c + 13) m := fun z => z.2.2.2.2.2.2.2.2.2.2.2.2.2.2.2.2.2.1
    have d0 := dd S
    rw [r149_6, S.2.2.1, RO.2.1, if_pos (by rw [i_lt p31 o31]; exact plt), d0.2.2.1, d0.2.2.2.2.2.2.2.1.1, d0.2.2.2.2.2.2.2.1.2, i_nat p31, RO.2.2.1 _ plt, gx, i_nat x31]
    refine ⟨⟨S.1, hc0⟩, ⟨d0.1, hd0⟩, ⟨S.1, hc0⟩, ⟨d0.1, hd0⟩, ⟨⟨by decide, g14⟩, i_in p16 (by decide)⟩, ⟨hpg.1, hp0⟩, s134 (d := d + 3) hpg (fun h1 A1 => ⟨⟨(A1.p hpg).1, hp0⟩, s132 (d := d + 4) (A1.p hpg) (fun h2 A2 => ⟨⟨((A1.tr A2).p hpg).1, hp0⟩, s132 (d := d + 4) ((A1.tr A2).p hpg) (fun h3 A3 => ?_)⟩)⟩)⟩
    rw [dlp] at A1
    have A := (A1.tr A2).tr A3
    have F3 : FR (wWr c) w0 h h3 := A.1.up wp18 (fun _ z => z)
    have S3 := S.fr0 A.1
    have d3 := dd S3
    rw [S3.2.2.1, d3.2.2.2.2.1, d3.2.2.2.2.2.2.2.2.2.1.1, d3.2.2.2.2.2.2.2.2.2.1.2]
    have FH : FR (wWr c) w0 h3 (p_wi h3 (c + 13 + 3) x (p_im h3 (c + 18) 1)) := FR.wi _ w16
    generalize hH : p_wi h3 (c + 13 + 3) x (p_im h3 (c + 18) 1) = H at *
    have i18 : p_im H (c + 18) 1 = p_im h3 (c + 18) 1 := by rw [← hH, wi_im, if_neg (fun z => v18 z.1)]
    have i8 : p_im H (c + 8) = p_im h3 (c + 8) := by funext j; rw [← hH, wi_im, if_neg (fun z => v21 z.1)]
    have TH : SSH H (c + 5) sh := by
      have := T.fr A.1 s5 s7
      rw [← hH]
      exact this.fr (FR.wi (Wi := fun a => a = c + 13 + 3) (Wr := w0) _ rfl) v23 v24
    have F4 := F3.tr FH
    have FC : ∀ {h' : PH}, FR (wWr c) w0 h h' → LIB L xs g h' := fun F => B.ct hc (F.up wct (fun _ z => z.elim))
    have BH := FC F4
    have SH := S3.fr0 FH
    have OH : SCO H (c + 5) (c + 15) (c + 18) m := O.fr F4 (fun z => z) (fun z => z)
    obtain ⟨cl1, cl2, cl3⟩ := BH.cl x16
    rw [i_nat x31] at cl2
    rw [cl2, BH.im (1047 + x) xa xb, BH.im (1047 + x) xa xb, SH.2.2.2.2.1]
    refine ⟨⟨S3.1, hc0⟩, ⟨d3.1, hd0⟩, ⟨(A.p hpg).1, hp0⟩, ⟨⟨rfl, g16⟩, i_in x16 (by decide)⟩, ⟨SH.1, hc0⟩, BH.lb, cl1, cl3, BH.lb, cl1, cl3, ⟨OH.1, hs0⟩, s141h (d := d) BH OH D TH (fun h4 R4 => ?_)⟩
    have fH : p_im H 1066 = fv := (funext (fun j => F4.im n66 j)).trans ef
    have pH : p_im H (c + 15) = pl := (funext (fun j => F4.im q15 j)).trans ep
    rw [fH, pH] at R4
    have F5 := F4.tr (R4.1.up wsp (fun _ z => z))
    have S4 := SH.fr0 R4.1
    have d4 := dd S4
    rw [S4.2.2.1, d4.2.2.2.2.2.1, d4.2.2.2.2.2.2.2.2.2.2.1.1, d4.2.2.2.2.2.2.2.2.2.2.1.2]
    have FG : FR (wWr c) w0 h4 (p_wi h4 (c + 13 + 4) x (p_im h4 (c + 18) 1)) := FR.wi _ w17
    generalize hG : p_wi h4 (c + 13 + 4) x (p_im h4 (c + 18) 1) = G at *
    have j18 : p_im G (c + 18) 1 = p_im h4 (c + 18) 1 := by rw [← hG, wi_im, if_neg (fun z => v19 z.1)]
    have j8 : p_im G (c + 8) = p_im h4 (c + 8) := by funext j; rw [← hG, wi_im, if_neg (fun z => v22 z.1)]
    have TG : SSH G (c + 5) (itn g fv x sh) := by
      rw [← hG]
      exact R4.2.1.ssh.fr (FR.wi (Wi := fun a => a = c + 13 + 4) (Wr := w0) _ rfl) v25 v26
    have F6 := F5.tr FG
    have SG := S4.fr0 FG
    have OG : SCO G (c + 5) (c + 15) (c + 18) m := O.fr F6 (fun z => z) (fun z => z)
    refine ⟨⟨S4.1, hc0⟩, ⟨d4.1, hd0⟩, ⟨(R4.sco OH).pg.1, hp0⟩, ⟨⟨rfl, g17⟩, i_in x16 (by decide)⟩, ⟨OG.pg.1, hp0⟩, s132 (d := d + 4) OG.pg (fun h5 A5 => ?_)⟩
    have F7 := F6.tr (A5.1.up wp18 (fun _ z => z))
    have S5 := SG.fr0 A5.1
    have T5 := TG.fr A5.1 s5 s7
    rw [S5.2.2.2.2.1, S5.2.2.2.2.2.1, S5.2.2.2.2.2.2.2.2.2.2.1.1, S5.2.2.2.2.2.2.2.2.2.2.1.2, T5.1, i_ofNat1, i_add]
    refine ⟨⟨S5.1, hc0⟩, ⟨S5.1, hc0⟩, ⟨(A5.p OG.pg |> fun _ => (O.fr F7 (fun z => z) (fun z => z)).1), hs0⟩, ⟨⟨rfl, g8⟩, i_in p16 (by decide)⟩, ?_⟩
    have FZ : FR (wWr c) w0 h5 (p_wi h5 (c + 8) P.length (Int32.ofNat (itn g fv x sh).length)) := FR.wi _ w8
    have z8 : ∀ j, p_im (p_wi h5 (c + 8) P.length (Int32.ofNat (itn g fv x sh).length)) (c + 8) j = if j = P.length then Int32.ofNat (itn g fv x sh).length else p_im h (c + 8) j := fun j => by
      rw [wi_im]
      by_cases y : j = P.length
      · rw [if_pos ⟨rfl, y⟩, if_pos y]
      · rw [if_neg (fun q => y q.2), if_neg y, A5.1.im p16', j8, R4.1.im b8, i8, A.1.im p16']
    have z18 : p_im (p_wi h5 (c + 8) P.length (Int32.ofNat (itn g fv x sh).length)) (c + 18) 1 = p_im h (c + 18) 1 + (4 + itd g fv pl x) := by
      rw [wi_im, if_neg (fun z => v20 z.1), A5.2, j18, R4.2.2, i18, A.2]
      show p_im h (c + 18) 1 + (1 + 1 + 1) + itd g fv pl x + 1 = _
      grind
    have TZ : SSH (p_wi h5 (c + 8) P.length (Int32.ofNat (itn g fv x sh).length)) (c + 5) (itn g fv x sh) := T5.fr (FR.wi (Wi := fun a => a = c + 8) (Wr := w0) _ rfl) v27 v28
    have F8 := F7.tr FZ
    have K1 := ih (P ++ [x]) (itn g fv x sh) _ e2 (FC F8) (S5.fr0 FZ) (O.fr F8 (fun z => z) (fun z => z)) TZ (RO.fr F8 q13 q14 q15) ((funext (fun j => F8.im n66 j)).trans ef) ((funext (fun j => F8.im q15 j)).trans ep) (fun h9 F9 T9 l9 u9 w9 => K h9 (F8.tr F9) T9 ?_ (fun j hj => ?_) (fun j hj => ?_))
    · rw [elp] at K1
      exact K1
    · rw [l9, z18, Int32.add_assoc]; rfl
    · rw [u9 j (hj1 j hj), z8, if_neg (Nat.ne_of_lt hj)]
    · cases j with
      | zero =>
        show p_im h9 (c + 8) P.length = Int32.ofNat (itn g fv x sh).length
        rw [u9 _ hP1, z8, if_pos rfl]
      | succ j =>
        have := w9 j (Nat.lt_of_succ_lt_succ hj)
        rw [elp] at this
        rw [hs1, this]
        rfl
theorem s149 {m0 : Nat} {ord : List Nat} {Q : PH → Prop} (V : LD g n nd br af om) (hx : ∀ x ∈ ord, x < n) (ho : ord.length ≤ 7) (B : LIB L xs g h) (S : CTS h c m) (O : SCO h (c + 5) (c + 15) (c + 18) m) (T : SSH h (c + 5) sh) (RO : DRO h (c + 13) m0 ord)
    (K : ∀ h1, FR (wWr c) w0 h h1 → SSH h1 (c + 5) (shW g (p_im h 1066) ord sh) → p_im h1 (c + 18) 1 = p_im h (c + 18) 1 + sumI (fun x => 4 + itd g (p_im h 1066) (p_im h (c + 15)) x) ord → (∀ j, j < ord.length → p_im h1 (c + 8) j = Int32.ofNat ((bdW g (p_im h 1066) ord sh).getD j 0)) → Q h1) : CV (d + 6) 149 [.ref c, .ref 1034] h Q := by
  have hc0 : ¬ c = 0 := by have := S.2.1; omega
  have hd0 : ¬ c + 13 = 0 := by omega
  have d0 := S.2.2.2.2.2.2.2.2.2.2.2.2.2.2.2.2.2.1
  rw [e149, S.2.2.1, d0.2.2.2.2.2.2.1]
  refine ⟨⟨S.1, hc0⟩, ⟨d0.1, hd0⟩, ?_⟩
  refine l149 (d := d) (P := []) (m0 := m0) (ord := ord) (Q := fun v h1 => onV v (Q h1)) V hx ho ord sh h rfl B S O T RO rfl rfl (fun h1 F T1 l1 _ u1 => K h1 F T1 l1 (fun j hj => ?_))
  have := u1 j hj
  rwa [show ([] : List Nat).length + j = j from Nat.zero_add j] at this
end WRT
