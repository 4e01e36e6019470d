/-! A contract is drawn. -/
section DRAW1
variable {d L c m m0 n om nt : Nat} {xs : Nat → Int32} {g h : PH} {sh : List Int32} {ord bd KL : List Nat} {T : (Nat → Nat) × (Nat → Nat) × (Nat → Int32)} {nd br af : Nat → Nat} {HX : Nat → List (Nat × Nat)}
theorem l160b {Q : Option Value → PH → Prop} (en : p_im g 1034 9 = Int32.ofNat nt) (hnt : nt ≤ 24) (hHX : ∀ x ∈ ord, HDR g x (HX x)) : ∀ (R bs P bp : List Nat) (k : Nat) (da : Nat → Int32) (KL : List Nat) (h : PH), ord = P ++ R → bd = bp ++ bs → bp.length = P.length → bs.length = R.length → k ≤ sh.length → WRN L xs g c m m0 ord sh bd h → TLY h c T → FND h (c + 1) KL → (∀ z, z < 24 → p_im h (c + 12) z = da z) →
    (∀ h1, FR (wJ2 c) w0 h h1 → FND h1 (c + 1) ((KL ++ jal g ord T.1 sh HX R bs k da) ++ j8 T nt 0) → Q none h1) →
    wp (d + 3) 160 7 [.val (.ref c), .val (.ref 1034), .val (.int (Int32.ofNat k)), .val (.int (Int32.ofNat P.length)), .unset] [] h Q := by
  intro R
  induction R with
  | nil =>
    intro bs P bp k da KL h e eb l1 l2 hk W Y N Z K
    have hc0 : ¬ c = 0 := by have := W.2.1.2.1; omega
    have n13 : ¬ c + 13 = 0 := by omega
    have o7 := W.2.2.2.2.2.1
    have o31 : ord.length < 2147483648 := by omega
    have nn : ¬ ord.length < ord.length := by omega
    have wj : ∀ a, wFd (c + 1) a → wJ2 c a := fun a z => by unfold wFd at z; unfold wJ2; omega
    have e : ord = P := by rw [e, List.append_nil]
    have S := W.2.1
    rw [r160_7, S.2.2.1, W.2.2.2.1.2.1, ← e, if_neg (by rw [i_lt o31 o31]; exact nn)]
    refine ⟨⟨S.1, hc0⟩, ⟨S.2.2.2.2.2.2.2.2.2.2.2.2.2.2.2.2.2.1.1, n13⟩, l160d (d := d + 2) en hnt nt 0 KL h (Nat.zero_add _) W Y N (fun h1 F1 N1 => K h1 (F1.up wj (fun _ z => z)) ?_)⟩
    have : jal g ord T.1 sh HX [] bs k da = [] := by cases bs <;> rfl
    rw [this, List.append_nil]
    exact N1
  | cons x R ih =>
    intro bs P bp k da KL h e eb l1 l2 hk W Y N Z K
    cases bs with
    | nil => simp only [List.length_nil, List.length_cons] at l2; omega
    | cons b bs =>
      have hc0 : ¬ c = 0 := by have := W.2.1.2.1; omega
      have n13 : ¬ c + 13 = 0 := by omega
      have n14 : ¬ c + 13 + 1 = 0 := by omega
      have o7 := W.2.2.2.2.2.1
      have o31 : ord.length < 2147483648 := by omega
      have el : ord.length = P.length + (R.length + 1) := by rw [e, List.length_append]; rfl
      have plt : P.length < ord.length := by omega
      have p31 : P.length < 2147483648 := by omega
      have p16 : P.length < 16 := by omega
      have gx : ord.getD P.length 0 = x := by
        have := getD_app2 (l := P) (r := x :: R) (d := 0) (j := 0)
        rw [Nat.add_zero] at this
        rw [e, this]; rfl
      have gb : bd.getD P.length 0 = b := by
        have := getD_app2 (l := bp) (r := b :: bs) (d := 0) (j := 0)
        rw [Nat.add_zero] at this
        rw [eb, ← l1, this]; rfl
      have hxo : x ∈ ord := by rw [e]; exact List.mem_append.mpr (Or.inr List.mem_cons_self)
      have x16 : x < 16 := by have := W.2.2.2.2.2.2.1 x hxo; omega
      have hbs : b ≤ sh.length := W.2.2.2.2.2.2.2.2 _ (by rw [eb]; exact List.mem_append.mpr (Or.inr List.mem_cons_self))
      have hm : max k b ≤ sh.length := by omega
      have elp : (P ++ [x]).length = P.length + 1 := by rw [List.length_append]; rfl
      have elb : (bp ++ [b]).length = (P ++ [x]).length := by rw [List.length_append, List.length_append, l1]; rfl
      have e2 : ord = (P ++ [x]) ++ R := by rw [e, List.append_assoc]; rfl
      have eb2 : bd = (bp ++ [b]) ++ bs := by rw [eb, List.append_assoc]; rfl
      have l3 : bs.length = R.length := by simp only [List.length_cons] at l2; omega
      have wj : ∀ a, wFd (c + 1) a → wJ2 c a := fun a z => by unfold wFd at z; unfold wJ2; omega
      have f12 : ¬ wFd (c + 1) (c + 12) := by unfold wFd; omega
      have S := W.2.1
      have dd := S.2.2.2.2.2.2.2.2.2.2.2.2.2.2.2.2.2.1
      have HH := hHX x hxo
      rw [r160_7, S.2.2.1, W.2.2.2.1.2.1, if_pos (by rw [i_lt p31 o31]; exact plt), dd.2.2.1, dd.2.2.2.2.2.2.2.1.1, dd.2.2.2.2.2.2.2.1.2, i_nat p31, W.2.2.2.1.2.2.1 _ plt, gx]
      refine ⟨⟨S.1, hc0⟩, ⟨dd.1, n13⟩, ⟨S.1, hc0⟩, ⟨dd.1, n13⟩, ⟨⟨by decide, n14⟩, i_in p16 (by decide)⟩, ⟨S.1, hc0⟩, ?_⟩
      refine s157 (k := 1) (lk := 6) (d := d + 1) (Or.inl rfl) (Or.inr (Or.inl rfl)) x16 HH W N (fun h1 F1 N1 => ?_)
      have W1 := W.fr F1 (fun a z => wJ2d (wj a z))
      refine ⟨⟨W1.2.1.1, hc0⟩, s157 (k := 2) (lk := 5) (d := d + 1) (Or.inr (Or.inl rfl)) (Or.inl rfl) x16 HH W1 N1 (fun h2 F2 N2 => ?_)⟩
      have F12 := F1.tr F2
      have W2 := W.fr F12 (fun a z => wJ2d (wj a z))
      refine ⟨⟨W2.2.1.1, hc0⟩, s157 (k := 3) (lk := 7) (d := d + 1) (Or.inr (Or.inr rfl)) (Or.inr (Or.inr rfl)) x16 HH W2 N2 (fun h3 F3 N3 => ?_)⟩
      have F13 := F12.tr F3
      have W3 := W.fr F13 (fun a z => wJ2d (wj a z))
      refine l160c (d := d) plt gx gb (b - k) k da _ h3 rfl hk W3 (Y.fr F13 wj) N3 (fun z hz => by rw [F13.im f12, Z z hz]) (fun h4 F4 N4 Z4 => ?_)
      have F14 := (F13.up wj (fun _ z => z)).tr F4
      have K1 := ih bs (P ++ [x]) (bp ++ [b]) (max k b) _ _ h4 e2 eb2 elb l3 hm (W.fr F14 (fun a z => wJ2d z)) (Y.fr F14 (fun _ z => z)) N4 Z4 (fun h5 F5 N5 => K h5 (F14.tr F5) ?_)
      · rw [elp] at K1
        exact K1
      · have ea : KL ++ lkc ord x 1 6 (HX x) ++ lkc ord x 2 5 (HX x) ++ lkc ord x 3 7 (HX x) ++ jit g ord T.1 (evs sh (b - k) k) da = KL ++ (lnk ord x (HX x) ++ jit g ord T.1 (evs sh (b - k) k) da) := by
          unfold lnk
          rw [List.append_assoc, List.append_assoc, List.append_assoc, List.append_assoc, List.append_assoc]
        rw [ea, List.append_assoc KL] at N5
        exact N5
theorem s160 {Q : PH → Prop} (en : p_im g 1034 9 = Int32.ofNat nt) (hnt : nt ≤ 24) (hHX : ∀ x ∈ ord, HDR g x (HX x)) (W : WRN L xs g c m m0 ord sh bd h) (Y : TLY h c T) (Z : ∀ z, z < 24 → p_im h (c + 12) z = 0)
    (K : ∀ h1, FR (wJ2 c) w0 h h1 → FND h1 (c + 1) (jal g ord T.1 sh HX ord bd 0 (fun _ => 0) ++ j8 T nt 0) → Q h1) : CV (d + 4) 160 [.ref c, .ref 1034] h Q := by
  have hc0 : ¬ c = 0 := by have := W.2.1.2.1; omega
  have hc1 : ¬ c + 1 = 0 := by omega
  have g1 : 1000 ≤ c + 1 := by have := W.2.1.2.1; omega
  have wj : ∀ a, wFd (c + 1) a → wJ2 c a := fun a z => by unfold wFd at z; unfold wJ2; omega
  have f12 : ¬ wFd (c + 1) (c + 12) := by unfold wFd; omega
  rw [e160, W.2.1.2.2.2.1]
  refine ⟨⟨W.2.1.1, hc0⟩, ⟨W.f.1, hc1⟩, s153 (d := d + 2) W.f g1 (fun h1 F1 N1 => ?_)⟩
  refine l160b (d := d) (P := []) (Q := fun v h1 => onV v (Q h1)) en hnt hHX ord bd [] 0 (fun _ => 0) [] h1 rfl rfl rfl W.2.2.2.2.2.2.2.1 (Nat.zero_le _) (W.fr F1 (fun a z => wJ2d (wj a z))) (Y.fr F1 wj) N1 (fun z hz => by rw [F1.im f12, Z z hz]) (fun h2 F2 N2 => K h2 ((F1.up wj (fun _ z => z)).tr F2) ?_)
  rw [List.nil_append] at N2
  exact N2
/-! what a contract comes to -/
theorem gd_congr {f f1 : Nat → Int32} {n : Nat} (e : ∀ x, x < n → f x = f1 x) (hn : n < 100000) (t : Int32) : gd f n t = gd f1 n t := by
  unfold gd
  split
  · rfl
  · rename_i z
    split
    · rename_i y
      exact e _ (in_of z y (Nat.le_refl n) hn).2
    · rfl
theorem stD_congr {pl pl1 : Nat → Int32} (e : ∀ x, x < 16 → pl x = pl1 x) (t : Int32) (stk : List Int32) : stD g pl t stk = stD g pl1 t stk := by
  unfold stD acD
  rw [gd_congr e (by decide)]
theorem fD_congr {fv pl pl1 : Nat → Int32} {to : Int32} (e : ∀ x, x < 16 → pl x = pl1 x) : ∀ (k : Nat) (t : Int32) (stk : List Int32), fD g fv pl to k t stk = fD g fv pl1 to k t stk := by
  intro k
  induction k with
  | zero => intro t stk; rfl
  | succ k ih =>
    intro t stk
    unfold fD
    rw [stD_congr e, ih]
theorem itd_congr {fv pl pl1 : Nat → Int32} (e : ∀ x, x < 16 → pl x = pl1 x) (x : Nat) : itd g fv pl x = itd g fv pl1 x := fD_congr e _ _ _
def inM (g : PH) (n : Nat) (nd : Nat → Nat) (om : Nat) (fv : Nat → Int32) (ch dr : Nat) : Nat := clo nd dr n 16 (wnt ch dr om (hld g fv n))
def orM (g : PH) (n : Nat) (nd af : Nat → Nat) (om : Nat) (fv : Nat → Int32) (ch dr : Nat) : List Nat := arr af 16 (inM g n nd om fv ch dr)
def shM (g : PH) (n : Nat) (fv : Nat → Int32) (ord : List Nat) : List Int32 := shW g fv ord (shT g fv n)
def bdM (g : PH) (n : Nat) (fv : Nat → Int32) (ord : List Nat) : List Nat := bdW g fv ord (shT g fv n)
def ttM (g : PH) (n : Nat) (fv : Nat → Int32) (ord : List Nat) : (Nat → Nat) × (Nat → Nat) × (Nat → Int32) := tla g (shM g n fv ord) ord (bdM g n fv ord) 0 TL0
def klM (g : PH) (n : Nat) (HX : Nat → List (Nat × Nat)) (nt : Nat) (fv : Nat → Int32) (ord : List Nat) : List Nat := jal g ord (ttM g n fv ord).1 (shM g n fv ord) HX ord (bdM g n fv ord) 0 (fun _ => 0) ++ j8 (ttM g n fv ord) nt 0
def leM (g : PH) (fv : Nat → Int32) (ord : List Nat) : Int32 := sumI (fun x => 4 + itd g fv (plI ord) x) ord
def DRN (g : PH) (n : Nat) (nd af : Nat → Nat) (om : Nat) (HX : Nat → List (Nat × Nat)) (nt : Nat) (h : PH) (c : Nat) (fv : Nat → Int32) (ch dr : Nat) : Prop :=
  p_im h c 3 = Int32.ofNat (hld g fv n) ∧ p_im h c 4 = Int32.ofNat (wnt ch dr om (hld g fv n)) ∧ DRO h (c + 13) (inM g n nd om fv ch dr) (orM g n nd af om fv ch dr) ∧ TLY h c (ttM g n fv (orM g n nd af om fv ch dr)) ∧ FND h (c + 1) (klM g n HX nt fv (orM g n nd af om fv ch dr)) ∧ p_im h (c + 18) 1 = leM g fv (orM g n nd af om fv ch dr)
theorem inM_lt {fv : Nat → Int32} {ch dr : Nat} (V : LD g n nd br af om) (hch : ch < 2 ^ n) : inM g n nd om fv ch dr < 2 ^ n := clo_lt (fun i hi => (V.2.2.2.2.2 i hi).1.2) 16 _ (wnt_lt hch (hld_lt g fv n))
theorem sumI_congr {F F1 : Nat → Int32} (e : ∀ x, F x = F1 x) : ∀ l, sumI F l = sumI F1 l := fun l => by rw [show F = F1 from funext e]
theorem s161 {ch dr : Nat} {Q : PH → Prop} (V : LD g n nd br af om) (B : LIB L xs g h) (S : CTS h c m) (hch : ch < 2 ^ n) (en : p_im g 1034 9 = Int32.ofNat nt) (hnt : nt ≤ 24) (hHX : ∀ x, x < n → HDR g x (HX x))
    (K : ∀ h1, FR (wCt c) (wCs c) h h1 → CTS h1 c m → DRN g n nd af om HX nt h1 c (p_im h 1066) ch dr → Q h1) : CV (d + 7) 161 [.ref c, .ref 1034, .ref 1066, .int (Int32.ofNat ch), .int (Int32.ofNat dr)] h Q := by
  have hc := S.2.1
  have hc0 : ¬ c = 0 := by omega
  have hl := inM_lt (fv := p_im h 1066) (dr := dr) V hch
  have hmem : ∀ x ∈ orM g n nd af om (p_im h 1066) ch dr, x < n := fun x hx => bit_lt hl (arr_mem V.1 16 _ hl x hx)
  have hm7 : ∀ x ∈ orM g n nd af om (p_im h 1066) ch dr, x < 7 := fun x hx => by have := hmem x hx; have := V.1; omega
  have hlen : (orM g n nd af om (p_im h 1066) ch dr).length ≤ 7 := Nat.le_trans (arr_len V.1 16 _ hl) pop_le7
  have wct : ∀ a, wWr c a → wCt c a := fun a z => by unfold wWr at z; unfold wCt; omega
  have wtc : ∀ a, wTl c a → wCt c a := fun a z => by unfold wTl at z; unfold wCt; omega
  have wjc : ∀ a, wJ2 c a → wCt c a := fun a z => by unfold wJ2 at z; unfold wCt; omega
  have w66 : ¬ wCt c 1066 := by unfold wCt; omega
  have q13 : ¬ wWr c (c + 13) := by unfold wWr; omega
  have q14 : ¬ wWr c (c + 13 + 1) := by unfold wWr; omega
  have q15 : ¬ wWr c (c + 13 + 2) := by unfold wWr; omega
  have qc : ¬ wWr c c := by unfold wWr; omega
  have t8 : ¬ wTl c (c + 8) := by unfold wTl; omega
  have t5 : ¬ wTl c (c + 5) := by unfold wTl; omega
  have tc : ¬ wTl c c := by unfold wTl; omega
  have t18 : ¬ wTl c (c + 18) := by unfold wTl; omega
  have jc : ¬ wJ2 c c := by unfold wJ2; omega
  have j18 : ¬ wJ2 c (c + 18) := by unfold wJ2; omega
  rw [e161]
  refine ⟨⟨S.1, hc0⟩, s148 (d := d) V B S hch (fun h1 F1 S1 O1 T1 i1 w1 R1 z1 => ⟨⟨S1.1, hc0⟩, ?_⟩)⟩
  have B1 := B.ct hc F1
  have f1 : p_im h1 1066 = p_im h 1066 := funext (fun j => F1.im w66 j)
  refine s149 (d := d) V hmem hlen B1 S1 O1 T1 R1 (fun h2 F2 T2 l2 u2 => ?_)
  rw [f1] at T2 l2 u2
  have F2' : FR (wCt c) (wCs c) h1 h2 := F2.up wct (fun _ z => z.elim)
  have S2 := S1.fr0 F2
  have R2 := R1.fr F2 q13 q14 q15
  obtain ⟨b1, b2⟩ := bdW_le g (p_im h 1066) (orM g n nd af om (p_im h 1066) ch dr) (shT g (p_im h 1066) n)
  have W2 : WRN L xs g c m (inM g n nd om (p_im h 1066) ch dr) (orM g n nd af om (p_im h 1066) ch dr) (shM g n (p_im h 1066) (orM g n nd af om (p_im h 1066) ch dr)) (bdM g n (p_im h 1066) (orM g n nd af om (p_im h 1066) ch dr)) h2 :=
    ⟨B1.ct hc F2', S2, T2, R2, u2, hlen, hm7, b1, b2⟩
  refine ⟨⟨S2.1, hc0⟩, s152 (d := d + 2) W2 (fun h3 F3 Y3 Z3 => ?_)⟩
  have F3' : FR (wCt c) (wCs c) h2 h3 := F3.up wtc (fun _ z => z.elim)
  have W3 := W2.fr F3 (fun a z => Or.inr z)
  refine ⟨⟨W3.2.1.1, hc0⟩, s160 (d := d + 2) en hnt (fun x hx => hHX x (hmem x hx)) W3 Y3 Z3 (fun h4 F4 N4 => ?_)⟩
  have F4' : FR (wCt c) (wCs c) h3 h4 := F4.up wjc (fun _ z => z.elim)
  have W4 := W3.fr F4 (fun a z => wJ2d z)
  refine K h4 (((F1.tr F2').tr F3').tr F4') W4.2.1 ⟨?_, ?_, W4.2.2.2.1, Y3.fr F4 (fun _ z => z), N4, ?_⟩
  · rw [F4.im jc, F3.im tc, F2.im qc, i1]
  · rw [F4.im jc, F3.im tc, F2.im qc, w1]
  · rw [F4.im j18, F3.im t18, l2, z1, Int32.zero_add]
    exact sumI_congr (fun x => by rw [itd_congr (fun o ho => R1.2.2.2 o ho)]; rfl) _
end DRAW1
