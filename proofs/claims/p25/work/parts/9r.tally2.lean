/-! All terms are tallied. -/
def WRN (L : Nat) (xs : Nat → Int32) (g : PH) (c m m0 : Nat) (ord : List Nat) (sh : List Int32) (bd : List Nat) (h : PH) : Prop := LIB L xs g h ∧ CTS h c m ∧ SSH h (c + 5) sh ∧ DRO h (c + 13) m0 ord ∧ (∀ j, j < ord.length → p_im h (c + 8) j = Int32.ofNat (bd.getD j 0)) ∧ ord.length ≤ 7 ∧ (∀ x ∈ ord, x < 7) ∧ bd.length = ord.length ∧ ∀ b ∈ bd, b ≤ sh.length
def wJd (c a : Nat) : Prop := (c + 1 ≤ a ∧ a ≤ c + 4) ∨ wTl c a
theorem i_inc (i : Nat) : Int32.ofNat i + 1 = Int32.ofNat (i + 1) := by rw [i_ofNat1, i_add]
section TAL2
variable {d L n om c m m0 : Nat} {xs : Nat → Int32} {g h : PH} {sh : List Int32} {ord bd : List Nat}
theorem WRN.fr {Wi : Nat → Prop} {h1 : PH} (W : WRN L xs g c m m0 ord sh bd h) (F : FR Wi w0 h h1) (hW : ∀ a, Wi a → wJd c a) : WRN L xs g c m m0 ord sh bd h1 := by
  obtain ⟨w1, w2, w3, w4, w5, w6⟩ := W
  have hc := w2.2.1
  have n : ∀ a, (a < c + 1 ∨ (c + 4 < a ∧ a < c + 9) ∨ c + 12 < a) → ¬ Wi a := fun a q z => by have := hW a z; unfold wJd wTl at this; omega
  refine ⟨w1.fr F (fun a q => n a (by unfold wL at q; omega)) (fun _ _ z => z), w2.fr0 F, w3.fr F (n _ (by omega)) (n _ (by omega)), w4.fr F (n _ (by omega)) (n _ (by omega)) (n _ (by omega)), fun j hj => ?_, w6⟩
  rw [F.im (n _ (by omega)), w5 j hj]
theorem gDn_mem {l : List Nat} {i : Nat} (hi : i < l.length) : l.getD i 0 ∈ l := by
  rw [List.getD_eq_getElem?_getD, List.getElem?_eq_getElem hi]
  exact List.getElem_mem hi
theorem l152c {i x b : Nat} {Q : Option Value → PH → Prop} (hi : i < ord.length) (ex : ord.getD i 0 = x) (eb : bd.getD i 0 = b) : ∀ (j k : Nat) (T : (Nat → Nat) × (Nat → Nat) × (Nat → Int32)) (h : PH), b - k = j → k ≤ sh.length → WRN L xs g c m m0 ord sh bd h → TLY h c T →
    (∀ h1, FR (wTl c) w0 h h1 → TLY h1 c (tlr g x (evs sh j k) T) → p_im h1 (c + 12) = p_im h (c + 12) → wp (d + 3) 152 31 [.val (.ref c), .val (.ref 1034), .val (.int (Int32.ofNat (max k b))), .val (.int (Int32.ofNat (i + 1)))] [] h1 Q) →
    wp (d + 3) 152 36 [.val (.ref c), .val (.ref 1034), .val (.int (Int32.ofNat k)), .val (.int (Int32.ofNat i))] [] h Q := by
  intro j
  induction j with
  | zero =>
    intro k T h hj hk W Y K
    have hc0 : ¬ c = 0 := by have := W.2.1.2.1; omega
    have n8 : ¬ c + 8 = 0 := by omega
    have hbs : b ≤ sh.length := by rw [← eb]; exact W.2.2.2.2.2.2.2.2 _ (gDn_mem (by rw [W.2.2.2.2.2.2.2.1]; exact hi))
    have i16 : i < 16 := by have := W.2.2.2.2.2.1; omega
    have i31 : i < 2147483648 := by omega
    have s6 := W.2.2.1.2.1
    have k31 : k < 2147483648 := by omega
    have b31 : b < 2147483648 := by omega
    have nkb : ¬ k < b := by omega
    have em : max k b = k := by omega
    rw [r152_36, W.2.1.2.2.2.2.2.1, W.2.1.2.2.2.2.2.2.2.2.2.2.1.1, W.2.1.2.2.2.2.2.2.2.2.2.2.1.2, i_nat i31, W.2.2.2.2.1 i hi, eb, if_neg (by rw [i_lt k31 b31]; exact nkb), i_ofNat1, i_add]
    refine ⟨⟨W.2.1.1, hc0⟩, ⟨⟨by decide, n8⟩, i_in i16 (by decide)⟩, ?_⟩
    have := K h FR.rf Y rfl
    rwa [em] at this
  | succ j ih =>
    intro k T h hj hk W Y K
    have hc0 : ¬ c = 0 := by have := W.2.1.2.1; omega
    have n8 : ¬ c + 8 = 0 := by omega
    have n5 : ¬ c + 5 = 0 := by omega
    have n7 : ¬ c + 5 + 2 = 0 := by omega
    have n13 : ¬ c + 13 = 0 := by omega
    have n14 : ¬ c + 13 + 1 = 0 := by omega
    have hbs : b ≤ sh.length := by rw [← eb]; exact W.2.2.2.2.2.2.2.2 _ (gDn_mem (by rw [W.2.2.2.2.2.2.2.1]; exact hi))
    have i16 : i < 16 := by have := W.2.2.2.2.2.1; omega
    have i31 : i < 2147483648 := by omega
    have s6 := W.2.2.1.2.1
    have k31 : k < 2147483648 := by omega
    have k600 : k < 600 := by omega
    have ksh : k < sh.length := by omega
    have b31 : b < 2147483648 := by omega
    have nkb : k < b := by omega
    have em : max (k + 1) b = max k b := by omega
    have hj1 : b - (k + 1) = j := by omega
    have hk1 : k + 1 ≤ sh.length := by omega
    have wj : ∀ a, wTl c a → wJd c a := fun a z => Or.inr z
    have S := W.2.1
    have dd := S.2.2.2.2.2.2.2.2.2.2.2.2.2.2.2.2.2.1
    have sb := S.2.2.2.2.2.2.2.2.2.2.2.2.2.2.2.2.1
    rw [r152_36, S.2.2.2.2.2.1, S.2.2.2.2.2.2.2.2.2.2.1.1, S.2.2.2.2.2.2.2.2.2.2.1.2, i_nat i31, W.2.2.2.2.1 i hi, eb, if_pos (by rw [i_lt k31 b31]; exact nkb), S.2.2.2.2.1, sb.2.2.1, sb.2.2.2.2.2.1, sb.2.2.2.2.2.2, S.2.2.1, dd.2.2.1, dd.2.2.2.2.2.2.2.1.1, dd.2.2.2.2.2.2.2.1.2, i_nat k31, W.2.2.1.2.2 k ksh, W.2.2.2.1.2.2.1 i hi, ex]
    refine ⟨⟨S.1, hc0⟩, ⟨⟨by decide, n8⟩, i_in i16 (by decide)⟩, ⟨S.1, hc0⟩, ⟨sb.1, n5⟩, ⟨⟨by decide, n7⟩, i_in k600 (by decide)⟩, ⟨S.1, hc0⟩, ⟨dd.1, n13⟩, ⟨⟨by decide, n14⟩, i_in i16 (by decide)⟩, ⟨S.1, hc0⟩, s151 (d := d) W.1 S Y (fun h1 F1 Y1 e1 => ?_)⟩
    rw [i_ofNat1, i_add]
    refine ih (k + 1) _ h1 hj1 hk1 (W.fr F1 wj) Y1 (fun h2 F2 Y2 e2 => ?_)
    rw [em]
    exact K h2 (F1.tr F2) Y2 (e2.trans e1)
theorem l152b {Q : Option Value → PH → Prop} : ∀ (R bs P bp : List Nat) (k : Nat) (T : (Nat → Nat) × (Nat → Nat) × (Nat → Int32)) (h : PH), ord = P ++ R → bd = bp ++ bs → bp.length = P.length → bs.length = R.length → k ≤ sh.length → WRN L xs g c m m0 ord sh bd h → TLY h c T →
    (∀ h1, FR (wTl c) w0 h h1 → TLY h1 c (tla g sh R bs k T) → p_im h1 (c + 12) = p_im h (c + 12) → Q none h1) →
    wp (d + 3) 152 31 [.val (.ref c), .val (.ref 1034), .val (.int (Int32.ofNat k)), .val (.int (Int32.ofNat P.length))] [] h Q := by
  intro R
  induction R with
  | nil =>
    intro bs P bp k T h e eb l1 l2 hk W Y K
    have hc0 : ¬ c = 0 := by have := W.2.1.2.1; omega
    have n13 : ¬ c + 13 = 0 := by omega
    have o7 := W.2.2.2.2.2.1
    have o31 : ord.length < 2147483648 := by omega
    have nn : ¬ ord.length < ord.length := by omega
    have e : ord = P := by rw [e, List.append_nil]
    have S := W.2.1
    rw [r152_31, S.2.2.1, W.2.2.2.1.2.1, ← e, if_neg (by rw [i_lt o31 o31]; exact nn)]
    exact ⟨⟨S.1, hc0⟩, ⟨S.2.2.2.2.2.2.2.2.2.2.2.2.2.2.2.2.2.1.1, n13⟩, K h FR.rf (by cases bs <;> exact Y) rfl⟩
  | cons x R ih =>
    intro bs P bp k T h e eb l1 l2 hk W Y K
    cases bs with
    | nil => simp only [List.length_nil, List.length_cons] at l2; omega
    | cons b bs =>
      have hc0 : ¬ c = 0 := by have := W.2.1.2.1; omega
      have n13 : ¬ c + 13 = 0 := by omega
      have o7 := W.2.2.2.2.2.1
      have o31 : ord.length < 2147483648 := by omega
      have el : ord.length = P.length + (R.length + 1) := by rw [e, List.length_append]; rfl
      have plt : P.length < ord.length := by omega
      have p31 : P.length < 2147483648 := by omega
      have gx : ord.getD P.length 0 = x := by
        have := getD_app2 (l := P) (r := x :: R) (d := 0) (j := 0)
        rw [Nat.add_zero] at this
        rw [e, this]; rfl
      have gb : bd.getD P.length 0 = b := by
        have := getD_app2 (l := bp) (r := b :: bs) (d := 0) (j := 0)
        rw [Nat.add_zero] at this
        rw [eb, ← l1, this]; rfl
      have hbs : b ≤ sh.length := W.2.2.2.2.2.2.2.2 _ (by rw [eb]; exact List.mem_append.mpr (Or.inr List.mem_cons_self))
      have hm : max k b ≤ sh.length := by omega
      have elp : (P ++ [x]).length = P.length + 1 := by rw [List.length_append]; rfl
      have elb : (bp ++ [b]).length = (P ++ [x]).length := by rw [List.length_append, List.length_append, l1]; rfl
      have e2 : ord = (P ++ [x]) ++ R := by rw [e, List.append_assoc]; rfl
      have eb2 : bd = (bp ++ [b]) ++ bs := by rw [eb, List.append_assoc]; rfl
      have l3 : bs.length = R.length := by simp only [List.length_cons] at l2; omega
      have S := W.2.1
      rw [r152_31, S.2.2.1, W.2.2.2.1.2.1, if_pos (by rw [i_lt p31 o31]; exact plt)]
      refine ⟨⟨S.1, hc0⟩, ⟨S.2.2.2.2.2.2.2.2.2.2.2.2.2.2.2.2.2.1.1, n13⟩, l152c (d := d) plt gx gb (b - k) k T h rfl hk W Y (fun h1 F1 Y1 e1 => ?_)⟩
      have K1 := ih bs (P ++ [x]) (bp ++ [b]) (max k b) _ h1 e2 eb2 elb l3 hm (W.fr F1 (fun a z => Or.inr z)) Y1 (fun h2 F2 Y2 e3 => K h2 (F1.tr F2) Y2 (e3.trans e1))
      rw [elp] at K1
      exact K1
def TL0 : (Nat → Nat) × (Nat → Nat) × (Nat → Int32) := (fun _ => 0, fun _ => 0, fun _ => -1)
theorem l152a {Q : Option Value → PH → Prop} : ∀ (k i : Nat) (h : PH), i + k = 24 → WRN L xs g c m m0 ord sh bd h → (∀ y, y < i → (p_im h (c + 9) y = 0 ∧ p_im h (c + 10) y = 0) ∧ p_im h (c + 11) y = -1 ∧ p_im h (c + 12) y = 0) →
    (∀ h1, FR (wTl c) w0 h h1 → TLY h1 c TL0 → (∀ y, y < 24 → p_im h1 (c + 12) y = 0) → wp (d + 3) 152 31 [.val (.ref c), .val (.ref 1034), .val (.int (Int32.ofNat 0)), .val (.int (Int32.ofNat 0))] [] h1 Q) →
    wp (d + 3) 152 2 [.val (.ref c), .val (.ref 1034), .val (.int (Int32.ofNat i)), .unset] [] h Q := by
  intro k
  induction k with
  | zero =>
    intro i h hi W Z K
    have e : i = 24 := by omega
    rw [r152_2, e, if_neg (by decide)]
    rw [e] at Z
    exact K h FR.rf (fun y hy => ⟨(Z y hy).1.1, (Z y hy).1.2, (Z y hy).2.1⟩) (fun y hy => (Z y hy).2.2)
  | succ k ih =>
    intro i h hi W Z K
    have hc := W.2.1.2.1
    have hc0 : ¬ c = 0 := by omega
    have i24 : i < 24 := by omega
    have i31 : i < 2147483648 := by omega
    have g9 : 1000 ≤ c + 9 := by omega
    have g10 : 1000 ≤ c + 10 := by omega
    have g11 : 1000 ≤ c + 11 := by omega
    have g12 : 1000 ≤ c + 12 := by omega
    have hik : i + 1 + k = 24 := by omega
    have ys : ∀ y, y < i + 1 → ¬ y = i → y < i := fun y h1 h2 => by omega
    have S := W.2.1
    have F : FR (wTl c) w0 h (p_wi (p_wi (p_wi (p_wi h (c + 9) i 0) (c + 10) i 0) (c + 11) i (-1)) (c + 12) i 0) :=
      (((FR.wi (Wi := wTl c) (Wr := w0) (a := c + 9) _ (by unfold wTl; omega)).tr (FR.wi (a := c + 10) _ (by unfold wTl; omega))).tr (FR.wi (a := c + 11) _ (by unfold wTl; omega))).tr (FR.wi (a := c + 12) _ (by unfold wTl; omega))
    have z9 : ∀ y, p_im (p_wi (p_wi (p_wi (p_wi h (c + 9) i 0) (c + 10) i 0) (c + 11) i (-1)) (c + 12) i 0) (c + 9) y = if y = i then 0 else p_im h (c + 9) y := fun y => by
      rw [wi_im, if_neg (by omega), wi_im, if_neg (by omega), wi_im, if_neg (by omega), wi_im]
      by_cases e : y = i
      · rw [if_pos ⟨rfl, e⟩, if_pos e]
      · rw [if_neg (fun q => e q.2), if_neg e]
    have z10 : ∀ y, p_im (p_wi (p_wi (p_wi (p_wi h (c + 9) i 0) (c + 10) i 0) (c + 11) i (-1)) (c + 12) i 0) (c + 10) y = if y = i then 0 else p_im h (c + 10) y := fun y => by
      rw [wi_im, if_neg (by omega), wi_im, if_neg (by omega), wi_im]
      by_cases e : y = i
      · rw [if_pos ⟨rfl, e⟩, if_pos e]
      · rw [if_neg (fun q => e q.2), if_neg e, wi_im, if_neg (by omega)]
    have z11 : ∀ y, p_im (p_wi (p_wi (p_wi (p_wi h (c + 9) i 0) (c + 10) i 0) (c + 11) i (-1)) (c + 12) i 0) (c + 11) y = if y = i then -1 else p_im h (c + 11) y := fun y => by
      rw [wi_im, if_neg (by omega), wi_im]
      by_cases e : y = i
      · rw [if_pos ⟨rfl, e⟩, if_pos e]
      · rw [if_neg (fun q => e q.2), if_neg e, wi_im, if_neg (by omega), wi_im, if_neg (by omega)]
    have z12 : ∀ y, p_im (p_wi (p_wi (p_wi (p_wi h (c + 9) i 0) (c + 10) i 0) (c + 11) i (-1)) (c + 12) i 0) (c + 12) y = if y = i then 0 else p_im h (c + 12) y := fun y => by
      rw [wi_im]
      by_cases e : y = i
      · rw [if_pos ⟨rfl, e⟩, if_pos e]
      · rw [if_neg (fun q => e q.2), if_neg e, wi_im, if_neg (by omega), wi_im, if_neg (by omega), wi_im, if_neg (by omega)]
    have hin : p_in (Int32.ofNat i) 24 := i_in i24 (by decide)
    rw [r152_2, if_pos (by rw [show (24 : Int32) = Int32.ofNat 24 from rfl, i_lt i31 (by decide)]; exact i24), S.2.2.2.2.2.2.1, wi_rm, S.2.2.2.2.2.2.2.1, i_nat i31]
    simp only [wi_kd, wi_ln]
    rw [S.2.2.2.2.2.2.2.2.2.2.2.1.1, S.2.2.2.2.2.2.2.2.2.2.2.1.2, S.2.2.2.2.2.2.2.2.2.2.2.2.1.1, S.2.2.2.2.2.2.2.2.2.2.2.2.1.2, r152_15]
    simp only [wi_kd, wi_ln, wi_rm]
    rw [S.2.2.2.2.2.2.2.2.1, S.2.2.2.2.2.2.2.2.2.1, S.2.2.2.2.2.2.2.2.2.2.2.2.2.1.1, S.2.2.2.2.2.2.2.2.2.2.2.2.2.1.2, S.2.2.2.2.2.2.2.2.2.2.2.2.2.2.1.1, S.2.2.2.2.2.2.2.2.2.2.2.2.2.2.1.2, i_nat i31, r152_25, i_inc]
    refine ⟨⟨S.1, hc0⟩, ⟨⟨trivial, g9⟩, hin⟩, ⟨S.1, hc0⟩, ⟨⟨trivial, g10⟩, hin⟩, ⟨S.1, hc0⟩, ⟨⟨rfl, g11⟩, hin⟩, ⟨S.1, hc0⟩, ⟨⟨rfl, g12⟩, hin⟩, ih (i + 1) _ hik (W.fr F (fun a z => Or.inr z)) (fun y hy => ?_) (fun h1 F1 => K h1 (F.tr F1))⟩
    rw [z9, z10, z11, z12]
    by_cases e : y = i
    · rw [if_pos e, if_pos e, if_pos e, if_pos e]; exact ⟨⟨rfl, rfl⟩, rfl, rfl⟩
    · rw [if_neg e, if_neg e, if_neg e, if_neg e]; exact Z y (ys y hy e)
theorem s152 {Q : PH → Prop} (W : WRN L xs g c m m0 ord sh bd h) (K : ∀ h1, FR (wTl c) w0 h h1 → TLY h1 c (tla g sh ord bd 0 TL0) → (∀ y, y < 24 → p_im h1 (c + 12) y = 0) → Q h1) : CV (d + 4) 152 [.ref c, .ref 1034] h Q := by
  rw [e152]
  refine l152a (d := d) (Q := fun v h1 => onV v (Q h1)) 24 0 h rfl W (fun y hy => absurd hy (Nat.not_lt_zero _)) (fun h1 F1 Y1 Z1 => ?_)
  refine l152b (d := d) (P := []) (Q := fun v h1 => onV v (Q h1)) ord bd [] 0 TL0 h1 rfl rfl rfl W.2.2.2.2.2.2.2.1 (Nat.zero_le _) (W.fr F1 (fun a z => Or.inr z)) Y1 (fun h2 F2 Y2 e2 => K h2 (F1.tr F2) Y2 (fun y hy => by rw [e2, Z1 y hy]))
end TAL2
