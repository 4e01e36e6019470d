/-! Links and terms are judged. -/
def HDR (g : PH) (x : Nat) (H : List (Nat × Nat)) : Prop := ∃ hf S, p_im g (1047 + x) 5 = Int32.ofNat hf ∧ p_im g (1047 + x) 6 = Int32.ofNat (hf + H.length) ∧ p_im g 1036 6 = Int32.ofNat S ∧ S ≤ 601 ∧ hf + H.length ≤ S ∧
  ∀ j, j < H.length → p_rm g 1038 (hf + j) = (H.getD j (0, 0)).1 ∧ 1 ≤ (H.getD j (0, 0)).1 ∧ (H.getD j (0, 0)).1 ≤ 43 ∧ ((H.getD j (0, 0)).1 = 5 ∨ (H.getD j (0, 0)).1 = 6 ∨ (H.getD j (0, 0)).1 = 7 → tk g 1041 (Int32.ofNat (hf + j + 1)) = Int32.ofNat (H.getD j (0, 0)).2 ∧ (H.getD j (0, 0)).2 < 16)
def lkc (ord : List Nat) (x k lk : Nat) : List (Nat × Nat) → List Nat
  | [] => []
  | e :: r => (if e.1 = lk ∧ cfl k (plI ord x) (plI ord e.2) = true then [k] else []) ++ lkc ord x k lk r
theorem gd_of {f : Nat → Int32} {n x : Nat} (hx : x < n) (hn : n < 100000) : gd f n (Int32.ofNat x) = f x := by
  unfold gd
  rw [if_neg (i_neg (by omega)), if_pos (by rw [i_lt (by omega) (by omega)]; exact hx), i_nat (by omega)]
theorem gP_app {P R : List (Nat × Nat)} {e : Nat × Nat} : (P ++ e :: R).getD P.length (0, 0) = e := by simp [List.getD]
def wJ2 (c a : Nat) : Prop := (c + 1 ≤ a ∧ a ≤ c + 4) ∨ a = c + 12
/-- one item: what is told, and what is defined then -/
def jgk (g : PH) (ord : List Nat) (df : Nat → Nat) (t : Int32) (da : Nat → Int32) : List Nat :=
  if kdS g t = 8 then (if gd (plI ord) 16 (tm g t) = 0 then [4] else []) else if tm g t < 24 then (if kdS g t = 9 then (if 0 < da (tm g t).toNatClampNeg then [5] else []) else if Int32.ofNat (df (tm g t).toNatClampNeg) = 0 then [6] else if da (tm g t).toNatClampNeg = 0 then [7] else []) else []
def jgd (g : PH) (t : Int32) (da : Nat → Int32) : Nat → Int32 := if kdS g t = 8 then da else if tm g t < 24 then (if kdS g t = 9 then (fun y => if y = (tm g t).toNatClampNeg then da y + 1 else da y) else da) else da
section JUD2
variable {d L c m m0 n om x k lk : Nat} {xs : Nat → Int32} {g h : PH} {sh : List Int32} {ord bd KL : List Nat} {T : (Nat → Nat) × (Nat → Nat) × (Nat → Int32)} {da : Nat → Int32} {t : Int32}
theorem WRN.f (W : WRN L xs g c m m0 ord sh bd h) : CTF h (c + 1) := W.2.1.2.2.2.2.2.2.2.2.2.2.2.2.2.2.2.1
theorem l157 {H : List (Nat × Nat)} {hf S : Nat} {Q : Option Value → PH → Prop} (hk : k = 1 ∨ k = 2 ∨ k = 3) (hlk : lk = 5 ∨ lk = 6 ∨ lk = 7) (hx : x < 16) (eS : p_im g 1036 6 = Int32.ofNat S) (hS : S ≤ 601) (hfS : hf + H.length ≤ S)
    (hH : ∀ j, j < H.length → p_rm g 1038 (hf + j) = (H.getD j (0, 0)).1 ∧ 1 ≤ (H.getD j (0, 0)).1 ∧ (H.getD j (0, 0)).1 ≤ 43 ∧ ((H.getD j (0, 0)).1 = 5 ∨ (H.getD j (0, 0)).1 = 6 ∨ (H.getD j (0, 0)).1 = 7 → tk g 1041 (Int32.ofNat (hf + j + 1)) = Int32.ofNat (H.getD j (0, 0)).2 ∧ (H.getD j (0, 0)).2 < 16)) :
    ∀ (R P : List (Nat × Nat)) (KL : List Nat) (h : PH), H = P ++ R → WRN L xs g c m m0 ord sh bd h → FND h (c + 1) KL → (∀ h1, FR (wFd (c + 1)) w0 h h1 → FND h1 (c + 1) (KL ++ lkc ord x k lk R) → Q none h1) →
    wp (d + 1) 157 12 [.val (.ref c), .val (.ref 1034), .val (.int (Int32.ofNat x)), .val (.int (Int32.ofNat k)), .val (.ref lk), .val (.int (Int32.ofNat (hf + H.length))), .val (.int (Int32.ofNat (hf + P.length))), .unset] [] h Q := by
  intro R
  induction R with
  | nil =>
    intro P KL h e W N K
    have e : H = P := by rw [e, List.append_nil]
    have l31 : hf + H.length < 2147483648 := by omega
    have nn : ¬ hf + H.length < hf + H.length := by omega
    rw [r157_12, ← e, if_neg (by rw [i_lt l31 l31]; exact nn)]
    exact K h FR.rf (by show FND h (c + 1) (KL ++ []); rw [List.append_nil]; exact N)
  | cons a R ih =>
    intro P KL h e W N K
    have hc0 : ¬ c = 0 := by have := W.2.1.2.1; omega
    have hc1 : ¬ c + 1 = 0 := by omega
    have g1 : 1000 ≤ c + 1 := by have := W.2.1.2.1; omega
    have el : H.length = P.length + (R.length + 1) := by rw [e, List.length_append]; rfl
    have plt : P.length < H.length := by omega
    have l31 : hf + H.length < 2147483648 := by omega
    have p31 : hf + P.length < 2147483648 := by omega
    have nn : hf + P.length < hf + H.length := by omega
    have hiS : hf + P.length < S := by omega
    have ge : H.getD P.length (0, 0) = a := by rw [e, gP_app]
    obtain ⟨q1, q2, q3, q4⟩ := hH P.length plt
    rw [ge] at q1 q2 q3 q4
    have e2 : H = (P ++ [a]) ++ R := by rw [e, List.append_assoc]; rfl
    have lk1 : 1 ≤ lk := by omega
    have lk2 : lk ≤ 43 := by omega
    have elp : hf + P.length + 1 = hf + (P ++ [a]).length := by rw [List.length_append]; rfl
    have wj : ∀ b, wFd (c + 1) b → wJd c b := fun b z => by unfold wFd at z; unfold wJd; omega
    have goon : ∀ (h1 : PH), FR (wFd (c + 1)) w0 h h1 → FND h1 (c + 1) (KL ++ (if a.1 = lk ∧ cfl k (plI ord x) (plI ord a.2) = true then [k] else [])) →
        wp (d + 1) 157 43 [.val (.ref c), .val (.ref 1034), .val (.int (Int32.ofNat x)), .val (.int (Int32.ofNat k)), .val (.ref lk), .val (.int (Int32.ofNat (hf + H.length))), .val (.int (Int32.ofNat (hf + P.length))), .unset] [] h1 Q := fun h1 F N1 => by
      rw [r157_43, i_inc, elp]
      exact ih (P ++ [a]) _ h1 e2 (W.fr F wj) N1 (fun h2 F2 N2 => K h2 (F.tr F2) (by rw [List.append_assoc] at N2; exact N2))
    have B := W.1
    rw [r157_12, if_pos (by rw [i_lt p31 l31]; exact nn), B.2.2.1.2.1]
    refine ⟨B.lb, ⟨B.2.1.1.1, by decide⟩, s79t (d := d) B eS hS hiS q1 q2 q3 ⟨⟨Or.inr (B.1.en q2 q3).1, Or.inr (B.1.en lk1 lk2).1⟩, ?_⟩⟩
    by_cases z1 : a.1 = lk
    · rw [if_pos z1, B.2.2.1.2.1]
      obtain ⟨y1, y2⟩ := q4 (by rw [z1]; exact hlk)
      refine ⟨B.lb, ⟨B.2.1.1.1, by decide⟩, s97t (d := d) B ?_⟩
      rw [i_inc, y1]
      refine ⟨⟨W.2.1.1, hc0⟩, s154 (d := d) W.2.1 W.2.2.2.1 ⟨⟨W.2.1.1, hc0⟩, s154 (d := d) W.2.1 W.2.2.2.1 ?_⟩⟩
      rw [gd_of hx (by decide), gd_of y2 (by decide)]
      refine s155 (d := d) hk ?_
      cases hb : cfl k (plI ord x) (plI ord a.2) with
      | false =>
        rw [if_pos (by decide)]
        refine goon h FR.rf ?_
        rw [if_neg (fun z => by rw [hb] at z; exact absurd z.2 (by decide)), List.append_nil]
        exact N
      | true =>
        rw [if_neg (by decide), W.2.1.2.2.2.1]
        refine ⟨⟨W.2.1.1, hc0⟩, ⟨W.f.1, hc1⟩, s156 (d := d) W.f g1 N (fun h1 F N1 => goon h1 F ?_)⟩
        rw [if_pos ⟨z1, hb⟩]
        exact N1
    · rw [if_neg z1]
      refine goon h FR.rf ?_
      rw [if_neg (fun z => z1 z.1), List.append_nil]
      exact N
theorem s157 {H : List (Nat × Nat)} {Q : PH → Prop} (hk : k = 1 ∨ k = 2 ∨ k = 3) (hlk : lk = 5 ∨ lk = 6 ∨ lk = 7) (hx : x < 16) (HH : HDR g x H) (W : WRN L xs g c m m0 ord sh bd h) (N : FND h (c + 1) KL) (K : ∀ h1, FR (wFd (c + 1)) w0 h h1 → FND h1 (c + 1) (KL ++ lkc ord x k lk H) → Q h1) :
    CV (d + 2) 157 [.ref c, .ref 1034, .int (Int32.ofNat x), .int (Int32.ofNat k), .ref lk] h Q := by
  obtain ⟨hf, S, h5, h6, eS, hS, hfS, hH⟩ := HH
  have B := W.1
  obtain ⟨c1, c2, c3⟩ := B.cl hx
  rw [e157, c2, B.im (1047 + x) (by omega) (by omega), B.im (1047 + x) (by omega) (by omega), h5, h6]
  exact ⟨B.lb, c1, c3, B.lb, c1, c3, l157 (d := d) (P := []) (Q := fun v h1 => onV v (Q h1)) hk hlk hx eS hS hfS hH H KL h rfl W N K⟩
theorem s154v {x : Int32} {Q : Int32 → PH → Prop} (S : CTS h c m) (R : DRO h (c + 13) m0 ord) (K : ∀ v, v = gd (plI ord) 16 x → Q v h) : CI (d + 1) 154 [.ref c, .int x] h Q := s154 S R (K _ rfl)
theorem s159 {df : Nat → Nat} {y : Int32} {Q : PH → Prop} (W : WRN L xs g c m m0 ord sh bd h) (N : FND h (c + 1) KL) (Y : ∀ z, z < 24 → p_im h (c + 9) z = Int32.ofNat (df z)) (Z : ∀ z, z < 24 → p_im h (c + 12) z = da z)
    (K : ∀ h1, FR (wJ2 c) w0 h h1 → FND h1 (c + 1) (KL ++ jgk g ord df t da) → (∀ z, z < 24 → p_im h1 (c + 12) z = jgd g t da z) → Q h1) : CV (d + 3) 159 [.ref c, .ref 1034, .int t, .int y] h Q := by
  have hc0 : ¬ c = 0 := by have := W.2.1.2.1; omega
  have hc1 : ¬ c + 1 = 0 := by omega
  have g1 : 1000 ≤ c + 1 := by have := W.2.1.2.1; omega
  have n9 : ¬ c + 9 = 0 := by omega
  have n12 : ¬ c + 12 = 0 := by omega
  have g12 : 1000 ≤ c + 12 := by have := W.2.1.2.1; omega
  have wf : ∀ a, wFd (c + 1) a → wJ2 c a := fun a z => by unfold wFd at z; unfold wJ2; omega
  have w12 : wJ2 c (c + 12) := by unfold wJ2; omega
  have f12 : ¬ wFd (c + 1) (c + 12) := by unfold wFd; omega
  have u1 : ¬ c + 1 = c + 12 := by omega
  have u2 : ¬ c + 1 + 1 = c + 12 := by omega
  have B := W.1
  have C := B.1
  have S := W.2.1
  have ok := kdS_ok B.2.2.2.2.2.1 t
  have en : ∀ j, 1 ≤ j → j ≤ 43 → (kdS g t = 0 ∨ p_kd h (kdS g t) = 16) ∧ (j = 0 ∨ p_kd h j = 16) := fun j q1 q2 => ⟨Or.inr (C.en ok.1 ok.2).1, Or.inr (C.en q1 q2).1⟩
  unfold jgk jgd at K
  rw [e159, B.2.2.2.2.1.1]
  refine ⟨B.lb, ⟨B.2.2.2.2.1.2.1, by decide⟩, s129 (d := d + 1) B (s150 (d := d) B ⟨en 8 (by decide) (by decide), ?_⟩)⟩
  have fin : ∀ (k : Nat), (∀ h1, FR (wJ2 c) w0 h h1 → FND h1 (c + 1) (KL ++ [k]) → (∀ z, z < 24 → p_im h1 (c + 12) z = da z) → Q h1) → ∀ (dd : Nat) (x2 x3 : Int32), (p_kd h (p_rm h c 1) = 8 ∧ ¬ p_rm h c 1 = 0) ∧ CV (dd + 1) 156 [.ref (p_rm h c 1), .int (Int32.ofNat k), .int x2, .int x3] h (fun h1 => Q h1) := fun k KK dd x2 x3 => by
    rw [S.2.2.2.1]
    exact ⟨⟨W.f.1, hc1⟩, s156 (d := dd) W.f g1 N (fun h1 F N1 => KK h1 (F.up wf (fun _ z => z)) N1 (fun z hz => by rw [F.im f12, Z z hz]))⟩
  have nil : FND h (c + 1) (KL ++ []) := by rw [List.append_nil]; exact N
  by_cases z1 : kdS g t = 8
  · rw [if_pos z1] at K ⊢
    rw [if_pos z1] at K
    refine ⟨⟨S.1, hc0⟩, s154v (d := d + 1) S W.2.2.2.1 (fun v hv => ?_)⟩
    rw [← hv] at K
    by_cases z2 : v = 0
    · rw [if_pos z2] at K ⊢
      exact ⟨⟨S.1, hc0⟩, fin 4 K (d + 1) y (tm g t)⟩
    · rw [if_neg z2] at K ⊢
      exact K h FR.rf nil Z
  rw [if_neg z1] at K ⊢
  rw [if_neg z1] at K
  by_cases z2 : tm g t < 24
  · rw [if_pos z2] at K ⊢
    rw [if_pos z2] at K
    have hin : p_in (tm g t) 24 := in_of tm_nn z2 (Nat.le_refl _) (by decide)
    have hlt : (tm g t).toNatClampNeg < 24 := hin.2
    refine ⟨⟨S.1, hc0⟩, ?_⟩
    rw [e158]
    refine ⟨en 9 (by decide) (by decide), ?_⟩
    by_cases z3 : kdS g t = 9
    · rw [if_pos z3] at K ⊢
      rw [if_pos z3] at K
      have a12 := S.2.2.2.2.2.2.2.2.2.2.2.2.2.2.1
      have tail : ∀ (h1 : PH) (ks : List Nat), FR (wFd (c + 1)) w0 h h1 → FND h1 (c + 1) (KL ++ ks) → ks = (if 0 < da (tm g t).toNatClampNeg then [5] else []) → wp (d + 1) 158 14 [.val (.ref c), .unset, .val (.int (tm g t)), .unset] [] h1 (fun v h1 => onV v (Q h1)) := fun h1 ks F N1 ek => by
        have S1 : CTS h1 c m := S.fr0 F
        have b12 := S1.2.2.2.2.2.2.2.2.2.2.2.2.2.2.1
        rw [r158_14, S1.2.2.2.2.2.2.2.2.2.1, b12.1, b12.2, F.im f12, Z _ hlt]
        refine ⟨⟨S1.1, hc0⟩, ⟨⟨by decide, n12⟩, hin⟩, ⟨⟨rfl, g12⟩, hin⟩, K _ ((F.up wf (fun _ z => z)).tr (FR.wi _ w12)) ?_ (fun z hz => ?_)⟩
        · rw [← ek]
          exact N1.fr (FR.wi (Wi := fun a => a = c + 12) (Wr := w0) _ rfl) u1 u2
        · rw [wi_im]
          by_cases e : z = (tm g t).toNatClampNeg
          · rw [if_pos ⟨rfl, e⟩, if_pos e, e]
          · rw [if_neg (fun q => e q.2), if_neg e, F.im f12, Z z hz]
      have f9 : p_rm h c 9 = c + 12 := S.2.2.2.2.2.2.2.2.2.1
      refine ⟨⟨S.1, hc0⟩, by rw [f9, a12.1, a12.2]; exact ⟨⟨by decide, n12⟩, hin⟩, ?_⟩
      rw [f9, Z _ hlt]
      by_cases z4 : 0 < da (tm g t).toNatClampNeg
      · rw [if_pos z4, S.2.2.2.1]
        rw [if_pos z4] at tail
        exact ⟨⟨S.1, hc0⟩, ⟨W.f.1, hc1⟩, s156 (k := 5) (d := d) W.f g1 N (fun h1 F N1 => tail h1 [5] F N1 rfl)⟩
      · rw [if_neg z4]
        rw [if_neg z4] at tail
        exact tail h [] FR.rf nil rfl
    · rw [if_neg z3] at K ⊢
      rw [if_neg z3] at K
      have a9 := S.2.2.2.2.2.2.2.2.2.2.2.1
      have a12 := S.2.2.2.2.2.2.2.2.2.2.2.2.2.2.1
      have f9 : p_rm h c 6 = c + 9 := S.2.2.2.2.2.2.1
      have f12' : p_rm h c 9 = c + 12 := S.2.2.2.2.2.2.2.2.2.1
      refine ⟨⟨S.1, hc0⟩, by rw [f9, a9.1, a9.2]; exact ⟨⟨by decide, n9⟩, hin⟩, ?_⟩
      rw [f9, Y _ hlt]
      by_cases z4 : Int32.ofNat (df (tm g t).toNatClampNeg) = 0
      · rw [if_pos z4] at K ⊢
        exact ⟨⟨S.1, hc0⟩, fin 6 K d y (tm g t)⟩
      · rw [if_neg z4] at K ⊢
        refine ⟨⟨S.1, hc0⟩, by rw [f12', a12.1, a12.2]; exact ⟨⟨by decide, n12⟩, hin⟩, ?_⟩
        rw [f12', Z _ hlt]
        by_cases z5 : da (tm g t).toNatClampNeg = 0
        · rw [if_pos z5] at K ⊢
          exact ⟨⟨S.1, hc0⟩, fin 7 K d y (tm g t)⟩
        · rw [if_neg z5] at K ⊢
          exact K h FR.rf nil Z
  · rw [if_neg z2] at K ⊢
    rw [if_neg z2] at K
    exact K h FR.rf nil Z
end JUD2
