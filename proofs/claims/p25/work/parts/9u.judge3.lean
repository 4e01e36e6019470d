/-! All is judged. -/
def jit (g : PH) (ord : List Nat) (df : Nat → Nat) : List Int32 → (Nat → Int32) → List Nat
  | [], _ => []
  | t :: r, da => jgk g ord df t da ++ jit g ord df r (jgd g t da)
def jda (g : PH) : List Int32 → (Nat → Int32) → Nat → Int32
  | [], da => da
  | t :: r, da => jda g r (jgd g t da)
def lnk (ord : List Nat) (x : Nat) (H : List (Nat × Nat)) : List Nat := lkc ord x 1 6 H ++ (lkc ord x 2 5 H ++ lkc ord x 3 7 H)
def jal (g : PH) (ord : List Nat) (df : Nat → Nat) (sh : List Int32) (HX : Nat → List (Nat × Nat)) : List Nat → List Nat → Nat → (Nat → Int32) → List Nat
  | x :: r, b :: bs, k, da => (lnk ord x (HX x) ++ jit g ord df (evs sh (b - k) k) da) ++ jal g ord df sh HX r bs (max k b) (jda g (evs sh (b - k) k) da)
  | _, _, _, _ => []
def j8 (T : (Nat → Nat) × (Nat → Nat) × (Nat → Int32)) : Nat → Nat → List Nat
  | 0, _ => []
  | k + 1, i => (if 0 < Int32.ofNat (T.1 i) then (if Int32.ofNat (T.2.1 i) = 0 then [8] else []) else []) ++ j8 T k (i + 1)
section JUD3
variable {d L c m m0 : Nat} {xs : Nat → Int32} {g h : PH} {sh : List Int32} {ord bd KL : List Nat} {T : (Nat → Nat) × (Nat → Nat) × (Nat → Int32)}
theorem wJ2d {a : Nat} (z : wJ2 c a) : wJd c a := by unfold wJ2 at z; unfold wJd wTl; omega
theorem TLY.fr {Wi : Nat → Prop} {h1 : PH} (Y : TLY h c T) (F : FR Wi w0 h h1) (hW : ∀ a, Wi a → wJ2 c a) : TLY h1 c T := by
  have n9 : ¬ Wi (c + 9) := fun z => by have := hW _ z; unfold wJ2 at this; omega
  have n10 : ¬ Wi (c + 10) := fun z => by have := hW _ z; unfold wJ2 at this; omega
  have n11 : ¬ Wi (c + 11) := fun z => by have := hW _ z; unfold wJ2 at this; omega
  exact fun y hy => by rw [F.im n9, F.im n10, F.im n11]; exact Y y hy
theorem l160c {i x b : Nat} {Q : Option Value → PH → Prop} (hi : i < ord.length) (ex : ord.getD i 0 = x) (eb : bd.getD i 0 = b) : ∀ (j k : Nat) (da : Nat → Int32) (KL : List Nat) (h : PH), b - k = j → k ≤ sh.length → WRN L xs g c m m0 ord sh bd h → TLY h c T → FND h (c + 1) KL → (∀ z, z < 24 → p_im h (c + 12) z = da z) →
    (∀ h1, FR (wJ2 c) w0 h h1 → FND h1 (c + 1) (KL ++ jit g ord T.1 (evs sh j k) da) → (∀ z, z < 24 → p_im h1 (c + 12) z = jda g (evs sh j k) da z) → wp (d + 3) 160 7 [.val (.ref c), .val (.ref 1034), .val (.int (Int32.ofNat (max k b))), .val (.int (Int32.ofNat (i + 1))), .unset] [] h1 Q) →
    wp (d + 3) 160 36 [.val (.ref c), .val (.ref 1034), .val (.int (Int32.ofNat k)), .val (.int (Int32.ofNat i)), .val (.int (Int32.ofNat x))] [] h Q := by
  intro j
  induction j with
  | zero =>
    intro k da KL h hj hk W Y N Z K
    have hc0 : ¬ c = 0 := by have := W.2.1.2.1; omega
    have n8 : ¬ c + 8 = 0 := by omega
    have hbs : b ≤ sh.length := by rw [← eb]; exact W.2.2.2.2.2.2.2.2 _ (gDn_mem (by rw [W.2.2.2.2.2.2.2.1]; exact hi))
    have i16 : i < 16 := by have := W.2.2.2.2.2.1; omega
    have i31 : i < 2147483648 := by omega
    have s6 := W.2.2.1.2.1
    have k31 : k < 2147483648 := by omega
    have b31 : b < 2147483648 := by omega
    have nkb : ¬ k < b := by omega
    have em : max k b = k := by omega
    rw [r160_36, W.2.1.2.2.2.2.2.1, W.2.1.2.2.2.2.2.2.2.2.2.2.1.1, W.2.1.2.2.2.2.2.2.2.2.2.2.1.2, i_nat i31, W.2.2.2.2.1 i hi, eb, if_neg (by rw [i_lt k31 b31]; exact nkb), i_inc]
    refine ⟨⟨W.2.1.1, hc0⟩, ⟨⟨by decide, n8⟩, i_in i16 (by decide)⟩, ?_⟩
    have := K h FR.rf (by show FND h (c + 1) (KL ++ []); rw [List.append_nil]; exact N) Z
    rwa [em] at this
  | succ j ih =>
    intro k da KL h hj hk W Y N Z K
    have hc0 : ¬ c = 0 := by have := W.2.1.2.1; omega
    have n8 : ¬ c + 8 = 0 := by omega
    have n5 : ¬ c + 5 = 0 := by omega
    have n7 : ¬ c + 5 + 2 = 0 := by omega
    have hbs : b ≤ sh.length := by rw [← eb]; exact W.2.2.2.2.2.2.2.2 _ (gDn_mem (by rw [W.2.2.2.2.2.2.2.1]; exact hi))
    have i16 : i < 16 := by have := W.2.2.2.2.2.1; omega
    have i31 : i < 2147483648 := by omega
    have s6 := W.2.2.1.2.1
    have k31 : k < 2147483648 := by omega
    have k600 : k < 600 := by omega
    have ksh : k < sh.length := by omega
    have b31 : b < 2147483648 := by omega
    have nkb : k < b := by omega
    have em : max (k + 1) b = max k b := by omega
    have hj1 : b - (k + 1) = j := by omega
    have hk1 : k + 1 ≤ sh.length := by omega
    have S := W.2.1
    have sb := S.2.2.2.2.2.2.2.2.2.2.2.2.2.2.2.2.1
    rw [r160_36, S.2.2.2.2.2.1, S.2.2.2.2.2.2.2.2.2.2.1.1, S.2.2.2.2.2.2.2.2.2.2.1.2, i_nat i31, W.2.2.2.2.1 i hi, eb, if_pos (by rw [i_lt k31 b31]; exact nkb), S.2.2.2.2.1, sb.2.2.1, sb.2.2.2.2.2.1, sb.2.2.2.2.2.2, i_nat k31, W.2.2.1.2.2 k ksh]
    refine ⟨⟨S.1, hc0⟩, ⟨⟨by decide, n8⟩, i_in i16 (by decide)⟩, ⟨S.1, hc0⟩, ⟨sb.1, n5⟩, ⟨⟨by decide, n7⟩, i_in k600 (by decide)⟩, ⟨S.1, hc0⟩, s159 (d := d) (df := T.1) W N (fun z hz => (Y z hz).1) Z (fun h1 F1 N1 Z1 => ?_)⟩
    rw [i_inc]
    refine ih (k + 1) _ _ h1 hj1 hk1 (W.fr F1 (fun a z => wJ2d z)) (Y.fr F1 (fun _ z => z)) N1 Z1 (fun h2 F2 N2 Z2 => ?_)
    rw [em]
    rw [List.append_assoc] at N2
    exact K h2 (F1.tr F2) N2 Z2
theorem l160d {nt : Nat} {Q : Option Value → PH → Prop} (en : p_im g 1034 9 = Int32.ofNat nt) (hnt : nt ≤ 24) : ∀ (k i : Nat) (KL : List Nat) (h : PH), i + k = nt → WRN L xs g c m m0 ord sh bd h → TLY h c T → FND h (c + 1) KL →
    (∀ h1, FR (wFd (c + 1)) w0 h h1 → FND h1 (c + 1) (KL ++ j8 T k i) → Q none h1) → wp (d + 1) 160 57 [.val (.ref c), .val (.ref 1034), .unset, .val (.int (Int32.ofNat i)), .unset] [] h Q := by
  intro k
  induction k with
  | zero =>
    intro i KL h hi W Y N K
    have i31 : i < 2147483648 := by omega
    have n31 : nt < 2147483648 := by omega
    have nn : ¬ i < nt := by omega
    rw [r160_57, W.1.im 1034 (by decide) (by decide), en, if_neg (by rw [i_lt i31 n31]; exact nn)]
    exact ⟨W.1.lb, K h FR.rf (by show FND h (c + 1) (KL ++ []); rw [List.append_nil]; exact N)⟩
  | succ k ih =>
    intro i KL h hi W Y N K
    have i31 : i < 2147483648 := by omega
    have n31 : nt < 2147483648 := by omega
    have nn : i < nt := by omega
    have i24 : i < 24 := by omega
    have hi1 : i + 1 + k = nt := by omega
    have hc0 : ¬ c = 0 := by have := W.2.1.2.1; omega
    have hc1 : ¬ c + 1 = 0 := by omega
    have g1 : 1000 ≤ c + 1 := by have := W.2.1.2.1; omega
    have n9 : ¬ c + 9 = 0 := by omega
    have n10 : ¬ c + 10 = 0 := by omega
    have n11 : ¬ c + 11 = 0 := by omega
    have wj : ∀ a, wFd (c + 1) a → wJ2 c a := fun a z => by unfold wFd at z; unfold wJ2; omega
    have hin : p_in (Int32.ofNat i) 24 := i_in i24 (by decide)
    have S := W.2.1
    obtain ⟨y1, y2, y3⟩ := Y i i24
    have goon : ∀ (h1 : PH) (ks : List Nat), FR (wFd (c + 1)) w0 h h1 → ks = (if 0 < Int32.ofNat (T.1 i) then (if Int32.ofNat (T.2.1 i) = 0 then [8] else []) else []) → FND h1 (c + 1) (KL ++ ks) → wp (d + 1) 160 80 [.val (.ref c), .val (.ref 1034), .unset, .val (.int (Int32.ofNat i)), .unset] [] h1 Q := fun h1 ks F ek N1 => by
      rw [r160_80, i_inc]
      refine ih (i + 1) _ h1 hi1 (W.fr F (fun a z => wJ2d (wj a z))) (Y.fr F wj) N1 (fun h2 F2 N2 => K h2 (F.tr F2) ?_)
      rw [List.append_assoc, ek] at N2
      exact N2
    rw [r160_57, W.1.im 1034 (by decide) (by decide), en, if_pos (by rw [i_lt i31 n31]; exact nn), S.2.2.2.2.2.2.1, S.2.2.2.2.2.2.2.2.2.2.2.1.1, S.2.2.2.2.2.2.2.2.2.2.2.1.2, S.2.2.2.2.2.2.2.1, S.2.2.2.2.2.2.2.2.2.2.2.2.1.1, S.2.2.2.2.2.2.2.2.2.2.2.2.1.2, S.2.2.2.2.2.2.2.2.1, S.2.2.2.2.2.2.2.2.2.2.2.2.2.1.1, S.2.2.2.2.2.2.2.2.2.2.2.2.2.1.2, i_nat i31, y1, y2, S.2.2.2.1]
    generalize hu : Int32.ofNat (T.1 i) = u at *
    generalize hv : Int32.ofNat (T.2.1 i) = v at *
    refine ⟨W.1.lb, ⟨S.1, hc0⟩, ⟨⟨by decide, n9⟩, hin⟩, ?_⟩
    by_cases z1 : 0 < u
    · rw [if_pos z1] at goon ⊢
      refine ⟨⟨S.1, hc0⟩, ⟨⟨by decide, n10⟩, hin⟩, ?_⟩
      by_cases z2 : v = 0
      · rw [if_pos z2] at goon ⊢
        exact ⟨⟨S.1, hc0⟩, ⟨S.1, hc0⟩, ⟨⟨by decide, n11⟩, hin⟩, ⟨W.f.1, hc1⟩, s156 (k := 8) (d := d) W.f g1 N (fun h1 F N1 => goon h1 [8] F rfl N1)⟩
      · rw [if_neg z2] at goon ⊢
        exact goon h [] FR.rf rfl (by rw [List.append_nil]; exact N)
    · rw [if_neg z1] at goon ⊢
      exact goon h [] FR.rf rfl (by rw [List.append_nil]; exact N)
end JUD3
