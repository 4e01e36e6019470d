/-! Tokens: how long, of which kind. -/
/-- the text of the kind k + 1 -/
def ktx (k : Nat) : List Nat := (c_sb.getD (c_kt.getD k 0) []).map Int32.toNatClampNeg
theorem ktx_all : ∀ k, k < 43 → c_kt.getD k 0 < 58 ∧ c_sb.getD (c_kt.getD k 0) [] = (ktx k).map Int32.ofNat ∧ ∀ c ∈ ktx k, c < 128 := by decide +kernel
section TK2
variable {d p L : Nat} {xs : Nat → Int32} {tx u : List Nat} {h : PH}
theorem l72 {a v : Nat} {t : List Nat} {Q : Option Value → PH → Prop} (T : TXT tx h) (A : At tx p u) (X : TX h a v (t.map Int32.ofNat)) (ht : t.length ≤ u.length) (hc : ∀ c ∈ t, c < 128) (K1 : u.take t.length = t → Q (some (.int 1)) h) (K0 : u.take t.length ≠ t → Q (some (.int 0)) h) :
    ∀ (k j : Nat), j + k = t.length → u.take j = t.take j → wp (d + 4) 72 2 [.val (.ref 1036), .val (.ref a), .val (.int (Int32.ofNat p)), .val (.int (Int32.ofNat j))] [] h Q := by
  have t1 := T.1
  have t6 := T.2.2.2.2.2.1
  have hp := A.le
  obtain ⟨x1, x2, -⟩ := id X
  intro k
  induction k with
  | zero =>
    intro j e hj
    obtain rfl : j = t.length := by omega
    rw [r72_2]
    refine ⟨⟨x1, x2⟩, s17 X ?_⟩
    rw [List.length_map, if_neg (by rw [i_lt (by omega) (by omega)]; omega)]
    exact ⟨Or.inr rfl, K1 (by rw [hj, List.take_length])⟩
  | succ k ih =>
    intro j e hj
    have h1 : j < t.length := by omega
    have h2 : j < u.length := by omega
    have e1 : (t.map Int32.ofNat).getD j 0 = Int32.ofNat t[j] := by rw [List.getD_eq_getElem?_getD, List.getElem?_map, List.getElem?_eq_getElem h1]; rfl
    have e2 : u.getD j 0 = u[j] := by rw [List.getD_eq_getElem?_getD, List.getElem?_eq_getElem h2]; rfl
    have c1 : t[j] < 128 := hc _ (List.getElem_mem h1)
    have c2 : u[j] < 128 := A.lt128 T (List.getElem_mem h2)
    rw [r72_2]
    refine ⟨⟨x1, x2⟩, s17 X ?_⟩
    rw [List.length_map, if_pos (by rw [i_lt (by omega) (by omega)]; omega), i_add]
    refine ⟨⟨x1, x2⟩, s60 X (by rw [List.length_map]; exact h1) c1 e1 ⟨⟨t1, by decide⟩, s64 T A h2 ?_⟩⟩
    rw [e2]
    refine if_eqn (k := u[j]) rfl (by omega) (by omega) (fun z => ?_) (fun z => ⟨Or.inl rfl, K0 (fun q => z ?_)⟩)
    · rw [i_ofNat1, i_add]
      refine ih (j + 1) (by omega) ?_
      rw [List.take_succ_eq_append_getElem h2, List.take_succ_eq_append_getElem h1, hj, z]
    · have q2 : (u.take t.length)[j]? = t[j]? := by rw [q]
      rw [List.getElem?_take, if_pos h1, List.getElem?_eq_getElem h2, List.getElem?_eq_getElem h1] at q2
      injection q2 with q2
      exact q2.symm
theorem s72 {a v : Nat} {t : List Nat} {Q : Int32 → PH → Prop} (T : TXT tx h) (A : At tx p u) (X : TX h a v (t.map Int32.ofNat)) (ht : t.length ≤ u.length) (hc : ∀ c ∈ t, c < 128) (K1 : u.take t.length = t → Q 1 h) (K0 : u.take t.length ≠ t → Q 0 h) : CI (d + 5) 72 [.ref 1036, .ref a, .int (Int32.ofNat p)] h Q := by
  rw [e72]
  exact l72 (Q := fun v h1 => onI v (fun x => Q x h1)) T A X ht hc K1 K0 t.length 0 (by omega) rfl
theorem l73 {w r : List Nat} {a3 : Nat} {Q : Option Value → PH → Prop} (C : CO L xs h) (T : TXT tx h) (A : At tx p (w ++ r)) (K1 : ∀ k, k < 43 → ktx k = w → (∀ j, j < k → ktx j ≠ w) → Q (some (.ref (k + 1))) h) (K0 : (∀ k, k < 43 → ktx k ≠ w) → Q (some (.ref a3)) h) :
    ∀ (n k : Nat), k + n = 43 → (∀ j, j < k → ktx j ≠ w) → wp (d + 5) 73 7 [.val (.ref 1036), .val (.int (Int32.ofNat p)), .val (.int (Int32.ofNat w.length)), .val (.ref a3), .val (.ref 44), .val (.int (Int32.ofNat 43)), .val (.int (Int32.ofNat k)), .unset] [] h Q := by
  have t1 := T.1
  have t6 := T.2.2.2.2.2.1
  have hp := A.le
  rw [List.length_append] at hp
  obtain ⟨a1, a2, -, a4⟩ := C.2 44 (by decide)
  have a1 : p_kd h 44 = 311 := a1
  have a2 : p_ln h 44 = 43 := a2
  intro n
  induction n with
  | zero =>
    intro k e hk
    obtain rfl : k = 43 := by omega
    rw [r73_7, if_neg (by decide)]
    exact K0 hk
  | succ n ih =>
    intro k e hk
    obtain ⟨b1, -, -, b4⟩ := C.2 (k + 1) (by omega)
    have b1 : p_kd h (k + 1) = 16 := by rw [b1]; exact (by decide : ∀ k, k < 43 → c_kd (k + 1) = 16) k (by omega)
    have b4 : p_rm h (k + 1) 1 = 100 + c_kt.getD k 0 := by rw [b4, c_rm_k (by omega)]; rfl
    have a4 : p_rm h 44 k = k + 1 := a4 k
    obtain ⟨k1, k2, k3⟩ := ktx_all k (by omega)
    have X := TX.const C k1
    rw [k2] at X
    have nx : ktx k ≠ w → wp (d + 5) 73 27 [.val (.ref 1036), .val (.int (Int32.ofNat p)), .val (.int (Int32.ofNat w.length)), .val (.ref a3), .val (.ref 44), .val (.int (Int32.ofNat 43)), .val (.int (Int32.ofNat k)), .unset] [] h Q := fun z => by
      rw [r73_27, i_ofNat1, i_add]
      refine ih (k + 1) (by omega) (fun j hj => ?_)
      by_cases hz : j < k
      · exact hk j hz
      · rw [show j = k from by omega]; exact z
    have hlen : (ktx k).length ≤ 1000000 := by
      have := X.2.2.2.2.2.2.2.2.2.1
      rw [List.length_map] at this
      exact this
    rw [r73_7, if_pos (by rw [i_lt (by omega) (by omega)]; omega), a1, a2, i_nat (by omega), a4, b1, b4, X.1]
    refine ⟨⟨⟨by decide, by decide⟩, i_in (by omega) (by decide)⟩, ⟨rfl, by omega⟩, ⟨rfl, by omega⟩, s17 X ?_⟩
    rw [List.length_map]
    refine if_eqn (k := w.length) rfl (by omega) (by omega) (fun z => ?_) (fun z => nx (fun q => z (by rw [q])))
    rw [b1, b4]
    refine ⟨⟨rfl, by omega⟩, ⟨t1, by decide⟩, s72 T A X (by rw [List.length_append]; omega) k3 (fun q => ?_) (fun q => ?_)⟩
    · rw [if_neg (by decide)]
      refine K1 k (by omega) ?_ hk
      rw [← q, z, List.take_left]
    · rw [if_pos rfl]
      refine nx (fun q2 => q ?_)
      rw [q2, List.take_left]
theorem s73 {w r : List Nat} {a3 : Nat} {Q : Nat → PH → Prop} (C : CO L xs h) (T : TXT tx h) (A : At tx p (w ++ r)) (K1 : ∀ k, k < 43 → ktx k = w → (∀ j, j < k → ktx j ≠ w) → Q (k + 1) h) (K0 : (∀ k, k < 43 → ktx k ≠ w) → Q a3 h) : CR (d + 6) 73 [.ref 1036, .int (Int32.ofNat p), .int (Int32.ofNat w.length), .ref a3] h Q := by
  obtain ⟨a1, a2, -, -⟩ := C.2 44 (by decide)
  have a1 : p_kd h 44 = 311 := a1
  have a2 : p_ln h 44 = 43 := a2
  rw [e73, a1, a2]
  exact ⟨⟨by decide, by decide⟩, l73 (Q := fun v h1 => onR v (fun x => Q x h1)) C T A K1 K0 43 0 rfl (fun j hj => absurd hj (Nat.not_lt_zero _))⟩
/-- what stands behind a lexeme -/
def nxt (t : Nat) (s : List Nat) : Prop := ∃ c r, s = c :: r ∧ (fal t = true → al c = false) ∧ (t = 34 → c ≠ 61)
theorem kfirst : ∀ t, t < 44 → (kw1 t = true ∨ ks1 t = true) → ∀ k, k < 43 → ktx k = ktx (t - 1) → (∀ j, j < k → ktx j ≠ ktx (t - 1)) → k + 1 = t := by
  have q : ∀ t, t < 44 → (kw1 t = true ∨ ks1 t = true) → ∀ k, k < 43 → ktx k = ktx (t - 1) → k + 1 = t := by decide +kernel
  exact fun t h1 h2 k h3 h4 _ => q t h1 h2 k h3 h4
theorem kname : ∀ c, c < 128 → ∀ k, k < 26 → (c = 99 ∨ c = 102 ∨ c = 116) → ∀ j, j < 43 → ktx j ≠ [c, 97 + k] := by
  intro c _ k hk hc j hj
  have q1 : ∀ j, j < 43 → ∀ k, k < 26 → ktx j ≠ [99, 97 + k] := by decide +kernel
  have q2 : ∀ j, j < 43 → ∀ k, k < 26 → ktx j ≠ [102, 97 + k] := by decide +kernel
  have q3 : ∀ j, j < 43 → ∀ k, k < 26 → ktx j ≠ [116, 97 + k] := by decide +kernel
  rcases hc with rfl | rfl | rfl
  · exact q1 j hj k hk
  · exact q2 j hj k hk
  · exact q3 j hj k hk
end TK2
/-- how a lexeme looks: a word, a number, a string, a sign -/
theorem okx_cls {x : Lx} (h : okx x) :
    (fal x.1 = true ∧ x.1 ≠ 39 ∧ x.1 ≠ 40 ∧ (∃ c w, lwn x = c :: w ∧ 97 ≤ c ∧ c ≤ 122) ∧ (∀ c ∈ lwn x, al c = true) ∧ (lwn x).length ≤ 10 ∧ ((x.1 = 38 ∧ ∀ k, k < 43 → ktx k ≠ lwn x) ∨ (x.1 ≠ 38 ∧ ∀ k, k < 43 → ktx k = lwn x → (∀ j, j < k → ktx j ≠ lwn x) → k + 1 = x.1) ∧ ∃ k, k < 43 ∧ ktx k = lwn x)) ∨
    (x.1 = 39 ∧ x.2.1 < 100 ∧ lwn x = dgn x.2.1) ∨
    (x.1 = 40 ∧ x.2.1 < 100 ∧ lwn x = 39 :: (([84, 101, 120, 116, 32] ++ (dgn x.2.1 ++ [59, 32])) ++ [39])) ∨
    (fal x.1 = false ∧ x.1 ≠ 38 ∧ x.1 ≠ 39 ∧ x.1 ≠ 40 ∧ (∃ c, lwn x = [c] ∧ al c = false ∧ c ≠ 39 ∧ c ≠ 32 ∧ c ≠ 10 ∧ c < 128 ∧ (c = 60 ∨ c = 62 → x.1 = 34)) ∧ (∀ k, k < 43 → ktx k = lwn x → (∀ j, j < k → ktx j ≠ lwn x) → k + 1 = x.1) ∧ ∃ k, k < 43 ∧ ktx k = lwn x) := by
  obtain ⟨t, m, b⟩ := x
  rcases h with ⟨h1, c, j, hc, hj, h2⟩ | ⟨h1, h2⟩ | ⟨h1, h2⟩ | ⟨h1, h2⟩
  · have h1 : t = 38 := h1
    have h2 : m = c * 32 + j := h2
    subst h1 h2
    have e : lwn (38, c * 32 + j, b) = [c, 97 + j] := by
      show [(c * 32 + j) / 32, 97 + (c * 32 + j) % 32] = _
      rw [show (c * 32 + j) / 32 = c from by omega, show (c * 32 + j) % 32 = j from by omega]
    refine Or.inl ⟨rfl, show (38 : Nat) ≠ 39 from by decide, show (38 : Nat) ≠ 40 from by decide, ⟨c, [97 + j], e, by omega, by omega⟩, fun x hx => ?_, by rw [e]; exact (by decide : 2 ≤ 10), Or.inl ⟨rfl, fun k hk => ?_⟩⟩
    · rw [e] at hx
      have hx : x = c ∨ x = 97 + j := by simpa using hx
      rw [al_iff]; omega
    · rw [e]; exact kname c (by omega) j hj hc k hk
  · have h1 : t = 39 := h1
    subst h1
    exact Or.inr (Or.inl ⟨rfl, h2, rfl⟩)
  · have h1 : t = 40 := h1
    subst h1
    refine Or.inr (Or.inr (Or.inl ⟨rfl, h2, ?_⟩))
    show [39, 84, 101, 120, 116, 32] ++ (dgn m ++ [59, 32, 39]) = _
    simp only [List.append_assoc, List.cons_append, List.nil_append]
  · have h3 := kw1_lt h1
    have e : lwn (t, m, b) = ktx (t - 1) := (lwn_kw h3.2).1
    obtain ⟨q1, q2⟩ := kw_al t h3.1
    have t1 : 1 ≤ t ∧ t ≤ 43 := by
      have : ∀ t, t < 44 → (kw1 t = true ∨ ks1 t = true) → 1 ≤ t ∧ t ≤ 43 := by decide
      exact this t h3.1 h1
    have kf := kfirst t h3.1 h1
    rcases h1 with h1 | h1
    · have h1 : kw1 t = true := h1
      obtain ⟨g1, g2⟩ := q1 h1
      refine Or.inl ⟨by show (kw1 t || Nat.beq t 38 || Nat.beq t 39) = true; rw [h1]; rfl, h3.2.2.1, h3.2.2.2, ?_, fun c hc => ?_, ?_, Or.inr ⟨⟨h3.2.1, ?_⟩, ?_⟩⟩
      · rw [e]
        cases hk : ktx (t - 1) with
        | nil => exact absurd hk g1
        | cons c w => exact ⟨c, w, rfl, g2 c (by show c ∈ ktx (t - 1); rw [hk]; exact List.mem_cons_self)⟩
      · rw [e] at hc
        rw [al_iff]; exact Or.inl (g2 c hc)
      · rw [e]
        have : ∀ t, t < 44 → kw1 t = true → (ktx (t - 1)).length ≤ 10 := by decide +kernel
        exact this t h3.1 h1
      · rw [e]; exact kf
      · rw [e]; exact ⟨t - 1, by omega, rfl⟩
    · have h1 : ks1 t = true := h1
      obtain ⟨c, g1, g2, g3, g4, g5⟩ := q2 h1
      refine Or.inr (Or.inr (Or.inr ⟨(by decide : ∀ t, t < 44 → ks1 t = true → fal t = false) t h3.1 h1, h3.2.1, h3.2.2.1, h3.2.2.2, ⟨c, by rw [e]; exact g1, g2, g3, g4, g5, ?_, ?_⟩, ?_, ?_⟩))
      · exact (kw_all t h3.1 |> fun q => by
          rcases q with q | q | q | q
          · exact absurd q h3.2.1
          · exact absurd q h3.2.2.1
          · exact absurd q h3.2.2.2
          · exact q.2 c (by rw [g1]; exact List.mem_singleton.mpr rfl))
      · intro z
        have q : ∀ t, t < 44 → ks1 t = true → (ktx (t - 1) = [60] ∨ ktx (t - 1) = [62]) → t = 34 := by decide +kernel
        refine q t h3.1 h1 ?_
        show (c_sb.getD (c_kt.getD (t - 1) 0) []).map Int32.toNatClampNeg = _ ∨ (c_sb.getD (c_kt.getD (t - 1) 0) []).map Int32.toNatClampNeg = _
        rw [g1]
        rcases z with z | z
        · exact Or.inl (by rw [z])
        · exact Or.inr (by rw [z])
      · rw [e]; exact kf
      · rw [e]; exact ⟨t - 1, by omega, rfl⟩
theorem s64c {d p c : Nat} {tx r : List Nat} {h : PH} {Q : Int32 → PH → Prop} (T : TXT tx h) (A : At tx p (c :: r)) (K : Q (Int32.ofNat c) h) : CI (d + 1) 64 [.ref 1036, .int (Int32.ofNat p)] h Q := s64 (j := 0) T A (Nat.succ_pos _) K
section TK3
variable {d p L : Nat} {xs : Nat → Int32} {tx s : List Nat} {x : Lx} {h : PH}
/-- how long a lexeme is -/
theorem s71 {Q : Int32 → PH → Prop} (T : TXT tx h) (ok : okx x) (A : At tx p (lwn x ++ s)) (N : nxt x.1 s) (K : Q (Int32.ofNat (lwn x).length) h) : CI (d + 3) 71 [.ref 1036, .int (Int32.ofNat p)] h Q := by
  have t1 := T.1
  obtain ⟨n, r, es, n1, n2⟩ := N
  rw [e71]
  refine ⟨⟨t1, by decide⟩, ?_⟩
  rcases okx_cls ok with ⟨f1, -, -, ⟨c, w, e, c1, c2⟩, f2, -, -⟩ | ⟨f1, f2, e⟩ | ⟨f1, f2, e⟩ | ⟨f1, -, -, -, ⟨c, e, g1, g2, g3, g4, g5, g6⟩, -, -⟩
  · have A0 := A
    rw [e] at A
    refine s64c T A ?_
    show CI _ 66 [.int (Int32.ofNat c)] h _
    refine s66 (by omega) (fun _ _ => ?_) (fun z => absurd ⟨c1, c2⟩ z)
    rw [if_neg (by decide)]
    rw [es] at A0
    exact ⟨⟨t1, by decide⟩, s68 T A0 f2 (n1 f1) K⟩
  · have A0 := A
    obtain ⟨d1, d2, d3⟩ := dgn_dig f2
    rw [e] at A0 K
    cases hd : dgn x.2.1 with
    | nil => exact absurd hd d1
    | cons c w =>
      have hc := d2 c (by rw [hd]; exact List.mem_cons_self)
      have A1 := A0
      rw [hd] at A1
      refine s64c T A1 ?_
      show CI _ 66 [.int (Int32.ofNat c)] h _
      refine s66 (by omega) (fun _ _ => by omega) (fun _ => ?_)
      rw [if_pos rfl]
      refine s67 (by omega) (fun _ _ => ?_) (fun z => absurd hc z)
      rw [if_neg (by decide)]
      have hn := n1 (by rw [f1]; rfl)
      rw [es] at A0
      refine ⟨⟨t1, by decide⟩, s69 T A0 d2 (fun z => ?_) K⟩
      rw [al_iff.mpr (Or.inr z)] at hn
      cases hn
  · obtain ⟨d1, d2, d3⟩ := dgn_dig f2
    have A0 := A
    rw [e] at A
    have A : At tx p (39 :: (([84, 101, 120, 116, 32] ++ (dgn x.2.1 ++ [59, 32])) ++ 39 :: s)) := by
      have : (39 :: (([84, 101, 120, 116, 32] ++ (dgn x.2.1 ++ [59, 32])) ++ [39])) ++ s = 39 :: (([84, 101, 120, 116, 32] ++ (dgn x.2.1 ++ [59, 32])) ++ 39 :: s) := by simp only [List.append_assoc, List.cons_append, List.nil_append]
      rw [← this]; exact A
    refine s64c T A ?_
    show CI _ 66 [.int (Int32.ofNat 39)] h _
    refine s66 (by decide) (fun _ _ => by omega) (fun _ => ?_)
    rw [if_pos rfl]
    show CI _ 67 [.int (Int32.ofNat 39)] h _
    refine s67 (by decide) (fun _ _ => by omega) (fun _ => ?_)
    rw [if_pos rfl, if_pos (by decide)]
    refine ⟨⟨t1, by decide⟩, s70 T A (fun c hc => ?_) (List.cons_ne_nil _ _) ?_ ?_⟩
    · rcases List.mem_append.mp hc with q | q
      · exact (by decide : ∀ c ∈ [84, 101, 120, 116, 32], 32 ≤ c ∧ c ≤ 126 ∧ c ≠ 39) c q
      rcases List.mem_append.mp q with q | q
      · have := d2 c q; omega
      · exact (by decide : ∀ c ∈ [59, 32], 32 ≤ c ∧ c ≤ 126 ∧ c ≠ 39) c q
    · simp only [List.length_append, List.length_cons, List.length_nil]; omega
    · rw [e] at K
      have : (39 :: (([84, 101, 120, 116, 32] ++ (dgn x.2.1 ++ [59, 32])) ++ [39])).length = ([84, 101, 120, 116, 32] ++ (dgn x.2.1 ++ [59, 32])).length + 2 := by
        rw [List.length_cons, List.length_append]; rfl
      rw [this] at K
      exact K
  · rw [e] at A K
    have hal : ¬ ((97 ≤ c ∧ c ≤ 122) ∨ (48 ≤ c ∧ c ≤ 57)) := fun z => by rw [al_iff.mpr z] at g1; cases g1
    have q : ∀ {Q1 : Int32 → PH → Prop}, Q1 (Int32.ofNat c) h → CI (d + 2) 64 [.ref 1036, .int (Int32.ofNat p)] h Q1 := fun k => s64c T A k
    refine q (s66 g5 (fun z1 z2 => absurd (Or.inl ⟨z1, z2⟩) hal) (fun _ => ?_))
    rw [if_pos rfl]
    refine s67 g5 (fun z1 z2 => absurd (Or.inr ⟨z1, z2⟩) hal) (fun _ => ?_)
    rw [if_pos rfl]
    have e40 : wp (d + 2) 71 40 [.unset, .unset, .unset, .unset] [] h (fun v h1 => onI v (fun x => Q x h1)) := by
      rw [r71_40, r71_41, if_pos rfl]
      exact K
    have e31 : x.1 = 34 → wp (d + 2) 71 31 [.val (.ref 1036), .val (.int (Int32.ofNat p)), .unset, .unset] [] h (fun v h1 => onI v (fun x => Q x h1)) := fun z => by
      rw [r71_31, i_ofNat1, i_add]
      have A1 := A.skip
      rw [es] at A1
      have n128 : n < 128 := A1.lt128 T List.mem_cons_self
      refine ⟨⟨t1, by decide⟩, s64c (p := p + [c].length) T A1 ?_⟩
      exact if_eqn (k := 61) rfl (by omega) (by decide) (fun z2 => absurd z2 (n2 z)) (fun _ => e40)
    refine if_eqn (k := 39) rfl (by omega) (by decide) (fun z => absurd z g2) (fun _ => if_eqn (k := 60) rfl (by omega) (by decide) (fun z => e31 (g6 (Or.inl z))) (fun _ => if_eqn (k := 62) rfl (by omega) (by decide) (fun z => e31 (g6 (Or.inr z))) (fun _ => e40)))
/-- the kind of a lexeme -/
theorem s74 {Q : Nat → PH → Prop} (C : CO L xs h) (T : TXT tx h) (ok : okx x) (A : At tx p (lwn x ++ s)) (K : Q x.1 h) : CR (d + 7) 74 [.ref 1036, .int (Int32.ofNat p), .int (Int32.ofNat (lwn x).length)] h Q := by
  have t1 := T.1
  rw [e74]
  refine ⟨⟨t1, by decide⟩, ?_⟩
  have kk : (∀ k, k < 43 → ktx k = lwn x → (∀ j, j < k → ktx j ≠ lwn x) → k + 1 = x.1) → (∃ k, k < 43 ∧ ktx k = lwn x) → ∀ o, CR (d + 6) 73 [.ref 1036, .int (Int32.ofNat p), .int (Int32.ofNat (lwn x).length), .ref o] h Q := fun q1 q2 o => by
    refine s73 C T A (fun k hk e hj => by rw [q1 k hk e hj]; exact K) (fun z => ?_)
    obtain ⟨k, hk, e⟩ := q2
    exact absurd e (z k hk)
  rcases okx_cls ok with ⟨f1, f3, -, ⟨c, w, e, c1, c2⟩, f2, f4, f5⟩ | ⟨f1, f2, e⟩ | ⟨f1, f2, e⟩ | ⟨f1, -, -, -, ⟨c, e, g1, g2, g3, g4, g5, g6⟩, g7, g8⟩
  · have A0 := A
    rw [e] at A0
    refine s64c T A0 ?_
    show (if Int32.ofNat c < 0 then _ else _)
    rw [if_neg (i_neg (by omega))]
    refine s66 (by omega) (fun _ _ => ?_) (fun z => absurd ⟨c1, c2⟩ z)
    rw [if_neg (by decide), if_neg (by rw [show (10 : Int32) = Int32.ofNat 10 from rfl, i_lt (by decide) (by omega)]; omega)]
    refine ⟨⟨t1, by decide⟩, ?_⟩
    rcases f5 with ⟨q1, q2⟩ | ⟨⟨q1, q2⟩, q3⟩
    · refine s73 C T A (fun k hk e2 _ => absurd e2 (q2 k hk)) (fun _ => ?_)
      rw [← q1]; exact K
    · exact kk q2 q3 38
  · obtain ⟨d1, d2, d3⟩ := dgn_dig f2
    rw [e] at A ⊢
    rw [f1] at K
    cases hd : dgn x.2.1 with
    | nil => exact absurd hd d1
    | cons c w =>
      have hc := d2 c (by rw [hd]; exact List.mem_cons_self)
      rw [hd] at A d3
      refine s64c T A ?_
      show (if Int32.ofNat c < 0 then _ else _)
      rw [if_neg (i_neg (by omega))]
      refine s66 (by omega) (fun _ _ => by omega) (fun _ => ?_)
      rw [if_pos rfl]
      refine s67 (by omega) (fun _ _ => ?_) (fun z => absurd hc z)
      rw [if_neg (by decide), if_neg (by rw [show (5 : Int32) = Int32.ofNat 5 from rfl, i_lt (by decide) (by omega)]; omega)]
      exact K
  · rw [e] at A
    refine s64c T A ?_
    show (if Int32.ofNat 39 < 0 then _ else _)
    rw [if_neg (by decide)]
    show CI _ 66 [.int (Int32.ofNat 39)] h _
    refine s66 (by decide) (fun _ _ => by omega) (fun _ => ?_)
    rw [if_pos rfl]
    show CI _ 67 [.int (Int32.ofNat 39)] h _
    refine s67 (by decide) (fun _ _ => by omega) (fun _ => ?_)
    rw [f1] at K
    rw [if_pos rfl, if_pos (by decide), if_neg (by rw [i_ofNat0, i_eq (by have := A.le; have := T.2.2.2.2.2.1; rw [e]; simp only [List.length_append] at *; omega) (by decide), e, List.length_cons]; omega)]
    exact K
  · have A0 := A
    rw [e] at A0
    have hal : ¬ ((97 ≤ c ∧ c ≤ 122) ∨ (48 ≤ c ∧ c ≤ 57)) := fun z => by rw [al_iff.mpr z] at g1; cases g1
    refine s64c T A0 ?_
    show (if Int32.ofNat c < 0 then _ else _)
    rw [if_neg (i_neg (by omega))]
    show CI _ 66 [.int (Int32.ofNat c)] h _
    refine s66 g5 (fun z1 z2 => absurd (Or.inl ⟨z1, z2⟩) hal) (fun _ => ?_)
    rw [if_pos rfl]
    show CI _ 67 [.int (Int32.ofNat c)] h _
    refine s67 g5 (fun z1 z2 => absurd (Or.inr ⟨z1, z2⟩) hal) (fun _ => ?_)
    rw [if_pos rfl]
    refine if_eqn (k := 39) rfl (by show c < _; omega) (by decide) (fun z => absurd z g2) (fun _ => ⟨⟨t1, by decide⟩, kk g7 g8 42⟩)
/-- what a number counts -/
theorem s75 {m : Nat} {Q : Int32 → PH → Prop} (T : TXT tx h) (hm : m < 100) (A : At tx p (dgn m ++ s)) (K : Q (Int32.ofNat m) h) : CI (d + 2) 75 [.ref 1036, .int (Int32.ofNat p), .int (Int32.ofNat (dgn m).length)] h Q := by
  have t1 := T.1
  rw [e75]
  by_cases h10 : m < 10
  · have e : dgn m = [48 + m] := by unfold dgn; rw [show Nat.blt m 10 = true from ble_of (by omega)]; rfl
    rw [e] at A ⊢
    rw [show [48 + m].length = 1 from rfl, r75_4, if_pos (by decide), if_pos (by decide), i_ofNat0, i_add]
    refine ⟨⟨t1, by decide⟩, s64c T A ?_⟩
    rw [show (10 : Int32) = Int32.ofNat 10 from rfl, i_mul, i_add, show (48 : Int32) = Int32.ofNat 48 from rfl, i_sub (by omega), i_ofNat1, i_add, r75_4, if_neg (by decide), show 0 * 10 + (48 + m) - 48 = m from by omega]
    exact K
  · have e : dgn m = [48 + m / 10, 48 + m % 10] := by unfold dgn; rw [show Nat.blt m 10 = false from ble_no (by omega)]; rfl
    rw [e] at A ⊢
    rw [show [48 + m / 10, 48 + m % 10].length = 2 from rfl, r75_4, if_pos (by decide), if_pos (by decide), i_ofNat0, i_add]
    refine ⟨⟨t1, by decide⟩, s64c T A ?_⟩
    rw [show (10 : Int32) = Int32.ofNat 10 from rfl, i_mul, i_add, show (48 : Int32) = Int32.ofNat 48 from rfl, i_sub (by omega), i_ofNat1, i_add, r75_4, if_pos (by decide), if_pos (by decide), i_add]
    refine ⟨⟨t1, by decide⟩, s64 (j := 0 + 1) T A (Nat.succ_lt_succ (Nat.succ_pos _)) ?_⟩
    rw [show (10 : Int32) = Int32.ofNat 10 from rfl, i_mul, show Int32.ofNat (([48 + m / 10, 48 + m % 10] ++ s).getD (0 + 1) 0) = Int32.ofNat (48 + m % 10) from rfl, i_add, show (48 : Int32) = Int32.ofNat 48 from rfl, i_sub (by omega), i_ofNat1, i_add, r75_4, if_neg (by decide), show (0 * 10 + (48 + m / 10) - 48) * 10 + (48 + m % 10) - 48 = m from by omega]
    exact K
end TK3
