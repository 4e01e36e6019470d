/-! What is told, by kinds. -/
theorem cK_app {k : Nat} {l r : List Nat} : cK k (l ++ r) = cK k l + cK k r := List.count_append
theorem cK_nil {k : Nat} : cK k [] = 0 := rfl
theorem cK_one {k x : Nat} : cK k [x] = if x = k then 1 else 0 := by
  unfold cK
  rw [List.count_singleton]
  by_cases z : x = k
  · rw [if_pos z, if_pos (beq_iff_eq.mpr z)]
  · rw [if_neg z, if_neg (fun q => z (beq_iff_eq.mp q))]
theorem cK_cons {k x : Nat} {l : List Nat} : cK k (x :: l) = (if x = k then 1 else 0) + cK k l := by
  rw [show x :: l = [x] ++ l from rfl, cK_app, cK_one]
theorem cK_no {k : Nat} : ∀ {l : List Nat}, (∀ x ∈ l, x ≠ k) → cK k l = 0 := by
  intro l
  induction l with
  | nil => intro _; rfl
  | cons a r ih =>
    intro h
    rw [cK_cons, if_neg (h a List.mem_cons_self), ih (fun x hx => h x (List.mem_cons_of_mem _ hx))]
theorem cK_yes {k : Nat} : ∀ {l : List Nat}, (∀ x ∈ l, x = k) → cK k l = l.length := by
  intro l
  induction l with
  | nil => intro _; rfl
  | cons a r ih =>
    intro h
    rw [cK_cons, if_pos (h a List.mem_cons_self), ih (fun x hx => h x (List.mem_cons_of_mem _ hx)), List.length_cons]
    omega
/-- all kinds together -/
theorem cK_sum : ∀ {l : List Nat}, (∀ x ∈ l, 1 ≤ x ∧ x ≤ 8) → cK 1 l + cK 2 l + cK 3 l + cK 4 l + cK 5 l + cK 6 l + cK 7 l + cK 8 l = l.length := by
  intro l
  induction l with
  | nil => intro _; rfl
  | cons a r ih =>
    intro h
    have hr := ih (fun x hx => h x (List.mem_cons_of_mem _ hx))
    obtain ⟨a1, a2⟩ := h a List.mem_cons_self
    have ha : a = 1 ∨ a = 2 ∨ a = 3 ∨ a = 4 ∨ a = 5 ∨ a = 6 ∨ a = 7 ∨ a = 8 := by omega
    rw [cK_cons, cK_cons, cK_cons, cK_cons, cK_cons, cK_cons, cK_cons, cK_cons, List.length_cons]
    rcases ha with rfl | rfl | rfl | rfl | rfl | rfl | rfl | rfl <;> simp only [Nat.reduceEqDiff, if_true, if_false] <;> omega
def nsum (F : Nat → Nat) : Nat → Nat
  | 0 => 0
  | k + 1 => nsum F k + F k
theorem nsum_add {F G H : Nat → Nat} : ∀ {k : Nat}, (∀ i, i < k → H i = F i + G i) → nsum H k = nsum F k + nsum G k := by
  intro k
  induction k with
  | zero => intro _; rfl
  | succ k ih =>
    intro h
    unfold nsum
    rw [ih (fun i hi => h i (by omega)), h k (by omega)]
    omega
theorem nsum_one {y : Nat} {v : Nat} : ∀ {k : Nat}, y < k → nsum (fun i => if i = y then v else 0) k = v := by
  intro k
  induction k with
  | zero => intro h; exact absurd h (Nat.not_lt_zero _)
  | succ k ih =>
    intro h
    unfold nsum
    by_cases z : y < k
    · rw [ih z, if_neg (by omega)]; rfl
    · have e : k = y := by omega
      have : ∀ j, j ≤ y → nsum (fun i => if i = y then v else 0) j = 0 := by
        intro j
        induction j with
        | zero => intro _; rfl
        | succ j ij => intro hj; unfold nsum; rw [ij (by omega), if_neg (by omega)]
      rw [e, this y (Nat.le_refl _), if_pos rfl, Nat.zero_add]
theorem nsum_0 {k : Nat} : nsum (fun _ => 0) k = 0 := by
  induction k with
  | zero => rfl
  | succ k ih => unfold nsum; rw [ih]
theorem nsum_congr {F G : Nat → Nat} : ∀ {k : Nat}, (∀ i, i < k → F i = G i) → nsum F k = nsum G k := by
  intro k
  induction k with
  | zero => intro _; rfl
  | succ k ih =>
    intro h
    unfold nsum
    rw [ih (fun i hi => h i (by omega)), h k (by omega)]
/-- a step that is shown: a ref, or a term that is one of nt -/
def OKE (g : PH) (nt : Nat) (t : Int32) : Prop := kdS g t = 8 ∨ ((kdS g t = 9 ∨ kdS g t = 10) ∧ ∃ y, y < nt ∧ tm g t = Int32.ofNat y)
def OKG (g : PH) (nt : Nat) : Prop := LNB g ∧ ∀ t, kdS g t = 9 ∨ kdS g t = 10 → ∃ y, y < nt ∧ tm g t = Int32.ofNat y
section TOLD
variable {g : PH} {nt n x b k : Nat} {sh : List Int32} {ord : List Nat} {fv : Nat → Int32} {df : Nat → Nat} {T : (Nat → Nat) × (Nat → Nat) × (Nat → Int32)} {HX : Nat → List (Nat × Nat)} {t : Int32}
theorem sw_kd : ∀ k, k < 44 → 1 ≤ k → (swk k = 2 → k = 8) ∧ (swk k = 3 → k = 9) ∧ (swk k = 4 → k = 10) := by decide
theorem OKG.oke (O : OKG g nt) (h : kdS g t = 8 ∨ kdS g t = 9 ∨ kdS g t = 10) : OKE g nt t := by
  rcases h with h | h
  · exact Or.inl h
  · exact Or.inr ⟨h, O.2 t h⟩
theorem pnt_ok {P : Int32 → Prop} (h : ∀ t ∈ sh, P t) (ht : P t) : ∀ u ∈ pnt sh t, P u := by
  unfold pnt
  cases Nat.blt sh.length 600 with
  | false => exact h
  | true =>
    intro u hu
    rcases List.mem_append.mp hu with q | q
    · exact h u q
    · rw [List.mem_singleton.mp q]; exact ht
theorem pnt_600 (h : sh.length ≤ 600) : (pnt sh t).length ≤ 600 := by
  unfold pnt
  by_cases z : sh.length < 600
  · rw [show Nat.blt sh.length 600 = true from Nat.ble_eq.mpr z]
    show (sh ++ [t]).length ≤ 600
    rw [List.length_append]
    exact z
  · rw [show Nat.blt sh.length 600 = false from Bool.eq_false_iff.mpr (fun q => z (Nat.ble_eq.mp q))]
    exact h
theorem stN_ok (O : OKG g nt) (h : (∀ t ∈ sh, OKE g nt t) ∧ sh.length ≤ 600) : (∀ u ∈ stN g t sh, OKE g nt u) ∧ (stN g t sh).length ≤ 600 := by
  obtain ⟨k1, k2⟩ := kdS_ok O.1 t
  obtain ⟨w2, w3, w4⟩ := sw_kd (kdS g t) (by omega) k1
  unfold stN acN
  split
  · exact h
  · split
    · exact h
    · split
      · rename_i z; exact ⟨pnt_ok h.1 (O.oke (Or.inl (w2 z))), pnt_600 h.2⟩
      · split
        · rename_i z; exact ⟨pnt_ok h.1 (O.oke (Or.inr (Or.inl (w3 z)))), pnt_600 h.2⟩
        · split
          · rename_i z; exact ⟨pnt_ok h.1 (O.oke (Or.inr (Or.inr (w4 z)))), pnt_600 h.2⟩
          · exact h
theorem fN_ok {to : Int32} (O : OKG g nt) : ∀ (k : Nat) (t : Int32) (stk sh : List Int32), ((∀ t ∈ sh, OKE g nt t) ∧ sh.length ≤ 600) → (∀ u ∈ fN g fv to k t stk sh, OKE g nt u) ∧ (fN g fv to k t stk sh).length ≤ 600 := by
  intro k
  induction k with
  | zero => intro t stk sh h; exact h
  | succ k ih =>
    intro t stk sh h
    unfold fN
    split
    · exact ih _ _ _ (stN_ok O h)
    · exact h
theorem shT_ok (O : OKG g nt) : ∀ k, (∀ u ∈ shT g fv k, OKE g nt u) ∧ (shT g fv k).length ≤ 600 := by
  intro k
  induction k with
  | zero => exact ⟨fun u hu => absurd hu List.not_mem_nil, Nat.zero_le _⟩
  | succ k ih => exact fN_ok O _ _ _ _ ih
theorem shW_ok (O : OKG g nt) : ∀ (R : List Nat) (sh : List Int32), ((∀ t ∈ sh, OKE g nt t) ∧ sh.length ≤ 600) → (∀ u ∈ shW g fv R sh, OKE g nt u) ∧ (shW g fv R sh).length ≤ 600 := by
  intro R
  induction R with
  | nil => intro sh h; exact h
  | cons x R ih => intro sh h; exact ih _ (fN_ok O _ _ _ _ h)
theorem shM_ok (O : OKG g nt) : (∀ u ∈ shM g n fv ord, OKE g nt u) ∧ (shM g n fv ord).length ≤ 600 := shW_ok O _ _ (shT_ok O n)
theorem evs_len : ∀ (j k : Nat), (evs sh j k).length = j := by
  intro j
  induction j with
  | zero => intro k; rfl
  | succ j ih => intro k; show (evs sh j (k + 1)).length + 1 = j + 1; rw [ih]
theorem evs_ok {P : Int32 → Prop} (h : ∀ t ∈ sh, P t) : ∀ (j k : Nat), k + j ≤ sh.length → ∀ u ∈ evs sh j k, P u := by
  intro j
  induction j with
  | zero => intro k _ u hu; exact absurd hu List.not_mem_nil
  | succ j ih =>
    intro k hk u hu
    rcases List.mem_cons.mp hu with q | q
    · rw [q, List.getD_eq_getElem?_getD, List.getElem?_eq_getElem (show k < sh.length by omega)]
      exact h _ (List.getElem_mem _)
    · exact ih (k + 1) (by omega) u q
theorem i24 {y : Nat} (h : y < 24) : Int32.ofNat y < 24 := by
  rw [show (24 : Int32) = Int32.ofNat 24 from rfl, i_lt (by omega) (by decide)]; exact h
/-- what an item is told, and what is tallied of it: undefined terms -/
theorem jgk6 {da : Nat → Int32} (hn : nt ≤ 24) (hd : ∀ y, df y < 2147483648) (E : OKE g nt t) : cK 6 (jgk g ord df t da) + nsum (fun y => if df y = 0 then T.2.1 y else 0) nt = nsum (fun y => if df y = 0 then (tl1 g t x T).2.1 y else 0) nt ∧ ∀ z ∈ jgk g ord df t da, 4 ≤ z ∧ z ≤ 7 := by
  unfold jgk tl1
  rcases E with e | ⟨e, y, hy, ey⟩
  · rw [if_pos e, if_pos e]
    by_cases q : gd (plI ord) 16 (tm g t) = 0
    · rw [if_pos q]; refine ⟨?_, fun z hz => ?_⟩
      · rw [cK_one, if_neg (by decide), Nat.zero_add]
      · rw [List.mem_singleton.mp hz]; decide
    · rw [if_neg q]; exact ⟨by rw [cK_nil, Nat.zero_add], fun z hz => absurd hz List.not_mem_nil⟩
  · have y24 : y < 24 := by omega
    have y31 : y < 2147483648 := by omega
    have n8 : ¬ kdS g t = 8 := by omega
    rw [if_neg n8, if_neg n8, ey, if_pos (i24 y24), if_pos (i24 y24), i_nat y31]
    rcases e with e | e
    · have n10 : ¬ kdS g t = 10 := by omega
      rw [if_pos e, if_neg n10]
      by_cases q : 0 < da y
      · rw [if_pos q]; refine ⟨?_, fun z hz => ?_⟩
        · rw [cK_one, if_neg (by decide), Nat.zero_add]
        · rw [List.mem_singleton.mp hz]; decide
      · rw [if_neg q]; exact ⟨by rw [cK_nil, Nat.zero_add], fun z hz => absurd hz List.not_mem_nil⟩
    · have n9 : ¬ kdS g t = 9 := by omega
      rw [if_neg n9, if_pos e]
      have ez : (Int32.ofNat (df y) = 0) = (df y = 0) := i_eq (hd y) (by decide)
      have ns : nsum (fun i => if df i = 0 then (tup T.2.1 y) i else 0) nt = nsum (fun i => if df i = 0 then T.2.1 i else 0) nt + (if df y = 0 then 1 else 0) := by
        rw [nsum_add (F := fun i => if df i = 0 then T.2.1 i else 0) (G := fun i => if i = y then (if df y = 0 then 1 else 0) else 0), nsum_one hy]
        intro i _
        unfold tup
        by_cases a : i = y
        · rw [a, if_pos rfl, if_pos rfl]
          by_cases c : df y = 0
          · rw [if_pos c, if_pos c, if_pos c]
          · rw [if_neg c, if_neg c, if_neg c]
        · rw [if_neg a, if_neg a, Nat.add_zero]
      show _ = nsum (fun i => if df i = 0 then (tup T.2.1 y) i else 0) nt ∧ _
      rw [ns]
      by_cases q : df y = 0
      · rw [if_pos (by rw [ez]; exact q), if_pos q]
        refine ⟨?_, fun z hz => ?_⟩
        · rw [cK_one, if_pos rfl, Nat.add_comm]
        · rw [List.mem_singleton.mp hz]; decide
      · rw [if_neg (by rw [ez]; exact q), if_neg q]
        by_cases p : da y = 0
        · rw [if_pos p]
          refine ⟨?_, fun z hz => ?_⟩
          · rw [cK_one, if_neg (by decide), Nat.add_zero, Nat.zero_add]
          · rw [List.mem_singleton.mp hz]; decide
        · rw [if_neg p]; exact ⟨by rw [cK_nil, Nat.zero_add, Nat.add_zero], fun z hz => absurd hz List.not_mem_nil⟩
theorem jit6 (hn : nt ≤ 24) (hd : ∀ y, df y < 2147483648) : ∀ (l : List Int32) (da : Nat → Int32) (T : (Nat → Nat) × (Nat → Nat) × (Nat → Int32)), (∀ t ∈ l, OKE g nt t) → cK 6 (jit g ord df l da) + nsum (fun y => if df y = 0 then T.2.1 y else 0) nt = nsum (fun y => if df y = 0 then (tlr g x l T).2.1 y else 0) nt ∧ ∀ z ∈ jit g ord df l da, 4 ≤ z ∧ z ≤ 7 := by
  intro l
  induction l with
  | nil => intro da T _; exact ⟨Nat.zero_add _, fun z hz => absurd hz List.not_mem_nil⟩
  | cons t r ih =>
    intro da T h
    obtain ⟨a1, a2⟩ := jgk6 (ord := ord) (T := T) (x := x) (da := da) hn hd (h t List.mem_cons_self)
    obtain ⟨b1, b2⟩ := ih (jgd g t da) (tl1 g t x T) (fun u hu => h u (List.mem_cons_of_mem _ hu))
    refine ⟨?_, fun z hz => ?_⟩
    · show cK 6 (jgk g ord df t da ++ jit g ord df r (jgd g t da)) + _ = nsum (fun y => if df y = 0 then (tlr g x r (tl1 g t x T)).2.1 y else 0) nt
      rw [cK_app]
      omega
    · rcases List.mem_append.mp hz with q | q
      · exact a2 z q
      · exact b2 z q
theorem lkc_all {lk : Nat} : ∀ (H : List (Nat × Nat)), ∀ z ∈ lkc ord x k lk H, z = k := by
  intro H
  induction H with
  | nil => intro z hz; exact absurd hz List.not_mem_nil
  | cons e r ih =>
    intro z hz
    rcases List.mem_append.mp hz with q | q
    · by_cases y : e.1 = lk ∧ cfl k (plI ord x) (plI ord e.2) = true
      · rw [if_pos y] at q; exact List.mem_singleton.mp q
      · rw [if_neg y] at q; exact absurd q List.not_mem_nil
    · exact ih z q
theorem lnk_in {H : List (Nat × Nat)} : ∀ z ∈ lnk ord x H, 1 ≤ z ∧ z ≤ 3 := by
  intro z hz
  unfold lnk at hz
  rcases List.mem_append.mp hz with q | q
  · rw [lkc_all _ z q]; decide
  · rcases List.mem_append.mp q with q | q
    · rw [lkc_all _ z q]; decide
    · rw [lkc_all _ z q]; decide
theorem jal6 (hn : nt ≤ 24) (hd : ∀ y, df y < 2147483648) (hs : ∀ t ∈ sh, OKE g nt t) : ∀ (r bs : List Nat) (k : Nat) (da : Nat → Int32) (T : (Nat → Nat) × (Nat → Nat) × (Nat → Int32)), (∀ b ∈ bs, b ≤ sh.length) → cK 6 (jal g ord df sh HX r bs k da) + nsum (fun y => if df y = 0 then T.2.1 y else 0) nt = nsum (fun y => if df y = 0 then (tla g sh r bs k T).2.1 y else 0) nt ∧ ∀ z ∈ jal g ord df sh HX r bs k da, 1 ≤ z ∧ z ≤ 7 := by
  intro r
  induction r with
  | nil => intro bs k da T _; cases bs <;> exact ⟨Nat.zero_add _, fun z hz => absurd hz List.not_mem_nil⟩
  | cons x r ih =>
    intro bs k da T hb
    cases bs with
    | nil => exact ⟨Nat.zero_add _, fun z hz => absurd hz List.not_mem_nil⟩
    | cons b bs =>
      have hb1 := hb b List.mem_cons_self
      have he : ∀ t ∈ evs sh (b - k) k, OKE g nt t := by
        by_cases z : k ≤ b
        · exact evs_ok hs _ _ (by omega)
        · rw [show b - k = 0 from by omega]; intro u hu; exact absurd hu List.not_mem_nil
      obtain ⟨a1, a2⟩ := jit6 (ord := ord) (x := x) hn hd (evs sh (b - k) k) da T he
      obtain ⟨b1, b2⟩ := ih bs (max k b) (jda g (evs sh (b - k) k) da) (tlr g x (evs sh (b - k) k) T) (fun c hc => hb c (List.mem_cons_of_mem _ hc))
      have l0 : cK 6 (lnk ord x (HX x)) = 0 := cK_no (fun z hz => by have := lnk_in z hz; omega)
      refine ⟨?_, fun z hz => ?_⟩
      · show cK 6 ((lnk ord x (HX x) ++ jit g ord df (evs sh (b - k) k) da) ++ jal g ord df sh HX r bs (max k b) (jda g (evs sh (b - k) k) da)) + _ = nsum (fun y => if df y = 0 then (tla g sh r bs (max k b) (tlr g x (evs sh (b - k) k) T)).2.1 y else 0) nt
        rw [cK_app, cK_app, l0]
        omega
      · rcases List.mem_append.mp hz with q | q
        · rcases List.mem_append.mp q with q | q
          · have := lnk_in z q; omega
          · have := a2 z q; omega
        · exact b2 z q
/-- links: kinds 1, 2, 3 -/
theorem jal3 {j : Nat} (hj : j ≤ 3) (hn : nt ≤ 24) (hd : ∀ y, df y < 2147483648) (hs : ∀ t ∈ sh, OKE g nt t) : ∀ (r bs : List Nat) (k : Nat) (da : Nat → Int32), bs.length = r.length → (∀ b ∈ bs, b ≤ sh.length) → Int32.ofNat (cK j (jal g ord df sh HX r bs k da)) = sumI (fun x => Int32.ofNat (cK j (lnk ord x (HX x)))) r := by
  intro r
  induction r with
  | nil => intro bs k da _ _; cases bs <;> rfl
  | cons x r ih =>
    intro bs k da hl hb
    cases bs with
    | nil => simp at hl
    | cons b bs =>
      have hb1 := hb b List.mem_cons_self
      have hl : bs.length = r.length := by simpa using hl
      have he : ∀ t ∈ evs sh (b - k) k, OKE g nt t := by
        by_cases z : k ≤ b
        · exact evs_ok hs _ _ (by omega)
        · rw [show b - k = 0 from by omega]; intro u hu; exact absurd hu List.not_mem_nil
      obtain ⟨a1, a2⟩ := jit6 (ord := ord) (x := x) hn hd (evs sh (b - k) k) da TL0 he
      have l0 : cK j (jit g ord df (evs sh (b - k) k) da) = 0 := cK_no (fun z hz => by have := a2 z hz; omega)
      show Int32.ofNat (cK j ((lnk ord x (HX x) ++ jit g ord df (evs sh (b - k) k) da) ++ jal g ord df sh HX r bs (max k b) (jda g (evs sh (b - k) k) da))) = Int32.ofNat (cK j (lnk ord x (HX x))) + sumI (fun x => Int32.ofNat (cK j (lnk ord x (HX x)))) r
      rw [cK_app, cK_app, l0, Nat.add_zero, ← ih bs (max k b) (jda g (evs sh (b - k) k) da) hl (fun c hc => hb c (List.mem_cons_of_mem _ hc)), i_add]
theorem j8_in : ∀ (k i : Nat), ∀ z ∈ j8 T k i, z = 8 := by
  intro k
  induction k with
  | zero => intro i z hz; exact absurd hz List.not_mem_nil
  | succ k ih =>
    intro i z hz
    rcases List.mem_append.mp hz with q | q
    · by_cases a : 0 < Int32.ofNat (T.1 i)
      · rw [if_pos a] at q
        by_cases c : Int32.ofNat (T.2.1 i) = 0
        · rw [if_pos c] at q; exact List.mem_singleton.mp q
        · rw [if_neg c] at q; exact absurd q List.not_mem_nil
      · rw [if_neg a] at q; exact absurd q List.not_mem_nil
    · exact ih (i + 1) z q
/-- terms that are defined, and not used -/
def idl (T : (Nat → Nat) × (Nat → Nat) × (Nat → Int32)) (i : Nat) : Nat := if 0 < T.1 i ∧ T.2.1 i = 0 then 1 else 0
theorem j8_len (h1 : ∀ y, T.1 y < 2147483648) (h2 : ∀ y, T.2.1 y < 2147483648) : ∀ (k i : Nat), (j8 T k i).length + nsum (idl T) i = nsum (idl T) (i + k) := by
  intro k
  induction k with
  | zero => intro i; exact Nat.zero_add _
  | succ k ih =>
    intro i
    have := ih (i + 1)
    have e1 : (0 < Int32.ofNat (T.1 i)) = (0 < T.1 i) := i_lt (by decide) (h1 i)
    have e2 : (Int32.ofNat (T.2.1 i) = 0) = (T.2.1 i = 0) := i_eq (h2 i) (by decide)
    have e3 : ((if 0 < Int32.ofNat (T.1 i) then (if Int32.ofNat (T.2.1 i) = 0 then [8] else []) else []) : List Nat).length = idl T i := by
      unfold idl
      by_cases a : 0 < T.1 i
      · rw [if_pos (by rw [e1]; exact a)]
        by_cases c : T.2.1 i = 0
        · rw [if_pos (by rw [e2]; exact c), if_pos ⟨a, c⟩]; rfl
        · rw [if_neg (by rw [e2]; exact c), if_neg (fun q => c q.2)]; rfl
      · rw [if_neg (by rw [e1]; exact a), if_neg (fun q => a q.1)]; rfl
    have e4 : nsum (idl T) (i + 1) = nsum (idl T) i + idl T i := rfl
    show ((if 0 < Int32.ofNat (T.1 i) then (if Int32.ofNat (T.2.1 i) = 0 then [8] else []) else []) ++ j8 T k (i + 1)).length + _ = _
    rw [List.length_append, e3, show i + (k + 1) = i + 1 + k from by omega]
    omega
/-- what the tallies keep to: at most as many as were shown; a first definition's clause is one of those in -/
def TIN (ord : List Nat) (m : Nat) (T : (Nat → Nat) × (Nat → Nat) × (Nat → Int32)) : Prop := ∀ y, (T.1 y ≤ m ∧ T.2.1 y ≤ m) ∧ ((T.1 y = 0 ∧ T.2.2 y = -1) ∨ (0 < T.1 y ∧ ∃ x, x ∈ ord ∧ x < 7 ∧ T.2.2 y = Int32.ofNat x))
theorem tl1_in {m : Nat} (hx : x ∈ ord ∧ x < 7) (h : TIN ord m T) : TIN ord (m + 1) (tl1 g t x T) := by
  intro y
  obtain ⟨⟨h1, h2⟩, h3⟩ := h y
  have up : (T.1 y ≤ m + 1 ∧ T.2.1 y ≤ m + 1) ∧ ((T.1 y = 0 ∧ T.2.2 y = -1) ∨ (0 < T.1 y ∧ ∃ x, x ∈ ord ∧ x < 7 ∧ T.2.2 y = Int32.ofNat x)) := ⟨⟨by omega, by omega⟩, h3⟩
  unfold tl1
  split
  · exact up
  · split
    · split
      · refine ⟨⟨up.1.1, ?_⟩, h3⟩
        show tup T.2.1 _ y ≤ m + 1
        unfold tup
        split <;> omega
      · by_cases z : y = (tm g t).toNatClampNeg
        · refine ⟨⟨?_, up.1.2⟩, Or.inr ⟨?_, ?_⟩⟩
          · show tup T.1 _ y ≤ m + 1
            unfold tup
            split <;> omega
          · show 0 < tup T.1 _ y
            unfold tup
            rw [if_pos z]
            omega
          · show ∃ x1, x1 ∈ ord ∧ x1 < 7 ∧ (if y = (tm g t).toNatClampNeg ∧ T.2.2 y < 0 then Int32.ofNat x else T.2.2 y) = Int32.ofNat x1
            rcases h3 with ⟨a, b⟩ | ⟨a, x1, b, c, e⟩
            · rw [if_pos ⟨z, by rw [b]; decide⟩]; exact ⟨x, hx.1, hx.2, rfl⟩
            · rw [if_neg (fun q => by rw [e] at q; exact i_neg (by omega) q.2)]; exact ⟨x1, b, c, e⟩
        · refine ⟨⟨?_, up.1.2⟩, ?_⟩
          · show tup T.1 _ y ≤ m + 1
            unfold tup
            rw [if_neg z]; omega
          · show (tup T.1 _ y = 0 ∧ (if y = (tm g t).toNatClampNeg ∧ T.2.2 y < 0 then Int32.ofNat x else T.2.2 y) = -1) ∨ (0 < tup T.1 _ y ∧ ∃ x1, x1 ∈ ord ∧ x1 < 7 ∧ (if y = (tm g t).toNatClampNeg ∧ T.2.2 y < 0 then Int32.ofNat x else T.2.2 y) = Int32.ofNat x1)
            unfold tup
            rw [if_neg z, if_neg (fun q => z q.1)]
            exact h3
    · exact up
theorem tlr_in (hx : x ∈ ord ∧ x < 7) : ∀ (l : List Int32) (m : Nat) (T : (Nat → Nat) × (Nat → Nat) × (Nat → Int32)), TIN ord m T → TIN ord (m + l.length) (tlr g x l T) := by
  intro l
  induction l with
  | nil => intro m T h; exact h
  | cons t r ih =>
    intro m T h
    have := ih (m + 1) (tl1 g t x T) (tl1_in hx h)
    rw [List.length_cons, show m + (r.length + 1) = m + 1 + r.length from by omega]
    exact this
theorem tla_in : ∀ (r bs : List Nat) (k m : Nat) (T : (Nat → Nat) × (Nat → Nat) × (Nat → Int32)), (∀ x ∈ r, x ∈ ord ∧ x < 7) → (∀ b ∈ bs, b ≤ sh.length) → k ≤ sh.length → m ≤ k → TIN ord m T → TIN ord sh.length (tla g sh r bs k T) := by
  intro r
  induction r with
  | nil => intro bs k m T _ _ h1 h2 h; have : TIN ord sh.length T := fun y => ⟨⟨by have := (h y).1.1; omega, by have := (h y).1.2; omega⟩, (h y).2⟩
           cases bs <;> exact this
  | cons x r ih =>
    intro bs k m T hx hb h1 h2 h
    cases bs with
    | nil =>
      have : TIN ord sh.length T := fun y => ⟨⟨by have := (h y).1.1; omega, by have := (h y).1.2; omega⟩, (h y).2⟩
      exact this
    | cons b bs =>
      have hb1 := hb b List.mem_cons_self
      have q := tlr_in (g := g) (hx x List.mem_cons_self) (evs sh (b - k) k) m T h
      rw [evs_len] at q
      exact ih bs (max k b) (m + (b - k)) _ (fun y hy => hx y (List.mem_cons_of_mem _ hy)) (fun c hc => hb c (List.mem_cons_of_mem _ hc)) (by omega) (by omega) q
/-- all that is told of a contract, in sum -/
theorem klM_ok (O : OKG g nt) (hn : nt ≤ 24) (ho : ∀ x ∈ ord, x < 7) :
    (∀ z ∈ klM g n HX nt fv ord, 1 ≤ z ∧ z ≤ 8) ∧ TIN ord 600 (ttM g n fv ord) ∧ (∀ j, j ≤ 3 → Int32.ofNat (cK j (klM g n HX nt fv ord)) = sumI (fun x => Int32.ofNat (cK j (lnk ord x (HX x)))) ord) ∧
    cK 6 (klM g n HX nt fv ord) = nsum (fun y => if (ttM g n fv ord).1 y = 0 then (ttM g n fv ord).2.1 y else 0) nt ∧ cK 8 (klM g n HX nt fv ord) = nsum (idl (ttM g n fv ord)) nt := by
  obtain ⟨s1, s2⟩ := shM_ok (fv := fv) (ord := ord) (n := n) O
  obtain ⟨b1, b2⟩ := bdW_le g fv ord (shT g fv n)
  have b1 : (bdM g n fv ord).length = ord.length := b1
  have b2 : ∀ b ∈ bdM g n fv ord, b ≤ (shM g n fv ord).length := b2
  have T0 : TIN ord 0 TL0 := fun y => ⟨⟨Nat.le_refl _, Nat.le_refl _⟩, Or.inl ⟨rfl, rfl⟩⟩
  have TT : TIN ord (shM g n fv ord).length (ttM g n fv ord) := tla_in ord (bdM g n fv ord) 0 0 TL0 (fun x hx => ⟨hx, ho x hx⟩) b2 (Nat.zero_le _) (Nat.le_refl _) T0
  have TT : TIN ord 600 (ttM g n fv ord) := fun y => ⟨⟨by have := (TT y).1.1; omega, by have := (TT y).1.2; omega⟩, (TT y).2⟩
  have d1 : ∀ y, (ttM g n fv ord).1 y < 2147483648 := fun y => by have := (TT y).1.1; omega
  have d2 : ∀ y, (ttM g n fv ord).2.1 y < 2147483648 := fun y => by have := (TT y).1.2; omega
  obtain ⟨j1, j2⟩ := jal6 (ord := ord) (HX := HX) (df := (ttM g n fv ord).1) hn d1 s1 ord (bdM g n fv ord) 0 (fun _ => 0) TL0 b2
  have i1 := j8_in (T := ttM g n fv ord) nt 0
  have i2 := j8_len d1 d2 nt 0
  have z0 : nsum (fun y => if (ttM g n fv ord).1 y = 0 then (TL0 : (Nat → Nat) × (Nat → Nat) × (Nat → Int32)).2.1 y else 0) nt = 0 := by
    rw [nsum_congr (G := fun _ => 0) (fun i _ => by split <;> rfl), nsum_0]
  refine ⟨fun z hz => ?_, TT, fun j hj => ?_, ?_, ?_⟩
  · rcases List.mem_append.mp hz with q | q
    · have := j2 z q; omega
    · rw [i1 z q]; decide
  · have e8 : cK j (j8 (ttM g n fv ord) nt 0) = 0 := cK_no (fun z hz => by rw [i1 z hz]; omega)
    unfold klM
    rw [cK_app, e8, Nat.add_zero]
    exact jal3 hj hn d1 s1 ord (bdM g n fv ord) 0 (fun _ => 0) b1 b2
  · have e8 : cK 6 (j8 (ttM g n fv ord) nt 0) = 0 := cK_no (fun z hz => by rw [i1 z hz]; decide)
    rw [z0, Nat.add_zero] at j1
    unfold klM
    rw [cK_app, e8, Nat.add_zero]
    exact j1
  · have e8 : cK 8 (jal g ord (ttM g n fv ord).1 (shM g n fv ord) HX ord (bdM g n fv ord) 0 (fun _ => 0)) = 0 := cK_no (fun z hz => by have := j2 z hz; omega)
    unfold klM
    rw [cK_app, e8, Nat.zero_add, cK_yes i1]
    rw [Nat.zero_add] at i2
    exact i2
end TOLD
