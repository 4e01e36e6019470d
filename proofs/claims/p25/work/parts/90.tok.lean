/-! The text is read into tokens: signs, words, numbers, strings. -/
/-- the text that the tokens are of -/
def TXT (tx : List Nat) (h : PH) : Prop := p_kd h 1036 = 4 ∧ p_rm h 1036 0 = 1037 ∧ p_kd h 1037 = 120 ∧ p_ln h 1037 = 3000 ∧ p_im h 1036 1 = Int32.ofNat tx.length ∧ tx.length ≤ 3000 ∧ (∀ c ∈ tx, c < 128) ∧ ∀ i, i < tx.length → p_im h 1037 i = Int32.ofNat (tx.getD i 0)
/-- u stands at p -/
def At (tx : List Nat) (p : Nat) (u : List Nat) : Prop := ∃ pre, tx = pre ++ u ∧ pre.length = p
theorem At.le {tx u : List Nat} {p : Nat} (A : At tx p u) : p + u.length = tx.length := by
  obtain ⟨pre, e, l⟩ := A
  rw [e, List.length_append, l]
theorem At.get {tx u : List Nat} {p j : Nat} (A : At tx p u) (hj : j < u.length) : tx.getD (p + j) 0 = u.getD j 0 := by
  obtain ⟨pre, e, l⟩ := A
  rw [e, ← l, getD_app2]
theorem At.mem {tx u : List Nat} {p : Nat} (A : At tx p u) {c : Nat} (hc : c ∈ u) : c ∈ tx := by
  obtain ⟨pre, e, l⟩ := A
  rw [e]
  exact List.mem_append_right _ hc
theorem At.skip {tx w u : List Nat} {p : Nat} (A : At tx p (w ++ u)) : At tx (p + w.length) u := by
  obtain ⟨pre, e, l⟩ := A
  exact ⟨pre ++ w, by rw [e, List.append_assoc], by rw [List.length_append, l]⟩
theorem c255 : ∀ c, c < 128 → Int32.ofNat c &&& 255 = Int32.ofNat c := by decide +kernel
section TKS
variable {d p : Nat} {tx u : List Nat} {h : PH} {Q : Int32 → PH → Prop}
theorem s64 {j : Nat} (T : TXT tx h) (A : At tx p u) (hj : j < u.length) (K : Q (Int32.ofNat (u.getD j 0)) h) : CI (d + 1) 64 [.ref 1036, .int (Int32.ofNat (p + j))] h Q := by
  obtain ⟨t1, t2, t3, t4, t5, t6, t7, t8⟩ := T
  have al := A.le
  have hm : u.getD j 0 < 128 := by
    refine t7 _ (A.mem ?_)
    rw [List.getD_eq_getElem?_getD, List.getElem?_eq_getElem hj]
    exact List.getElem_mem hj
  rw [e64, if_neg (i_neg (by omega)), t5, if_pos (by rw [i_lt (by omega) (by omega)]; omega), t2, t3, t4, i_nat (by omega), t8 _ (by omega), A.get hj, c255 _ hm]
  exact ⟨⟨t1, by decide⟩, ⟨t1, by decide⟩, ⟨⟨Or.inl (by decide), by decide⟩, i_in (by omega) (by decide)⟩, K⟩
theorem s64e {i : Nat} (T : TXT tx h) (hi : tx.length ≤ i) (hi2 : i < 100000) (K : Q (-1) h) : CI (d + 1) 64 [.ref 1036, .int (Int32.ofNat i)] h Q := by
  obtain ⟨t1, t2, t3, t4, t5, t6, t7, t8⟩ := T
  rw [e64, if_neg (i_neg (by omega)), t5, if_neg (by rw [i_lt (by omega) (by omega)]; omega), r64_6]
  exact ⟨⟨t1, by decide⟩, K⟩
theorem s66 {c : Nat} (hc : c < 128) (K1 : 97 ≤ c → c ≤ 122 → Q 1 h) (K0 : ¬ (97 ≤ c ∧ c ≤ 122) → Q 0 h) : CI (d + 1) 66 [.int (Int32.ofNat c)] h Q := by
  rw [e66]
  exact if_ltn (k := 97) rfl (by omega) (by decide) (fun z => ⟨Or.inl rfl, K0 (by omega)⟩) (fun z => if_gtn (k := 122) rfl (by omega) (by decide) (fun z2 => ⟨Or.inl rfl, K0 (by omega)⟩) (fun z2 => ⟨Or.inr rfl, K1 (by omega) (by omega)⟩))
theorem s67 {c : Nat} (hc : c < 128) (K1 : 48 ≤ c → c ≤ 57 → Q 1 h) (K0 : ¬ (48 ≤ c ∧ c ≤ 57) → Q 0 h) : CI (d + 1) 67 [.int (Int32.ofNat c)] h Q := by
  rw [e67]
  exact if_ltn (k := 48) rfl (by omega) (by decide) (fun z => ⟨Or.inl rfl, K0 (by omega)⟩) (fun z => if_gtn (k := 57) rfl (by omega) (by decide) (fun z2 => ⟨Or.inl rfl, K0 (by omega)⟩) (fun z2 => ⟨Or.inr rfl, K1 (by omega) (by omega)⟩))
/-- the place is no blank -/
def nbl (u : List Nat) : Prop := ∀ c r, u = c :: r → c ≠ 32 ∧ c ≠ 10
theorem At.lt128 {c : Nat} (T : TXT tx h) (A : At tx p u) (hc : c ∈ u) : c < 128 := T.2.2.2.2.2.2.1 c (A.mem hc)
theorem l65 {Q : Option Value → PH → Prop} {x3 : Int32} (h3 : x3 < 3000) (T : TXT tx h) (A : At tx p u) (hu : nbl u) (K : Q (some (.int (Int32.ofNat p))) h) : wp (d + 1) 65 4 [.val (.ref 1036), .unset, .val (.int (Int32.ofNat p)), .val (.int x3)] [] h Q := by
  have t1 := T.1
  rw [r65_4, if_pos h3]
  refine ⟨⟨t1, by decide⟩, ?_⟩
  cases u with
  | nil =>
    have al := A.le
    have t6 := T.2.2.2.2.2.1
    simp only [List.length_nil] at al
    refine s64e T (by omega) (by omega) ?_
    rw [if_neg (by decide)]
    refine ⟨⟨t1, by decide⟩, s64e T (by omega) (by omega) ?_⟩
    rw [if_neg (by decide)]
    exact K
  | cons c r =>
    have hc : c < 128 := A.lt128 T List.mem_cons_self
    obtain ⟨n1, n2⟩ := hu c r rfl
    have q : ∀ {Q1 : Int32 → PH → Prop}, Q1 (Int32.ofNat c) h → CI (d + 1) 64 [.ref 1036, .int (Int32.ofNat p)] h Q1 := fun k => s64 (j := 0) T A (Nat.succ_pos _) k
    refine q (if_eqn (k := 32) rfl (by omega) (by decide) (fun z => absurd z n1) (fun z => ⟨⟨t1, by decide⟩, q (if_eqn (k := 10) rfl (by omega) (by decide) (fun z => absurd z n2) (fun z => K))⟩))
theorem s65 (T : TXT tx h) (bl : Bool) (A : At tx p ((bif bl then [32] else []) ++ u)) (hu : nbl u) (K : Q (Int32.ofNat (p + (bif bl then 1 else 0))) h) : CI (d + 2) 65 [.ref 1036, .int (Int32.ofNat p)] h Q := by
  have t1 := T.1
  rw [e65]
  cases bl with
  | false => exact l65 (Q := fun v h1 => onI v (fun x => Q x h1)) (by decide) T A hu K
  | true =>
    have A : At tx p (32 :: u) := A
    rw [r65_4, if_pos (by decide)]
    refine ⟨⟨t1, by decide⟩, s64 (j := 0) T A (Nat.succ_pos _) ?_⟩
    rw [show (32 :: u).getD 0 0 = 32 from rfl, if_pos (by decide), r65_17, i_ofNat1, i_add]
    exact l65 (Q := fun v h1 => onI v (fun x => Q x h1)) (by decide) T (At.skip (w := [32]) A) hu K
theorem l68 {Q : Option Value → PH → Prop} {w r : List Nat} {c : Nat} (T : TXT tx h) (A : At tx p (w ++ c :: r)) (hw : ∀ x ∈ w, al x = true) (hc : al c = false) (K : Q (some (.int (Int32.ofNat w.length))) h) : ∀ (k j : Nat), j + k = w.length → wp (d + 1) 68 4 [.val (.ref 1036), .val (.int (Int32.ofNat p)), .val (.int (Int32.ofNat j)), .val (.int (Int32.ofNat j))] [] h Q := by
  have t1 := T.1
  have t6 := T.2.2.2.2.2.1
  have al := A.le
  simp only [List.length_append, List.length_cons] at al
  intro k
  induction k with
  | zero =>
    intro j e
    have hg : (w ++ c :: r).getD j 0 = c := by
      obtain rfl : j = w.length + 0 := by omega
      rw [getD_app2]; rfl
    have hc' : ¬ ((97 ≤ c ∧ c ≤ 122) ∨ (48 ≤ c ∧ c ≤ 57)) := fun z => by rw [al_iff.mpr z] at hc; cases hc
    have c128 : c < 128 := A.lt128 T (List.mem_append_right _ List.mem_cons_self)
    rw [r68_4, if_pos (by rw [show (3000 : Int32) = Int32.ofNat 3000 from rfl, i_lt (by omega) (by omega)]; omega), i_add]
    have q : ∀ {Q1 : Int32 → PH → Prop}, Q1 (Int32.ofNat c) h → CI (d + 1) 64 [.ref 1036, .int (Int32.ofNat (p + j))] h Q1 := fun k => s64 T A (by simp only [List.length_append, List.length_cons]; omega) (by rw [hg]; exact k)
    refine ⟨⟨t1, by decide⟩, q (s66 c128 (fun z1 z2 => absurd (Or.inl ⟨z1, z2⟩) hc') (fun _ => ?_))⟩
    rw [if_pos rfl]
    refine ⟨⟨t1, by decide⟩, q (s67 c128 (fun z1 z2 => absurd (Or.inr ⟨z1, z2⟩) hc') (fun _ => ?_))⟩
    rw [if_pos rfl, show j = w.length from by omega]
    exact K
  | succ k ih =>
    intro j e
    have hj : j < w.length := by omega
    have hg : (w ++ c :: r).getD j 0 = w[j] := by rw [getD_app1 hj, List.getD_eq_getElem?_getD, List.getElem?_eq_getElem hj]; rfl
    have hx := al_iff.mp (hw w[j] (List.getElem_mem hj))
    have c128 : w[j] < 128 := A.lt128 T (List.mem_append_left _ (List.getElem_mem hj))
    have nx : wp (d + 1) 68 21 [.val (.ref 1036), .val (.int (Int32.ofNat p)), .val (.int (Int32.ofNat j)), .val (.int (Int32.ofNat j))] [] h Q := by
      rw [r68_21, i_ofNat1, i_add]
      exact ih (j + 1) (by omega)
    rw [r68_4, if_pos (by rw [show (3000 : Int32) = Int32.ofNat 3000 from rfl, i_lt (by omega) (by omega)]; omega), i_add]
    have q : ∀ {Q1 : Int32 → PH → Prop}, Q1 (Int32.ofNat w[j]) h → CI (d + 1) 64 [.ref 1036, .int (Int32.ofNat (p + j))] h Q1 := fun k => s64 T A (by simp only [List.length_append, List.length_cons]; omega) (by rw [hg]; exact k)
    refine ⟨⟨t1, by decide⟩, q (s66 c128 (fun _ _ => ?_) (fun z1 => ?_))⟩
    · rw [if_neg (by decide)]; exact nx
    · rw [if_pos rfl]
      refine ⟨⟨t1, by decide⟩, q (s67 c128 (fun _ _ => ?_) (fun z2 => by omega))⟩
      rw [if_neg (by decide)]; exact nx
theorem s68 {w r : List Nat} {c : Nat} (T : TXT tx h) (A : At tx p (w ++ c :: r)) (hw : ∀ x ∈ w, al x = true) (hc : al c = false) (K : Q (Int32.ofNat w.length) h) : CI (d + 2) 68 [.ref 1036, .int (Int32.ofNat p)] h Q := by
  rw [e68]
  exact l68 (Q := fun v h1 => onI v (fun x => Q x h1)) T A hw hc K w.length 0 (by omega)
theorem l69 {Q : Option Value → PH → Prop} {w r : List Nat} {c : Nat} (T : TXT tx h) (A : At tx p (w ++ c :: r)) (hw : ∀ x ∈ w, 48 ≤ x ∧ x ≤ 57) (hc : ¬ (48 ≤ c ∧ c ≤ 57)) (K : Q (some (.int (Int32.ofNat w.length))) h) : ∀ (k j : Nat), j + k = w.length → wp (d + 1) 69 4 [.val (.ref 1036), .val (.int (Int32.ofNat p)), .val (.int (Int32.ofNat j)), .val (.int (Int32.ofNat j))] [] h Q := by
  have t1 := T.1
  have t6 := T.2.2.2.2.2.1
  have al := A.le
  simp only [List.length_append, List.length_cons] at al
  intro k
  induction k with
  | zero =>
    intro j e
    have hg : (w ++ c :: r).getD j 0 = c := by
      obtain rfl : j = w.length + 0 := by omega
      rw [getD_app2]; rfl
    have c128 : c < 128 := A.lt128 T (List.mem_append_right _ List.mem_cons_self)
    rw [r69_4, if_pos (by rw [show (3000 : Int32) = Int32.ofNat 3000 from rfl, i_lt (by omega) (by omega)]; omega), i_add]
    refine ⟨⟨t1, by decide⟩, s64 T A (by simp only [List.length_append, List.length_cons]; omega) ?_⟩
    rw [hg]
    refine s67 c128 (fun z1 z2 => absurd ⟨z1, z2⟩ hc) (fun _ => ?_)
    rw [if_pos rfl, show j = w.length from by omega]
    exact K
  | succ k ih =>
    intro j e
    have hj : j < w.length := by omega
    have hg : (w ++ c :: r).getD j 0 = w[j] := by rw [getD_app1 hj, List.getD_eq_getElem?_getD, List.getElem?_eq_getElem hj]; rfl
    have hx := hw w[j] (List.getElem_mem hj)
    rw [r69_4, if_pos (by rw [show (3000 : Int32) = Int32.ofNat 3000 from rfl, i_lt (by omega) (by omega)]; omega), i_add]
    refine ⟨⟨t1, by decide⟩, s64 T A (by simp only [List.length_append, List.length_cons]; omega) ?_⟩
    rw [hg]
    refine s67 (by omega) (fun _ _ => ?_) (fun z1 => absurd hx z1)
    rw [if_neg (by decide), i_ofNat1, i_add]
    exact ih (j + 1) (by omega)
theorem s69 {w r : List Nat} {c : Nat} (T : TXT tx h) (A : At tx p (w ++ c :: r)) (hw : ∀ x ∈ w, 48 ≤ x ∧ x ≤ 57) (hc : ¬ (48 ≤ c ∧ c ≤ 57)) (K : Q (Int32.ofNat w.length) h) : CI (d + 2) 69 [.ref 1036, .int (Int32.ofNat p)] h Q := by
  rw [e69]
  exact l69 (Q := fun v h1 => onI v (fun x => Q x h1)) T A hw hc K w.length 0 (by omega)
theorem l70 {Q : Option Value → PH → Prop} {w r : List Nat} (T : TXT tx h) (A : At tx p (39 :: (w ++ 39 :: r))) (hw : ∀ x ∈ w, 32 ≤ x ∧ x ≤ 126 ∧ x ≠ 39) (h0 : w ≠ []) (h40 : w.length ≤ 40) (K : Q (some (.int (Int32.ofNat (w.length + 2)))) h) : ∀ (k j : Nat), j + k = w.length → wp (d + 1) 70 2 [.val (.ref 1036), .val (.int (Int32.ofNat p)), .val (.int (Int32.ofNat (1 + j))), .unset] [] h Q := by
  have t1 := T.1
  have t6 := T.2.2.2.2.2.1
  have al := A.le
  simp only [List.length_append, List.length_cons] at al
  intro k
  induction k with
  | zero =>
    intro j e
    have hg : (39 :: (w ++ 39 :: r)).getD (1 + j) 0 = 39 := by
      rw [show 1 + j = (w.length + 0) + 1 from by omega]
      show (w ++ 39 :: r).getD (w.length + 0) 0 = 39
      rw [getD_app2]; rfl
    rw [r70_2, if_neg (by rw [show (41 : Int32) = Int32.ofNat 41 from rfl, i_lt (by omega) (by omega)]; omega), i_add]
    refine ⟨⟨t1, by decide⟩, s64 T A (by simp only [List.length_append, List.length_cons]; omega) ?_⟩
    have : w.length ≠ 0 := fun z => h0 (List.length_eq_zero_iff.mp z)
    rw [hg, if_pos (by decide), if_neg (by rw [i_ofNat1, i_eq (by omega) (by omega)]; omega), i_ofNat1, i_add, show 1 + j + 1 = w.length + 2 from by omega]
    exact K
  | succ k ih =>
    intro j e
    have hj : j < w.length := by omega
    have hg : (39 :: (w ++ 39 :: r)).getD (1 + j) 0 = w[j] := by
      rw [show 1 + j = j + 1 from by omega]
      show (w ++ 39 :: r).getD j 0 = w[j]
      rw [getD_app1 hj, List.getD_eq_getElem?_getD, List.getElem?_eq_getElem hj]; rfl
    have hx := hw w[j] (List.getElem_mem hj)
    rw [r70_2, if_neg (by rw [show (41 : Int32) = Int32.ofNat 41 from rfl, i_lt (by omega) (by omega)]; omega), i_add]
    refine ⟨⟨t1, by decide⟩, s64 T A (by simp only [List.length_append, List.length_cons]; omega) ?_⟩
    rw [hg]
    refine if_eqn (k := 39) rfl (by omega) (by decide) (fun z => absurd z hx.2.2) (fun _ => if_ltn (k := 32) rfl (by omega) (by decide) (fun z => by omega) (fun _ => if_gtn (k := 126) rfl (by omega) (by decide) (fun z => by omega) (fun _ => ?_)))
    rw [i_ofNat1, i_add]
    exact ih (j + 1) (by omega)
theorem s70 {w r : List Nat} (T : TXT tx h) (A : At tx p (39 :: (w ++ 39 :: r))) (hw : ∀ x ∈ w, 32 ≤ x ∧ x ≤ 126 ∧ x ≠ 39) (h0 : w ≠ []) (h40 : w.length ≤ 40) (K : Q (Int32.ofNat (w.length + 2)) h) : CI (d + 2) 70 [.ref 1036, .int (Int32.ofNat p)] h Q := by
  rw [e70]
  exact l70 (Q := fun v h1 => onI v (fun x => Q x h1)) T A hw h0 h40 K w.length 0 (by omega)
end TKS
