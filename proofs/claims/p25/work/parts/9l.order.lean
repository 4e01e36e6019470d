/-! The order of clauses. -/
def lso (m : Nat) : Nat → Nat → Nat
  | 0, l => l
  | k + 1, l => lso m k (bif m.testBit k then k else l)
def nxf (af : Nat → Nat) (m l : Nat) : Nat → Nat → Nat
  | 0, _ => l
  | k + 1, i => bif m.testBit i && Nat.beq (af i &&& m) 0 then i else nxf af m l k (i + 1)
def nxo (af : Nat → Nat) (m : Nat) : Nat := nxf af m (lso m 16 0) (16 - lso m 16 0) (lso m 16 0)
def arr (af : Nat → Nat) : Nat → Nat → List Nat
  | 0, _ => []
  | k + 1, m => bif Nat.beq m 0 then [] else nxo af m :: arr af k (an m (2 ^ nxo af m))
def plc (ord : List Nat) (c : Nat) : Nat := if c ∈ ord then ord.idxOf c + 1 else 0
section ORDP
variable {n m k : Nat} {af : Nat → Nat}
theorem lso_bit : ∀ (k l : Nat), m.testBit l = true ∨ (∃ i, i < k ∧ m.testBit i = true) → m.testBit (lso m k l) = true := by
  intro k
  induction k with
  | zero =>
    intro l h
    rcases h with h | ⟨i, hi, -⟩
    · exact h
    · omega
  | succ k ih =>
    intro l h
    show m.testBit (lso m k (bif m.testBit k then k else l)) = true
    refine ih _ ?_
    cases hb : m.testBit k with
    | true => left; exact hb
    | false =>
      rcases h with h | ⟨i, hi, hj⟩
      · left; exact h
      · by_cases z : i = k
        · rw [z, hb] at hj; exact absurd hj (by decide)
        · right; exact ⟨i, by omega, hj⟩
theorem nxf_bit {l : Nat} (hl : m.testBit l = true) : ∀ (k i : Nat), m.testBit (nxf af m l k i) = true := by
  intro k
  induction k with
  | zero => intro i; exact hl
  | succ k ih =>
    intro i
    show m.testBit (bif m.testBit i && Nat.beq (af i &&& m) 0 then i else nxf af m l k (i + 1)) = true
    cases hb : m.testBit i with
    | false => exact ih (i + 1)
    | true =>
      cases Nat.beq (af i &&& m) 0 with
      | false => exact ih (i + 1)
      | true => exact hb
theorem lso_ok (hn : n ≤ 7) (hm : m < 2 ^ n) (h0 : m ≠ 0) : m.testBit (lso m 16 0) = true := by
  obtain ⟨i, hi⟩ := Nat.exists_testBit_of_ne_zero h0
  exact lso_bit 16 0 (Or.inr ⟨i, by have := bit_lt hm hi; omega, hi⟩)
theorem nxo_bit (hn : n ≤ 7) (hm : m < 2 ^ n) (h0 : m ≠ 0) : m.testBit (nxo af m) = true := nxf_bit (lso_ok hn hm h0) _ _
theorem an_one {x j : Nat} (hm : m < 128) : (an m (2 ^ x)).testBit j = (m.testBit j && !(decide (j = x))) := by
  rw [an_bit hm, Nat.testBit_two_pow, decide_eq_decide.mpr (show x = j ↔ j = x from eq_comm)]
theorem an_pop {x : Nat} (hm : m < 128) (hx : m.testBit x = true) : pop (an m (2 ^ x)) < pop m := by
  have hl : an m (2 ^ x) < 128 := an_lt (k := 7) hm
  refine pop_sub _ hl _ hm (sub_and (fun j hj => ?_)) (fun e => ?_)
  · rw [an_one hm] at hj
    exact (Bool.and_eq_true _ _ ▸ hj).1
  · have := an_one (x := x) (j := x) hm
    rw [e, hx] at this
    simp at this
theorem arr_nil : arr af k 0 = [] := by cases k <;> rfl
theorem arr_cons (h0 : m ≠ 0) : arr af (k + 1) m = nxo af m :: arr af k (an m (2 ^ nxo af m)) := by
  show (bif Nat.beq m 0 then [] else _) = _
  rw [show Nat.beq m 0 = false from Bool.eq_false_iff.mpr (fun q => h0 (Nat.eq_of_beq_eq_true q))]; rfl
theorem pop_0 (hm : m < 128) (h : pop m = 0) : m = 0 := by
  by_cases z : m = 0
  · exact z
  · obtain ⟨i, hi⟩ := Nat.exists_testBit_of_ne_zero z
    have := an_pop hm hi
    omega
theorem arr_mem (hn : n ≤ 7) : ∀ (k m : Nat), m < 2 ^ n → ∀ c, c ∈ arr af k m → m.testBit c = true := by
  intro k
  induction k with
  | zero => intro m hm c hc; exact absurd hc (List.not_mem_nil)
  | succ k ih =>
    intro m hm c hc
    by_cases z : m = 0
    · rw [z, arr_nil] at hc; exact absurd hc (List.not_mem_nil)
    · rw [arr_cons z] at hc
      rcases List.mem_cons.mp hc with q | q
      · rw [q]; exact nxo_bit hn hm z
      · have := ih _ (an_lt hm) c q
        rw [an_one (p128 hn hm)] at this
        exact (Bool.and_eq_true _ _ ▸ this).1
theorem arr_all (hn : n ≤ 7) : ∀ (k m : Nat), m < 2 ^ n → pop m ≤ k → ∀ c, m.testBit c = true → c ∈ arr af k m := by
  intro k
  induction k with
  | zero =>
    intro m hm hp c hc
    rw [pop_0 (p128 hn hm) (by omega)] at hc
    simp at hc
  | succ k ih =>
    intro m hm hp c hc
    by_cases z : m = 0
    · rw [z] at hc; simp at hc
    · rw [arr_cons z]
      by_cases y : c = nxo af m
      · rw [y]; exact List.mem_cons_self
      · refine List.mem_cons_of_mem _ (ih _ (an_lt hm) ?_ c ?_)
        · have := an_pop (p128 hn hm) (nxo_bit (af := af) hn hm z); omega
        · rw [an_one (p128 hn hm), hc, decide_eq_false y]; rfl
theorem arr_nodup (hn : n ≤ 7) : ∀ (k m : Nat), m < 2 ^ n → (arr af k m).Nodup := by
  intro k
  induction k with
  | zero => intro m hm; exact List.nodup_nil
  | succ k ih =>
    intro m hm
    by_cases z : m = 0
    · rw [z, arr_nil]; exact List.nodup_nil
    · rw [arr_cons z]
      refine List.nodup_cons.mpr ⟨fun q => ?_, ih _ (an_lt hm)⟩
      have := arr_mem hn k _ (an_lt hm) _ q
      rw [an_one (p128 hn hm), decide_eq_true rfl] at this
      simp at this
theorem arr_len (hn : n ≤ 7) : ∀ (k m : Nat), m < 2 ^ n → (arr af k m).length ≤ pop m := by
  intro k
  induction k with
  | zero => intro m hm; exact Nat.zero_le _
  | succ k ih =>
    intro m hm
    by_cases z : m = 0
    · rw [z, arr_nil]; exact Nat.zero_le _
    · rw [arr_cons z]
      have h1 := ih _ (an_lt (b := 2 ^ nxo af m) hm)
      have h2 := an_pop (p128 hn hm) (nxo_bit (af := af) hn hm z)
      show (arr af k (an m (2 ^ nxo af m))).length + 1 ≤ pop m
      omega
/-- sums over what is in -/
def sumI (F : Nat → Int32) : List Nat → Int32
  | [] => 0
  | c :: r => F c + sumI F r
def bsum (F : Nat → Int32) (m : Nat) : Nat → Int32
  | 0 => 0
  | k + 1 => bsum F m k + (if m.testBit k = true then F k else 0)
theorem bsum_0 {F : Nat → Int32} : ∀ k, bsum F 0 k = 0 := by
  intro k
  induction k with
  | zero => rfl
  | succ k ih => unfold bsum; rw [ih, if_neg (by simp)]; rfl
theorem bsum_an {F : Nat → Int32} {x : Nat} (hm : m < 128) (hx : m.testBit x = true) : ∀ k, bsum F m k = (if x < k then F x else 0) + bsum F (an m (2 ^ x)) k := by
  intro k
  induction k with
  | zero => rfl
  | succ k ih =>
    unfold bsum
    rw [ih, an_one hm]
    by_cases z : x = k
    · subst z
      rw [if_neg (by omega), if_pos hx, if_pos (by omega), if_neg (by simp), Int32.zero_add, Int32.add_zero, Int32.add_comm]
    · have e : (m.testBit k && !decide (k = x)) = m.testBit k := by rw [decide_eq_false (fun q => z q.symm)]; simp
      rw [e]
      by_cases y : x < k
      · rw [if_pos y, if_pos (show x < k + 1 from by omega), Int32.add_assoc]
      · rw [if_neg y, if_neg (show ¬ x < k + 1 from by omega), Int32.add_assoc]
theorem arr_sum {F : Nat → Int32} (hn : n ≤ 7) : ∀ (k m : Nat), m < 2 ^ n → pop m ≤ k → sumI F (arr af k m) = bsum F m n := by
  intro k
  induction k with
  | zero =>
    intro m hm hp
    rw [pop_0 (p128 hn hm) (by omega), bsum_0]; rfl
  | succ k ih =>
    intro m hm hp
    by_cases z : m = 0
    · rw [z, arr_nil, bsum_0]; rfl
    · have hb := nxo_bit (af := af) hn hm z
      have h1 := an_pop (p128 hn hm) hb
      rw [arr_cons z, bsum_an (p128 hn hm) hb n, if_pos (bit_lt hm hb), ← ih _ (an_lt hm) (by omega)]
      rfl
theorem plc_mem {ord : List Nat} {c : Nat} (h : c ∈ ord) : 1 ≤ plc ord c ∧ plc ord c ≤ ord.length ∧ ord.getD (plc ord c - 1) 0 = c := by
  unfold plc
  rw [if_pos h]
  have hl := List.idxOf_lt_length_of_mem h
  refine ⟨by omega, by omega, ?_⟩
  rw [Nat.add_sub_cancel, List.getD_eq_getElem?_getD, List.getElem?_eq_getElem hl]
  exact List.getElem_idxOf hl
theorem plc_not {ord : List Nat} {c : Nat} (h : c ∉ ord) : plc ord c = 0 := by unfold plc; rw [if_neg h]
theorem plc_snoc {P : List Nat} {x c : Nat} (hx : x ∉ P) : plc (P ++ [x]) c = if c = x then P.length + 1 else plc P c := by
  unfold plc
  rw [List.idxOf_append]
  by_cases z : c = x
  · subst z
    rw [if_pos rfl, if_pos (List.mem_append.mpr (Or.inr List.mem_cons_self)), if_neg hx, List.idxOf_cons_self]
    omega
  · rw [if_neg z]
    by_cases y : c ∈ P
    · rw [if_pos (List.mem_append.mpr (Or.inl y)), if_pos y, if_pos y]
    · rw [if_neg (fun q => by rcases List.mem_append.mp q with q | q; exact y q; exact z (List.mem_singleton.mp q)), if_neg y]
end ORDP
