/-! A clause's head as the library keeps it; links that are told; rows of bits. -/
def hxm : List Lx → List (Nat × Nat)
  | [] => []
  | x :: r => (x.1, (lx r 0).2.1 - 99 * 32) :: hxm r
def PRS (n : Nat) (l : List Lx) : Prop := ∀ j, j < l.length → (lx l j).1 = 5 ∨ (lx l j).1 = 6 ∨ (lx l j).1 = 7 → j + 1 < l.length ∧ ∃ o, o < n ∧ lx l (j + 1) = (38, 99 * 32 + o, 1)
def sumN (F : Nat → Nat) : List Nat → Nat
  | [] => 0
  | c :: r => F c + sumN F r
def bnN (F : Nat → Nat) (m : Nat) : Nat → Nat
  | 0 => 0
  | k + 1 => bnN F m k + (if m.testBit k = true then F k else 0)
section HEADS
variable {n f c k lk m b : Nat} {ord : List Nat} {D : CLD} {F : Nat → Nat} {l : List Nat}
theorem hxm_len : ∀ (H : List Lx), (hxm H).length = H.length := by
  intro H
  induction H with
  | nil => rfl
  | cons x r ih => show (hxm r).length + 1 = r.length + 1; rw [ih]
theorem lx_s {x : Lx} {r : List Lx} {j : Nat} : lx (x :: r) (j + 1) = lx r j := rfl
theorem lx_0 {x : Lx} {r : List Lx} : lx (x :: r) 0 = x := rfl
theorem hxm_get : ∀ (H : List Lx) (j : Nat), j < H.length → (hxm H).getD j (0, 0) = ((lx H j).1, (lx H (j + 1)).2.1 - 99 * 32) := by
  intro H
  induction H with
  | nil => intro j hj; exact absurd hj (Nat.not_lt_zero _)
  | cons x r ih =>
    intro j hj
    cases j with
    | zero => rfl
    | succ j => exact ih j (Nat.lt_of_succ_lt_succ hj)
theorem lx_a1 {A B : List Lx} {j : Nat} (hj : j < A.length) : lx (A ++ B) j = lx A j := getD_app1 hj
theorem lx_a2 {A B : List Lx} {j : Nat} : lx (A ++ B) (A.length + j) = lx B j := getD_app2
theorem PRS.app {A B : List Lx} (h1 : PRS n A) (h2 : PRS n B) : PRS n (A ++ B) := by
  intro j hj hk
  rw [List.length_append] at hj ⊢
  by_cases z : j < A.length
  · rw [lx_a1 z] at hk
    obtain ⟨a1, o, a2, a3⟩ := h1 j z hk
    exact ⟨by omega, o, a2, by rw [lx_a1 a1, a3]⟩
  · obtain ⟨i, rfl⟩ : ∃ i, j = A.length + i := ⟨j - A.length, by omega⟩
    rw [lx_a2] at hk
    obtain ⟨a1, o, a2, a3⟩ := h2 i (by omega) hk
    exact ⟨by omega, o, a2, by rw [Nat.add_assoc, lx_a2, a3]⟩
theorem PRS.no {A : List Lx} (h : ∀ x ∈ A, ¬ (x.1 = 5 ∨ x.1 = 6 ∨ x.1 = 7)) : PRS n A := by
  intro j hj hk
  refine absurd hk (h _ ?_)
  unfold lx
  rw [List.getD_eq_getElem?_getD, List.getElem?_eq_getElem hj]
  exact List.getElem_mem _
theorem lks_cons {t o : Nat} {l : List Nat} : lks t (o :: l) = (t, 0, 1) :: (38, 99 * 32 + o, 1) :: lks t l := rfl
theorem PRS.lkt {t : Nat} : ∀ (l : List Nat), (∀ o ∈ l, o < n) → PRS n (lks t l) := by
  intro l
  induction l with
  | nil => intro _ j hj; exact absurd hj (Nat.not_lt_zero _)
  | cons o l ih =>
    intro h
    have e : lks t (o :: l) = [(t, 0, 1), (38, 99 * 32 + o, 1)] ++ lks t l := rfl
    rw [e]
    refine PRS.app ?_ (ih (fun x hx => h x (List.mem_cons_of_mem _ hx)))
    intro j hj hk
    have : j = 0 ∨ j = 1 := by have : j < 2 := hj; omega
    rcases this with rfl | rfl
    · exact ⟨by show 1 < 2; decide, o, h o List.mem_cons_self, rfl⟩
    · have hk : (38 : Nat) = 5 ∨ 38 = 6 ∨ 38 = 7 := hk
      omega
theorem PRS.chd (ok : okD n f c D) : PRS n (chead D) := by
  obtain ⟨-, -, -, -, -, -, -, -, hN, hB, hA⟩ := ok
  unfold chead clk
  refine PRS.app (PRS.no ?_) (PRS.app (PRS.no ?_) (PRS.app (PRS.lkt _ (fun o ho => (hN o ho).1)) (PRS.app (PRS.lkt _ (fun o ho => (hB o ho).1)) (PRS.lkt _ (fun o ho => (hA o ho).1)))))
  · unfold cwh
    cases Nat.beq (cl_t D) 0 with
    | true => exact fun x hx => absurd hx List.not_mem_nil
    | false =>
      intro x hx
      have hx : x ∈ [((3, 0, 1) : Lx), (38, 102 * 32 + (cl_t D - 1), 1), (34, 0, 1), (39, cl_h D, 1)] := hx
      simp only [List.mem_cons, List.not_mem_nil, or_false] at hx
      rcases hx with rfl | rfl | rfl | rfl <;> simp
  · unfold cop
    cases Nat.beq (cl_o D) 0 with
    | true => exact fun x hx => absurd hx List.not_mem_nil
    | false =>
      intro x hx
      have hx : x ∈ [((4, 0, 1) : Lx), (39, cl_g D, 1), (39, cl_b D, 1)] := hx
      simp only [List.mem_cons, List.not_mem_nil, or_false] at hx
      rcases hx with rfl | rfl | rfl <;> simp
theorem lkc_skip {x : Lx} {r : List Lx} (h : x.1 ≠ lk) : lkc ord c k lk (hxm (x :: r)) = lkc ord c k lk (hxm r) := by
  show (if x.1 = lk ∧ cfl k (plI ord c) (plI ord ((lx r 0).2.1 - 99 * 32)) = true then [k] else []) ++ lkc ord c k lk (hxm r) = _
  rw [if_neg (fun q => h q.1)]; rfl
theorem lkc_lks {t : Nat} {R : List Lx} (ht : t ≠ 38) (hk : lk ≠ 38) : ∀ (l : List Nat), (lkc ord c k lk (hxm (lks t l ++ R))).length = (if t = lk then sumN (fun o => if cfl k (plI ord c) (plI ord o) = true then 1 else 0) l else 0) + (lkc ord c k lk (hxm R)).length := by
  intro l
  induction l with
  | nil => show _ = (if t = lk then 0 else 0) + _; split <;> rw [Nat.zero_add] <;> rfl
  | cons o l ih =>
    have e : lks t (o :: l) ++ R = (t, 0, 1) :: (38, 99 * 32 + o, 1) :: (lks t l ++ R) := rfl
    have s1 : lkc ord c k lk (hxm ((t, 0, 1) :: (38, 99 * 32 + o, 1) :: (lks t l ++ R))) = (if t = lk ∧ cfl k (plI ord c) (plI ord (99 * 32 + o - 99 * 32)) = true then [k] else []) ++ lkc ord c k lk (hxm ((38, 99 * 32 + o, 1) :: (lks t l ++ R))) := rfl
    have s2 : lkc ord c k lk (hxm ((38, 99 * 32 + o, 1) :: (lks t l ++ R))) = lkc ord c k lk (hxm (lks t l ++ R)) := lkc_skip (x := (38, 99 * 32 + o, 1)) (fun q => hk q.symm)
    rw [e, s1, s2, List.length_append, ih, Nat.add_sub_cancel_left]
    by_cases z : t = lk
    · rw [if_pos z, if_pos z]
      show _ = ((if cfl k (plI ord c) (plI ord o) = true then 1 else 0) + sumN _ l) + _
      by_cases y : cfl k (plI ord c) (plI ord o) = true
      · rw [if_pos ⟨z, y⟩, if_pos y]
        show 1 + _ = _
        omega
      · rw [if_neg (fun q => y q.2), if_neg y]
        show 0 + _ = _
        omega
    · rw [if_neg (fun q => z q.1), if_neg z, if_neg z]
      show 0 + _ = _
      omega
theorem lkc_head (h3 : lk = 5 ∨ lk = 6 ∨ lk = 7) : (lkc ord c k lk (hxm (chead D))).length = (if 5 = lk then sumN (fun o => if cfl k (plI ord c) (plI ord o) = true then 1 else 0) (cl_N D) else 0) + ((if 6 = lk then sumN (fun o => if cfl k (plI ord c) (plI ord o) = true then 1 else 0) (cl_B D) else 0) + (if 7 = lk then sumN (fun o => if cfl k (plI ord c) (plI ord o) = true then 1 else 0) (cl_A D) else 0)) := by
  have n38 : lk ≠ 38 := by omega
  have s1 : ∀ R : List Lx, lkc ord c k lk (hxm (cwh D ++ R)) = lkc ord c k lk (hxm R) := fun R => by
    unfold cwh
    cases Nat.beq (cl_t D) 0 with
    | true => rfl
    | false =>
      show lkc ord c k lk (hxm ((3, 0, 1) :: (38, 102 * 32 + (cl_t D - 1), 1) :: (34, 0, 1) :: (39, cl_h D, 1) :: R)) = _
      rw [lkc_skip (by show 3 ≠ lk; omega), lkc_skip (by show 38 ≠ lk; omega), lkc_skip (by show 34 ≠ lk; omega), lkc_skip (by show 39 ≠ lk; omega)]
  have s2 : ∀ R : List Lx, lkc ord c k lk (hxm (cop D ++ R)) = lkc ord c k lk (hxm R) := fun R => by
    unfold cop
    cases Nat.beq (cl_o D) 0 with
    | true => rfl
    | false =>
      show lkc ord c k lk (hxm ((4, 0, 1) :: (39, cl_g D, 1) :: (39, cl_b D, 1) :: R)) = _
      rw [lkc_skip (by show 4 ≠ lk; omega), lkc_skip (by show 39 ≠ lk; omega), lkc_skip (by show 39 ≠ lk; omega)]
  unfold chead clk
  rw [s1, s2, lkc_lks (by decide) n38, lkc_lks (by decide) n38]
  have e := lkc_lks (ord := ord) (c := c) (k := k) (lk := lk) (t := 7) (R := []) (by decide) n38 (cl_A D)
  rw [List.append_nil] at e
  rw [e]
  show _ + (_ + (_ + 0)) = _
  rw [Nat.add_zero]
theorem cK_lkc {j : Nat} (H : List (Nat × Nat)) : cK j (lkc ord c k lk H) = if k = j then (lkc ord c k lk H).length else 0 := by
  by_cases z : k = j
  · rw [if_pos z]; exact cK_yes (fun x hx => (lkc_all H x hx).trans z)
  · rw [if_neg z]; exact cK_no (fun x hx => by rw [lkc_all H x hx]; exact z)
theorem cK_lnk1 : cK 1 (lnk ord c (hxm (chead D))) = sumN (fun o => if cfl 1 (plI ord c) (plI ord o) = true then 1 else 0) (cl_B D) := by
  unfold lnk
  rw [cK_app, cK_app, cK_lkc, cK_lkc, cK_lkc, if_pos rfl, if_neg (by decide), if_neg (by decide), lkc_head (by decide), if_neg (by decide), if_pos rfl, if_neg (by decide)]
  omega
theorem cK_lnk2 : cK 2 (lnk ord c (hxm (chead D))) = sumN (fun o => if cfl 2 (plI ord c) (plI ord o) = true then 1 else 0) (cl_N D) := by
  unfold lnk
  rw [cK_app, cK_app, cK_lkc, cK_lkc, cK_lkc, if_neg (by decide), if_pos rfl, if_neg (by decide), lkc_head (by decide), if_pos rfl, if_neg (by decide), if_neg (by decide)]
  omega
theorem cK_lnk3 : cK 3 (lnk ord c (hxm (chead D))) = sumN (fun o => if cfl 3 (plI ord c) (plI ord o) = true then 1 else 0) (cl_A D) := by
  unfold lnk
  rw [cK_app, cK_app, cK_lkc, cK_lkc, cK_lkc, if_neg (by decide), if_neg (by decide), if_pos rfl, lkc_head (by decide), if_neg (by decide), if_neg (by decide), if_pos rfl]
  omega
/-! sums -/
theorem sumN_congr {G : Nat → Nat} : ∀ {l : List Nat}, (∀ o ∈ l, F o = G o) → sumN F l = sumN G l := by
  intro l
  induction l with
  | nil => intro _; rfl
  | cons a r ih =>
    intro h
    show F a + sumN F r = G a + sumN G r
    rw [h a List.mem_cons_self, ih (fun x hx => h x (List.mem_cons_of_mem _ hx))]
theorem sumN_le {b : Nat} : ∀ {l : List Nat}, (∀ o ∈ l, F o ≤ b) → sumN F l ≤ b * l.length := by
  intro l
  induction l with
  | nil => intro _; exact Nat.zero_le _
  | cons a r ih =>
    intro h
    have h1 := h a List.mem_cons_self
    have h2 := ih (fun x hx => h x (List.mem_cons_of_mem _ hx))
    show F a + sumN F r ≤ b * (r.length + 1)
    rw [Nat.mul_succ]
    omega
theorem sumN_0 : ∀ {l : List Nat}, sumN F l = 0 ↔ ∀ o ∈ l, F o = 0 := by
  intro l
  induction l with
  | nil => exact ⟨fun _ o ho => absurd ho List.not_mem_nil, fun _ => rfl⟩
  | cons a r ih =>
    show F a + sumN F r = 0 ↔ _
    constructor
    · intro h o ho
      rcases List.mem_cons.mp ho with q | q
      · rw [q]; omega
      · exact ih.mp (by omega) o q
    · intro h
      have h1 := h a List.mem_cons_self
      have h2 := ih.mpr (fun x hx => h x (List.mem_cons_of_mem _ hx))
      omega
theorem bnN_congr {G : Nat → Nat} : ∀ {k : Nat}, (∀ i, i < k → F i = G i) → bnN F m k = bnN G m k := by
  intro k
  induction k with
  | zero => intro _; rfl
  | succ k ih =>
    intro h
    unfold bnN
    rw [ih (fun i hi => h i (by omega)), h k (by omega)]
theorem bnN_le : ∀ {k : Nat}, (∀ i, i < k → F i ≤ b) → bnN F m k ≤ b * k := by
  intro k
  induction k with
  | zero => intro _; exact Nat.zero_le _
  | succ k ih =>
    intro h
    have h1 := h k (by omega)
    have h2 := ih (fun i hi => h i (by omega))
    unfold bnN
    rw [Nat.mul_succ]
    split <;> omega
theorem bnN_0 : ∀ {k : Nat}, bnN F m k = 0 ↔ ∀ i, i < k → m.testBit i = true → F i = 0 := by
  intro k
  induction k with
  | zero => exact ⟨fun _ i hi => absurd hi (Nat.not_lt_zero _), fun _ => rfl⟩
  | succ k ih =>
    unfold bnN
    constructor
    · intro h i hi hb
      by_cases z : i = k
      · rw [z] at hb ⊢
        rw [if_pos hb] at h
        omega
      · exact ih.mp (by omega) i (by omega) hb
    · intro h
      have h2 := ih.mpr (fun i hi => h i (by omega))
      rw [h2]
      split
      · rename_i z; rw [h k (by omega) z]
      · rfl
theorem bnN_I : ∀ (k : Nat), bsum (fun c => Int32.ofNat (F c)) m k = Int32.ofNat (bnN F m k) := by
  intro k
  induction k with
  | zero => rfl
  | succ k ih =>
    unfold bsum bnN
    rw [ih]
    split
    · rw [i_add]
    · rw [Int32.add_zero, Nat.add_zero]
theorem bsum_congr {F G : Nat → Int32} : ∀ {k : Nat}, (∀ i, i < k → m.testBit i = true → F i = G i) → bsum F m k = bsum G m k := by
  intro k
  induction k with
  | zero => intro _; rfl
  | succ k ih =>
    intro h
    unfold bsum
    rw [ih (fun i hi => h i (by omega))]
    split
    · rename_i z; rw [h k (by omega) z]
    · rfl
theorem sumI_congr2 {F G : Nat → Int32} : ∀ {l : List Nat}, (∀ x ∈ l, F x = G x) → sumI F l = sumI G l := by
  intro l
  induction l with
  | nil => intro _; rfl
  | cons a r ih =>
    intro h
    show F a + sumI F r = G a + sumI G r
    rw [h a List.mem_cons_self, ih (fun x hx => h x (List.mem_cons_of_mem _ hx))]
theorem sumI_len : ∀ (l : List Nat), sumI (fun _ => (1 : Int32)) l = Int32.ofNat l.length := by
  intro l
  induction l with
  | nil => rfl
  | cons a r ih =>
    show (1 : Int32) + sumI (fun _ => (1 : Int32)) r = Int32.ofNat (r.length + 1)
    rw [ih, Int32.add_comm, i_inc]
/-! masks -/
theorem msk_f (l : List Nat) : ∀ (a i : Nat), (l.foldl (fun a o => a ||| 2 ^ o) a).testBit i = (a.testBit i || decide (i ∈ l)) := by
  induction l with
  | nil => intro a i; simp
  | cons o l ih =>
    intro a i
    show (l.foldl (fun a o => a ||| 2 ^ o) (a ||| 2 ^ o)).testBit i = _
    rw [ih, Nat.testBit_or, Nat.testBit_two_pow, Bool.or_assoc]
    congr 1
    by_cases z : o = i
    · have hm : i ∈ o :: l := by rw [z]; exact List.mem_cons_self
      rw [decide_eq_true z, Bool.true_or, decide_eq_true hm]
    · rw [decide_eq_false z, Bool.false_or]
      exact decide_eq_decide.mpr ⟨fun q => List.mem_cons_of_mem _ q, fun q => by rcases List.mem_cons.mp q with q | q; exact absurd q.symm z; exact q⟩
theorem msk_bit (l : List Nat) (i : Nat) : (msk l).testBit i = decide (i ∈ l) := by
  unfold msk
  rw [msk_f, Nat.zero_testBit, Bool.false_or]
theorem msk_lt (h : ∀ o ∈ l, o < n) : msk l < 2 ^ n := by
  apply Nat.lt_pow_two_of_testBit
  intro i hi
  rw [msk_bit]
  exact decide_eq_false (fun q => by have := h i q; omega)
/-- nothing of a row is in -/
theorem msk_and : msk l &&& m = 0 ↔ ∀ o ∈ l, m.testBit o = false := by
  constructor
  · intro h o ho
    have := congrArg (fun x => x.testBit o) h
    have this : (msk l &&& m).testBit o = (0 : Nat).testBit o := this
    rw [Nat.testBit_and, msk_bit, decide_eq_true ho, Bool.true_and, Nat.zero_testBit] at this
    exact this
  · intro h
    apply Nat.eq_of_testBit_eq
    intro i
    rw [Nat.testBit_and, msk_bit, Nat.zero_testBit]
    by_cases z : i ∈ l
    · rw [h i z, Bool.and_false]
    · rw [decide_eq_false z, Bool.false_and]
theorem msk_sub : Sub (msk l) m ↔ ∀ o ∈ l, m.testBit o = true := by
  constructor
  · intro h o ho
    exact h o (by rw [msk_bit]; exact decide_eq_true ho)
  · intro h i hi
    rw [msk_bit] at hi
    exact h i (of_decide_eq_true hi)
/-- a clause's number, and whether it is in -/
theorem plc_bit {af : Nat → Nat} (hn : n ≤ 7) (hm : m < 2 ^ n) (o : Nat) : (plc (arr af 16 m) o = 0 ↔ m.testBit o = false) ∧ plc (arr af 16 m) o ≤ 7 ∧ (arr af 16 m).length ≤ 7 := by
  have hl : (arr af 16 m).length ≤ 7 := Nat.le_trans (arr_len hn 16 m hm) pop_le7
  by_cases z : m.testBit o = true
  · have hmem := arr_all (af := af) hn 16 m hm (by have := pop_le7 (m := m); omega) o z
    obtain ⟨p1, p2, -⟩ := plc_mem hmem
    refine ⟨⟨fun q => by omega, fun q => by rw [z] at q; exact absurd q (by decide)⟩, by omega, hl⟩
  · have hno : o ∉ arr af 16 m := fun q => z (arr_mem hn 16 m hm o q)
    rw [plc_not hno]
    exact ⟨⟨fun _ => Bool.eq_false_iff.mpr z, fun _ => rfl⟩, by omega, hl⟩
theorem cfl1 {af : Nat → Nat} (hn : n ≤ 7) (hm : m < 2 ^ n) (x o : Nat) : (if cfl 1 (plI (arr af 16 m) x) (plI (arr af 16 m) o) = true then 1 else 0) = if m.testBit o = true then 1 else 0 := by
  obtain ⟨p1, p2, -⟩ := plc_bit (af := af) hn hm o
  have h31 : plc (arr af 16 m) o < 2147483648 := by omega
  have e : (0 < plI (arr af 16 m) o) = (0 < plc (arr af 16 m) o) := i_lt (by decide) h31
  unfold cfl
  rw [if_pos rfl]
  by_cases z : m.testBit o = true
  · rw [if_pos z, if_pos (decide_eq_true (by rw [e]; rcases Nat.eq_zero_or_pos (plc (arr af 16 m) o) with q | q; rw [p1.mp q] at z; exact absurd z (by decide); exact q))]
  · rw [if_neg z, if_neg (fun q => by have q := of_decide_eq_true q; rw [e] at q; have := p1.mpr (Bool.eq_false_iff.mpr z); omega)]
theorem cfl2 {af : Nat → Nat} (hn : n ≤ 7) (hm : m < 2 ^ n) (x o : Nat) : (if cfl 2 (plI (arr af 16 m) x) (plI (arr af 16 m) o) = true then 1 else 0) = if m.testBit o = true then 0 else 1 := by
  obtain ⟨p1, p2, -⟩ := plc_bit (af := af) hn hm o
  have h31 : plc (arr af 16 m) o < 2147483648 := by omega
  have e : (plI (arr af 16 m) o = 0) = (plc (arr af 16 m) o = 0) := i_eq h31 (by decide)
  unfold cfl
  rw [if_neg (show ¬ (2 : Nat) = 1 by decide), if_pos (show (2 : Nat) = 2 from rfl)]
  by_cases z : m.testBit o = true
  · rw [if_pos z, if_neg (fun q => by have q := of_decide_eq_true q; rw [e] at q; rw [p1.mp q] at z; exact absurd z (by decide))]
  · rw [if_neg z, if_pos (decide_eq_true (by rw [e]; exact p1.mpr (Bool.eq_false_iff.mpr z)))]
theorem cfl3 {af : Nat → Nat} (x o : Nat) : (if cfl 3 (plI (arr af 16 m) x) (plI (arr af 16 m) o) = true then 1 else 0) = if plI (arr af 16 m) x < plI (arr af 16 m) o then 1 else 0 := by
  unfold cfl
  rw [if_neg (show ¬ (3 : Nat) = 1 by decide), if_neg (show ¬ (3 : Nat) = 2 by decide)]
  by_cases z : plI (arr af 16 m) x < plI (arr af 16 m) o
  · rw [if_pos z, if_pos (decide_eq_true z)]
  · rw [if_neg z, if_neg (fun q => z (of_decide_eq_true q))]
/-- a row of clauses, each of which is some c's own -/
theorem isCs_ok : ∀ (Ds : List CLD) (i : Nat) (X : List Lx), isCs n f i Ds X → ∀ c, c < Ds.length → okD n f (i + c) (Ds.getD c D0) := by
  intro Ds
  induction Ds with
  | nil => intro i X _ c hc; exact absurd hc (Nat.not_lt_zero _)
  | cons D r ih =>
    intro i X h c hc
    obtain ⟨Y, Z, -, h1, h2⟩ := h
    cases c with
    | zero => exact h1.1
    | succ c =>
      have := ih (i + 1) Z h2 c (Nat.lt_of_succ_lt_succ hc)
      rw [show i + 1 + c = i + (c + 1) from by omega] at this
      exact this
end HEADS
