/-! Sets of clauses as numbers; the clauses' names in their order; all names. -/
def msk (l : List Nat) : Nat := l.foldl (fun a o => a ||| 2 ^ o) 0
def mkD (base : Nat → Nat × Nat × Nat) (Ds : List CLD) : Nat → Nat × Nat × Nat := fun j => if j < Ds.length then (msk (cl_N (Ds.getD j D0)), msk (cl_B (Ds.getD j D0)), msk (cl_A (Ds.getD j D0))) else base j
theorem lkf_ne {c j : Nat} (hj : j ≠ c) : ∀ (l : List (Nat × Nat)) (mk : Nat → Nat × Nat × Nat), lkf mk c l j = mk j
  | [], _ => rfl
  | x :: l, mq => by
    show lkf (lkm mq c x.1 x.2) c l j = mq j
    rw [lkf_ne hj l]
    unfold lkm
    rw [if_neg hj]
theorem lkf_eq {c : Nat} : ∀ (l : List (Nat × Nat)) (mk : Nat → Nat × Nat × Nat), lkf mk c l c = (l.foldl (fun a x => a ||| (if x.1 = 5 then 2 ^ x.2 else 0)) (mk c).1, l.foldl (fun a x => a ||| (if x.1 = 6 then 2 ^ x.2 else 0)) (mk c).2.1, l.foldl (fun a x => a ||| (if x.1 = 7 then 2 ^ x.2 else 0)) (mk c).2.2)
  | [], _ => rfl
  | x :: l, mq => by
    show lkf (lkm mq c x.1 x.2) c l c = _
    rw [lkf_eq l]
    unfold lkm
    rw [if_pos rfl]
    rfl
theorem fold_same {t u : Nat} : ∀ (l : List Nat) (a : Nat), (l.map (fun o => (t, o))).foldl (fun a (x : Nat × Nat) => a ||| (if x.1 = u then 2 ^ x.2 else 0)) a = if t = u then l.foldl (fun a o => a ||| 2 ^ o) a else a
  | [], a => by
    by_cases h : t = u
    · rw [if_pos h]; rfl
    · rw [if_neg h]; rfl
  | o :: l, a => by
    show (l.map (fun o => (t, o))).foldl (fun a (x : Nat × Nat) => a ||| (if x.1 = u then 2 ^ x.2 else 0)) (a ||| (if t = u then 2 ^ o else 0)) = _
    rw [fold_same l]
    by_cases h : t = u
    · rw [if_pos h, if_pos h, if_pos h]; rfl
    · rw [if_neg h, if_neg h, if_neg h, Nat.or_zero]
theorem mkD_snoc {base : Nat → Nat × Nat × Nat} {Ds : List CLD} {D : CLD} (hb : base Ds.length = (0, 0, 0)) : lkf (mkD base Ds) Ds.length (cll D) = mkD base (Ds ++ [D]) := by
  funext j
  have hl : (Ds ++ [D]).length = Ds.length + 1 := by rw [List.length_append]; rfl
  by_cases hj : j = Ds.length
  · subst hj
    have g : (Ds ++ [D]).getD Ds.length D0 = D := by
      have := getD_app2 (l := Ds) (r := [D]) (d := D0) (j := 0)
      rw [Nat.add_zero] at this
      rw [this]; rfl
    rw [lkf_eq]
    unfold mkD
    rw [if_neg (by omega), hb, if_pos (by omega), g]
    unfold cll
    rw [List.foldl_append, List.foldl_append, List.foldl_append, List.foldl_append, List.foldl_append, List.foldl_append]
    simp only [fold_same]
    rfl
  · rw [lkf_ne hj]
    unfold mkD
    by_cases h2 : j < Ds.length
    · rw [if_pos h2, if_pos (by omega), getD_app1 h2]
    · rw [if_neg h2, if_neg (by omega)]
/-- the optional clauses, as a number -/
def OMx (Ds : List CLD) (om : Nat) : Prop := om < 2 ^ Ds.length ∧ ∀ j, j < Ds.length → om.testBit j = decide (cl_o (Ds.getD j D0) = 1)
theorem OMx.snoc {Ds : List CLD} {D : CLD} {om : Nat} (M : OMx Ds om) (h : cl_o D ≤ 1) : OMx (Ds ++ [D]) (om + cl_o D * 2 ^ Ds.length) := by
  obtain ⟨m1, m2⟩ := M
  have hl : (Ds ++ [D]).length = Ds.length + 1 := by rw [List.length_append]; rfl
  have g : (Ds ++ [D]).getD Ds.length D0 = D := by
    have := getD_app2 (l := Ds) (r := [D]) (d := D0) (j := 0)
    rw [Nat.add_zero] at this
    rw [this]; rfl
  have p : 2 ^ (Ds.length + 1) = 2 ^ Ds.length + 2 ^ Ds.length := by rw [Nat.pow_succ]; omega
  have h2 : cl_o D = 0 ∨ cl_o D = 1 := by omega
  unfold OMx
  rw [hl, p]
  rcases h2 with e | e
  · rw [e, Nat.zero_mul, Nat.add_zero]
    refine ⟨by omega, fun j hj => ?_⟩
    by_cases hz : j < Ds.length
    · rw [getD_app1 hz]; exact m2 j hz
    · obtain rfl : j = Ds.length := by omega
      rw [g, e, Nat.testBit_lt_two_pow m1]; rfl
  · rw [e, Nat.one_mul, Nat.add_comm om]
    refine ⟨by omega, fun j hj => ?_⟩
    by_cases hz : j < Ds.length
    · rw [getD_app1 hz, Nat.testBit_two_pow_add_gt hz]; exact m2 j hz
    · obtain rfl : j = Ds.length := by omega
      rw [g, e, Nat.testBit_two_pow_add_eq, Nat.testBit_lt_two_pow m1]; rfl
/-- how many clauses begin in a row -/
def cnt (Y : List Lx) : Nat := (Y.filter (fun x => Nat.beq x.1 2)).length
theorem cnt_app (Y Z : List Lx) : cnt (Y ++ Z) = cnt Y + cnt Z := by unfold cnt; rw [List.filter_append, List.length_append]
def no2 (Y : List Lx) : Prop := ∀ x ∈ Y, x.1 ≠ 2
theorem no2.cnt {Y : List Lx} (h : no2 Y) : cnt Y = 0 := by
  show (Y.filter (fun x => Nat.beq x.1 2)).length = 0
  rw [List.length_eq_zero_iff, List.filter_eq_nil_iff]
  intro x hx
  rw [beq_no (h x hx)]
  decide
theorem no2.app {Y Z : List Lx} (a : no2 Y) (b : no2 Z) : no2 (Y ++ Z) := fun x hx => (List.mem_append.mp hx).elim (a x) (b x)
theorem no2.cons {x : Lx} {Y : List Lx} (a : x.1 ≠ 2) (b : no2 Y) : no2 (x :: Y) := fun y hy => (List.mem_cons.mp hy).elim (fun e => by rw [e]; exact a) (b y)
theorem no2.nil : no2 [] := fun x hx => absurd hx List.not_mem_nil
def NMk (k : Nat) (Z : List Lx) : Prop := ∀ i, i < Z.length → (lx Z i).1 = 2 → i + 1 < Z.length ∧ isN (lx Z (i + 1)) 99 (k + cn Z i)
theorem lx_mem {Y : List Lx} {i : Nat} (hi : i < Y.length) : lx Y i ∈ Y := by
  unfold lx
  rw [List.getD_eq_getElem?_getD, List.getElem?_eq_getElem hi]
  exact List.getElem_mem hi
theorem NMk.none {k : Nat} {Y : List Lx} (h : no2 Y) : NMk k Y := fun i hi e => absurd e (h _ (lx_mem hi))
theorem NMk.app {k : Nat} {Y Z : List Lx} (A : NMk k Y) (B : NMk (k + cnt Y) Z) : NMk k (Y ++ Z) := by
  intro i hi e
  rw [List.length_append] at hi
  by_cases hz : i < Y.length
  · have e1 : lx (Y ++ Z) i = lx Y i := by unfold lx; rw [getD_app1 hz]
    rw [e1] at e
    obtain ⟨a1, a2⟩ := A i hz e
    have e2 : lx (Y ++ Z) (i + 1) = lx Y (i + 1) := by unfold lx; rw [getD_app1 a1]
    have e3 : cn (Y ++ Z) i = cn Y i := by unfold cn; rw [List.take_append_of_le_length (by omega)]
    rw [e2, e3, List.length_append]
    exact ⟨by omega, a2⟩
  · obtain ⟨j, rfl⟩ : ∃ j, i = Y.length + j := ⟨i - Y.length, by omega⟩
    have e1 : lx (Y ++ Z) (Y.length + j) = lx Z j := by unfold lx; rw [getD_app2]
    rw [e1] at e
    obtain ⟨a1, a2⟩ := B j (by omega) e
    have e2 : lx (Y ++ Z) (Y.length + j + 1) = lx Z (j + 1) := by unfold lx; rw [Nat.add_assoc, getD_app2]
    have e3 : cn (Y ++ Z) (Y.length + j) = cnt Y + cn Z j := by
      unfold cn cnt
      rw [List.take_length_add_append, List.filter_append, List.length_append]
    rw [e2, e3, List.length_append, ← Nat.add_assoc]
    exact ⟨by omega, a2⟩
section NO2
variable {n f c : Nat}
theorem no2.I1 {Y : List Lx} (h : isI1 n f c Y) : no2 Y := by
  rcases h with ⟨m, hm, e⟩ | ⟨k, hk, hc, e⟩ | ⟨t, k, ht, hk, e⟩ | ⟨q, m, hq, hm, e⟩
  · rw [e]; exact no2.cons (by show 40 ≠ 2; decide) no2.nil
  · rw [e]; exact no2.cons (by show 8 ≠ 2; decide) (no2.cons (by show 38 ≠ 2; decide) no2.nil)
  · rw [e]; exact no2.cons (by show t ≠ 2; omega) (no2.cons (by show 38 ≠ 2; decide) no2.nil)
  · rw [e]; exact no2.cons (by show 11 ≠ 2; decide) (no2.cons (by show 38 ≠ 2; decide) (no2.cons (by show 31 ≠ 2; decide) (no2.cons (by show 39 ≠ 2; decide) (no2.cons (by show 30 ≠ 2; decide) (no2.cons (by show 39 ≠ 2; decide) (no2.cons (by show 27 ≠ 2; decide) no2.nil))))))
theorem no2.cat1 {P : List Lx → Prop} (hP : ∀ Y, P Y → no2 Y) : ∀ (k : Nat) (Z : List Lx), cat P k Z → no2 Z
  | 0, Z, c => by
    have : Z = [] := c
    rw [this]; exact no2.nil
  | k + 1, Z, c => by
    rcases c with c | ⟨Y, W, e, p, c⟩
    · rw [c]; exact no2.nil
    · rw [e]; exact no2.app (hP Y p) (no2.cat1 hP k W c)
theorem no2.bl {P : List Lx → Prop} {k : Nat} {Y : List Lx} (hP : ∀ Y, P Y → no2 Y) (b : isB P k Y) : no2 Y := by
  obtain ⟨Z, z, e⟩ := b
  rw [e]
  exact no2.cons (by show 21 ≠ 2; decide) (no2.app (no2.cat1 hP k Z z) (no2.cons (by show 22 ≠ 2; decide) no2.nil))
theorem no2.I0 {Y : List Lx} (h : isI0 n f c Y) : no2 Y := by
  rcases h with h | ⟨q, m, B1, B2, hq, hm, b1, b2, e⟩ | ⟨B1, B2, b1, b2, e⟩
  · exact no2.I1 h
  · have c1 := no2.bl (fun _ => no2.I1) b1
    have c2 := no2.bl (fun _ => no2.I1) b2
    rw [e]
    refine no2.app ?_ (no2.app c1 (no2.cons (by show 13 ≠ 2; decide) c2))
    exact no2.cons (by show 12 ≠ 2; decide) (no2.cons (by show 38 ≠ 2; decide) (no2.cons (by show 34 ≠ 2; decide) (no2.cons (by show 39 ≠ 2; decide) no2.nil)))
  · have c1 := no2.bl (fun _ => no2.I1) b1
    have c2 := no2.bl (fun _ => no2.I1) b2
    rw [e]
    refine no2.app (no2.cons (by show 14 ≠ 2; decide) (no2.cons (by show 21 ≠ 2; decide) (no2.cons (by show 15 ≠ 2; decide) no2.nil))) (no2.app c1 (no2.cons (by show 15 ≠ 2; decide) (no2.app c2 (no2.cons (by show 22 ≠ 2; decide) no2.nil))))
theorem no2.lk : ∀ l : List (Nat × Nat), (∀ x ∈ l, x.1 = 5 ∨ x.1 = 6 ∨ x.1 = 7) → no2 (lkp l)
  | [], _ => no2.nil
  | x :: l, h => by
    have := h x List.mem_cons_self
    exact no2.app (Y := [(x.1, 0, 1), (38, 99 * 32 + x.2, 1)]) (no2.cons (by show x.1 ≠ 2; omega) (no2.cons (by show 38 ≠ 2; decide) no2.nil)) (no2.lk l (fun y hy => h y (List.mem_cons_of_mem _ hy)))
theorem no2.hd (D : CLD) : no2 (chead D) := by
  unfold chead
  rw [clk_lkp]
  refine no2.app ?_ (no2.app ?_ (no2.lk _ (cll_ok D)))
  · unfold cwh
    cases Nat.beq (cl_t D) 0
    · exact no2.cons (by show 3 ≠ 2; decide) (no2.cons (by show 38 ≠ 2; decide) (no2.cons (by show 34 ≠ 2; decide) (no2.cons (by show 39 ≠ 2; decide) no2.nil)))
    · exact no2.nil
  · unfold cop
    cases Nat.beq (cl_o D) 0
    · exact no2.cons (by show 4 ≠ 2; decide) (no2.cons (by show 39 ≠ 2; decide) (no2.cons (by show 39 ≠ 2; decide) no2.nil))
    · exact no2.nil
theorem NMk.clause {Y : List Lx} {D : CLD} (hn : n ≤ 7) (hc : c < n) (h : isC n f c D Y) : NMk c Y ∧ cnt Y = 1 := by
  obtain ⟨ok, B, b, e⟩ := h
  have e2 : Y = (2, 0, 1) :: (38, 99 * 32 + c, 1) :: (chead D ++ B) := by rw [e]; rfl
  have nr : no2 (chead D ++ B) := no2.app (no2.hd D) (no2.bl (fun _ => no2.I0) b)
  rw [e2]
  refine ⟨fun i hi z => ?_, ?_⟩
  · cases i with
    | zero => exact ⟨by simp only [List.length_cons]; omega, rfl, by show 99 * 32 + c = 99 * 32 + (c + 0); omega, by show c + 0 < 26; omega, by decide⟩
    | succ i =>
      cases i with
      | zero => exact absurd z (by show 38 ≠ 2; decide)
      | succ i =>
        simp only [List.length_cons] at hi
        exact absurd z (nr _ (lx_mem (Y := chead D ++ B) (by omega)))
  · have := nr.cnt
    unfold cnt at this ⊢
    show ((2, 0, 1) :: List.filter (fun x => Nat.beq x.1 2) (chead D ++ B)).length = 1
    rw [List.length_cons, this]
theorem NMk.clauses (hn : n ≤ 7) : ∀ (Ds : List CLD) (c : Nat) (Z : List Lx), c + Ds.length ≤ n → isCs n f c Ds Z → NMk c Z ∧ cnt Z = Ds.length
  | [], c, Z, _, h => by
    have : Z = [] := h
    rw [this]
    exact ⟨NMk.none no2.nil, rfl⟩
  | D :: r, c, Z, hl, h => by
    obtain ⟨Y, W, e, hY, hW⟩ := h
    simp only [List.length_cons] at hl
    obtain ⟨a1, a2⟩ := NMk.clause hn (by omega) hY
    obtain ⟨b1, b2⟩ := NMk.clauses hn r (c + 1) W (by omega) hW
    rw [e]
    refine ⟨NMk.app a1 (by rw [a2]; exact b1), ?_⟩
    rw [cnt_app, a2, b2, List.length_cons]; omega
theorem no2.fcts : ∀ (vs : List Nat) (k : Nat), no2 (fcts k vs)
  | [], _ => no2.nil
  | v :: r, k => no2.app (Y := fct k v) (no2.cons (by show 1 ≠ 2; decide) (no2.cons (by show 38 ≠ 2; decide) (no2.cons (by show 35 ≠ 2; decide) (no2.cons (by show 39 ≠ 2; decide) (no2.cons (by show 27 ≠ 2; decide) no2.nil))))) (no2.fcts r (k + 1))
theorem NMC.of {Ds : List CLD} {vs : List Nat} {Z X : List Lx} (hn : n ≤ 7) (hD : Ds.length = n) (e : X = fcts 0 vs ++ Z) (h : isCs n f 0 Ds Z) : NMC X ∧ cn X X.length = n := by
  obtain ⟨a1, a2⟩ := NMk.clauses hn Ds 0 Z (by omega) h
  have b := no2.fcts vs 0
  have c : NMk 0 X := by
    rw [e]
    exact NMk.app (NMk.none b) (by rw [b.cnt]; exact a1)
  refine ⟨fun i hi z => by have := c i hi z; rw [Nat.zero_add] at this; exact this, ?_⟩
  unfold cn
  rw [List.take_length]
  show cnt X = n
  rw [e, cnt_app, b.cnt, a2]; omega
end NO2
