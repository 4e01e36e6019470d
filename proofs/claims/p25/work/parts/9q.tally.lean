/-! Terms are tallied. -/
def tm (g : PH) (t : Int32) : Int32 := if 0 < tk g 1041 (opS g t) then tk g 1041 (opS g t) else 0
def tup (f : Nat → Nat) (z : Nat) : Nat → Nat := fun y => if y = z then f y + 1 else f y
def tl1 (g : PH) (t : Int32) (x : Nat) (T : (Nat → Nat) × (Nat → Nat) × (Nat → Int32)) : (Nat → Nat) × (Nat → Nat) × (Nat → Int32) :=
  if kdS g t = 8 then T else if tm g t < 24 then (if kdS g t = 10 then (T.1, tup T.2.1 (tm g t).toNatClampNeg, T.2.2) else (tup T.1 (tm g t).toNatClampNeg, T.2.1, fun y => if y = (tm g t).toNatClampNeg ∧ T.2.2 y < 0 then Int32.ofNat x else T.2.2 y)) else T
/-- what was shown from k on -/
def evs (sh : List Int32) : Nat → Nat → List Int32
  | 0, _ => []
  | j + 1, k => sh.getD k 0 :: evs sh j (k + 1)
def tlr (g : PH) (x : Nat) : List Int32 → (Nat → Nat) × (Nat → Nat) × (Nat → Int32) → (Nat → Nat) × (Nat → Nat) × (Nat → Int32)
  | [], T => T
  | t :: r, T => tlr g x r (tl1 g t x T)
def tla (g : PH) (sh : List Int32) : List Nat → List Nat → Nat → (Nat → Nat) × (Nat → Nat) × (Nat → Int32) → (Nat → Nat) × (Nat → Nat) × (Nat → Int32)
  | x :: xs, b :: bs, k, T => tla g sh xs bs (max k b) (tlr g x (evs sh (b - k) k) T)
  | _, _, _, T => T
def TLY (h : PH) (c : Nat) (T : (Nat → Nat) × (Nat → Nat) × (Nat → Int32)) : Prop := ∀ y, y < 24 → p_im h (c + 9) y = Int32.ofNat (T.1 y) ∧ p_im h (c + 10) y = Int32.ofNat (T.2.1 y) ∧ p_im h (c + 11) y = T.2.2 y
def wTl (c a : Nat) : Prop := c + 9 ≤ a ∧ a ≤ c + 12
theorem pnt_len (sh : List Int32) (t : Int32) : sh.length ≤ (pnt sh t).length := by
  unfold pnt
  cases Nat.blt sh.length 600 with
  | true => show sh.length ≤ (sh ++ [t]).length; rw [List.length_append]; exact Nat.le_add_right _ _
  | false => exact Nat.le_refl _
theorem stN_len (g : PH) (t : Int32) (sh : List Int32) : sh.length ≤ (stN g t sh).length := by
  unfold stN acN
  split
  · exact Nat.le_refl _
  · split
    · exact Nat.le_refl _
    · split
      · exact pnt_len _ _
      · split
        · exact pnt_len _ _
        · split
          · exact pnt_len _ _
          · exact Nat.le_refl _
theorem fN_len (g : PH) (fv : Nat → Int32) (to : Int32) : ∀ (k : Nat) (t : Int32) (stk sh : List Int32), sh.length ≤ (fN g fv to k t stk sh).length := by
  intro k
  induction k with
  | zero => intro t stk sh; exact Nat.le_refl _
  | succ k ih =>
    intro t stk sh
    unfold fN
    split
    · exact Nat.le_trans (stN_len g t sh) (ih _ _ _)
    · exact Nat.le_refl _
theorem shW_len (g : PH) (fv : Nat → Int32) : ∀ (R : List Nat) (sh : List Int32), sh.length ≤ (shW g fv R sh).length := by
  intro R
  induction R with
  | nil => intro sh; exact Nat.le_refl _
  | cons x R ih => intro sh; exact Nat.le_trans (fN_len g fv _ _ _ _ _) (ih _)
theorem bdW_le (g : PH) (fv : Nat → Int32) : ∀ (R : List Nat) (sh : List Int32), (bdW g fv R sh).length = R.length ∧ ∀ b ∈ bdW g fv R sh, b ≤ (shW g fv R sh).length := by
  intro R
  induction R with
  | nil => intro sh; exact ⟨rfl, fun b hb => absurd hb List.not_mem_nil⟩
  | cons x R ih =>
    intro sh
    obtain ⟨i1, i2⟩ := ih (itn g fv x sh)
    refine ⟨by show (bdW g fv R _).length + 1 = R.length + 1; rw [i1], fun b hb => ?_⟩
    rcases List.mem_cons.mp hb with q | q
    · rw [q]; exact shW_len g fv R _
    · exact i2 b q
section TALM
variable {d L n om c m x : Nat} {xs : Nat → Int32} {g h : PH} {sh : List Int32} {t : Int32} {T : (Nat → Nat) × (Nat → Nat) × (Nat → Int32)}
theorem tm_nn : ¬ tm g t < 0 := by
  unfold tm
  split
  · rename_i z
    rw [Int32.lt_iff_toInt_lt] at z ⊢
    have z : (0 : Int) < (tk g 1041 (opS g t)).toInt := z
    show ¬ (tk g 1041 (opS g t)).toInt < 0
    omega
  · decide
theorem s150 {Q : Int32 → PH → Prop} (B : LIB L xs g h) (K : Q (tm g t) h) : CI (d + 2) 150 [.ref 1034, .int t] h Q := by
  unfold tm at K
  rw [e150, B.2.2.2.2.1.1, B.2.2.1.2.1]
  refine ⟨B.lb, B.lb, ⟨B.2.2.2.2.1.2.1, by decide⟩, s130 B ⟨⟨B.2.1.1.1, by decide⟩, s97t B ?_⟩⟩
  rw [e18]
  exact q_if (P := fun a => Q a h) K (fun K => K) (fun K => K)
theorem s151 {Q : PH → Prop} (B : LIB L xs g h) (S : CTS h c m) (Y : TLY h c T) (K : ∀ h1, FR (wTl c) w0 h h1 → TLY h1 c (tl1 g t x T) → p_im h1 (c + 12) = p_im h (c + 12) → Q h1) : CV (d + 3) 151 [.ref c, .ref 1034, .int t, .int (Int32.ofNat x)] h Q := by
  have hc0 : ¬ c = 0 := by have := S.2.1; omega
  have n9 : ¬ c + 9 = 0 := by omega
  have n10 : ¬ c + 10 = 0 := by omega
  have n11 : ¬ c + 11 = 0 := by omega
  have g9 : 1000 ≤ c + 9 := by have := S.2.1; omega
  have g10 : 1000 ≤ c + 10 := by omega
  have g11 : 1000 ≤ c + 11 := by omega
  have w9 : wTl c (c + 9) := by unfold wTl; omega
  have w10 : wTl c (c + 10) := by unfold wTl; omega
  have w11 : wTl c (c + 11) := by unfold wTl; omega
  have d1 : ¬ c + 9 = c + 10 := by omega
  have d2 : ¬ c + 9 = c + 11 := by omega
  have d3 : ¬ c + 10 = c + 9 := by omega
  have d4 : ¬ c + 10 = c + 11 := by omega
  have d5 : ¬ c + 11 = c + 9 := by omega
  have d6 : ¬ c + 11 = c + 10 := by omega
  have d7 : ¬ c + 12 = c + 9 := by omega
  have d8 : ¬ c + 12 = c + 10 := by omega
  have d9 : ¬ c + 12 = c + 11 := by omega
  have ok := kdS_ok B.2.2.2.2.2.1 t
  have C := B.1
  have en : ∀ j, 1 ≤ j → j ≤ 43 → (kdS g t = 0 ∨ p_kd h (kdS g t) = 16) ∧ (j = 0 ∨ p_kd h j = 16) := fun j q1 q2 => ⟨Or.inr (C.en ok.1 ok.2).1, Or.inr (C.en q1 q2).1⟩
  unfold tl1 at K
  rw [e151, B.2.2.2.2.1.1]
  refine ⟨B.lb, ⟨B.2.2.2.2.1.2.1, by decide⟩, s129 B (s150 (d := d) B ⟨en 8 (by decide) (by decide), ?_⟩)⟩
  by_cases z1 : kdS g t = 8
  · rw [if_pos z1] at K ⊢
    exact K h FR.rf Y rfl
  rw [if_neg z1] at K ⊢
  by_cases z2 : tm g t < 24
  · rw [if_pos z2] at K ⊢
    have hin : p_in (tm g t) 24 := in_of tm_nn z2 (Nat.le_refl _) (by decide)
    have hlt : (tm g t).toNatClampNeg < 24 := hin.2
    generalize (tm g t).toNatClampNeg = z at *
    obtain ⟨y1, y2, y3⟩ := Y z hlt
    refine ⟨en 10 (by decide) (by decide), ?_⟩
    by_cases z3 : kdS g t = 10
    · rw [if_pos z3] at K ⊢
      rw [S.2.2.2.2.2.2.2.1, S.2.2.2.2.2.2.2.2.2.2.2.2.1.1, S.2.2.2.2.2.2.2.2.2.2.2.2.1.2, y2, show (1 : Int32) = Int32.ofNat 1 from rfl, i_add]
      refine ⟨⟨S.1, hc0⟩, ⟨⟨by decide, n10⟩, hin⟩, ⟨⟨rfl, g10⟩, hin⟩, K _ (FR.wi _ w10) (fun y hy => ?_) ?_⟩
      · obtain ⟨u1, u2, u3⟩ := Y y hy
        refine ⟨by rw [wi_im, if_neg (fun q => d1 q.1), u1], ?_, by rw [wi_im, if_neg (fun q => d6 q.1), u3]⟩
        show _ = Int32.ofNat (if y = z then T.2.1 y + 1 else T.2.1 y)
        rw [wi_im]
        by_cases e : y = z
        · rw [if_pos ⟨rfl, e⟩, if_pos e, e]
        · rw [if_neg (fun q => e q.2), if_neg e, u2]
      · funext j; rw [wi_im, if_neg (fun q => d8 q.1)]
    · rw [if_neg z3] at K ⊢
      have a1 := S.2.2.2.2.2.2.1
      have a2 := S.2.2.2.2.2.2.2.2.2.2.2.1
      have a3 := S.2.2.2.2.2.2.2.2.1
      have a4 := S.2.2.2.2.2.2.2.2.2.2.2.2.2.1
      rw [a1, wi_rm, a3]
      simp only [wi_kd, wi_ln]
      rw [a2.1, a2.2, a4.1, a4.2, y1, show (1 : Int32) = Int32.ofNat 1 from rfl, i_add]
      have i11 : ∀ v y, p_im (p_wi h (c + 9) z v) (c + 11) y = p_im h (c + 11) y := fun v y => by rw [wi_im, if_neg (fun q => d5 q.1)]
      have hd : ∀ {v : Int32} {y : Nat}, y < 24 → v = Int32.ofNat (T.1 z + 1) → p_im (p_wi h (c + 9) z v) (c + 9) y = Int32.ofNat (tup T.1 z y) := fun {v y} hy hv => by
        show _ = Int32.ofNat (if y = z then T.1 y + 1 else T.1 y)
        rw [wi_im]
        by_cases e : y = z
        · rw [if_pos ⟨rfl, e⟩, if_pos e, e, hv]
        · rw [if_neg (fun q => e q.2), if_neg e, (Y y hy).1]
      refine ⟨⟨S.1, hc0⟩, ⟨⟨by decide, n9⟩, hin⟩, ⟨⟨rfl, g9⟩, hin⟩, ⟨S.1, hc0⟩, ⟨⟨by decide, n11⟩, hin⟩, ?_⟩
      rw [i11, y3]
      by_cases z4 : T.2.2 z < 0
      · rw [if_pos z4, r151_46]
        refine ⟨⟨S.1, hc0⟩, ⟨⟨rfl, g11⟩, hin⟩, K _ ((FR.wi _ w9).tr (FR.wi _ w11)) (fun y hy => ?_) ?_⟩
        · obtain ⟨u1, u2, u3⟩ := Y y hy
          refine ⟨?_, by rw [wi_im, if_neg (fun q => d4 q.1), wi_im, if_neg (fun q => d3 q.1), u2], ?_⟩
          · rw [wi_im, if_neg (fun q => d2 q.1)]; exact hd hy rfl
          · show _ = if y = z ∧ T.2.2 y < 0 then Int32.ofNat x else T.2.2 y
            rw [wi_im]
            by_cases e : y = z
            · rw [if_pos ⟨rfl, e⟩, if_pos ⟨e, by rw [e]; exact z4⟩]
            · rw [if_neg (fun q => e q.2), if_neg (fun q => e q.1), i11, u3]
        · funext j; rw [wi_im, if_neg (fun q => d9 q.1), wi_im, if_neg (fun q => d7 q.1)]
      · rw [if_neg z4, r151_46]
        refine K _ (FR.wi _ w9) (fun y hy => ?_) ?_
        · obtain ⟨u1, u2, u3⟩ := Y y hy
          refine ⟨hd hy rfl, by rw [wi_im, if_neg (fun q => d3 q.1), u2], ?_⟩
          show _ = if y = z ∧ T.2.2 y < 0 then Int32.ofNat x else T.2.2 y
          rw [i11, u3, if_neg (fun q => z4 (by rw [← q.1]; exact q.2))]
        · funext j; rw [wi_im, if_neg (fun q => d7 q.1)]
  · rw [if_neg z2] at K ⊢
    exact K h FR.rf Y rfl
end TALM
