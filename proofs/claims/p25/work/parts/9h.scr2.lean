/-! A scribe follows a step. -/
theorem q_if {α : Type} {c : Prop} [Decidable c] {A B : Prop} {x y : α} {P : α → Prop} (K : P (if c then x else y)) (h1 : P x → A) (h2 : P y → B) : if c then A else B := by
  by_cases z : c
  · rw [if_pos z] at K ⊢; exact h1 K
  · rw [if_neg z] at K ⊢; exact h2 K
theorem q_all {c : Prop} [Decidable c] {A B : Prop} (h1 : A) (h2 : B) : if c then A else B := by
  by_cases z : c
  · rw [if_pos z]; exact h1
  · rw [if_neg z]; exact h2
/-- of two numbers, as the library reckons them -/
def o2 (v x y : Int32) : Int32 := if v = 10 then x - y else if v = 11 then 0 else if v = 12 then (if y < x then y else x) else if v = 13 then (if x < y then y else x) else if v = 14 then 0 else if v = 15 then 0 else if v = 16 then 0 else if v = 17 then 0 else if v = 18 then 0 else if v = 19 then 0 else if v = 20 then x + y else if v = 21 then x * y else if v = 22 then (if y = 0 then 0 else x / y) else if v = 23 then (if x < y then 1 else 0) else if v = 24 then (if y < x then 1 else 0) else if v = 25 then (if x = y then 1 else 0) else if v = 26 then (if y < x then 0 else 1) else if v = 27 then (if x < y then 0 else 1) else if v = 28 then x &&& y else if v = 29 then x ||| y else 0
def swk (k : Nat) : Int32 := c_sw.getD (k - 1) 0
def rkS (g : PH) (fv : Nat → Int32) (k : Nat) (o : Int32) (stk : List Int32) : List Int32 := if k = 39 then psh stk (tk g 1041 o) else if k = 38 then psh stk (gd fv 10 (tk g 1041 o)) else if k = 43 then psh (pdr stk) (-(ppv stk)) else if k = 18 then psh (pdr stk) (if ppv stk = 0 then 1 else 0) else psh (pdr (pdr stk)) (o2 (swk k) (ppv (pdr stk)) (ppv stk))
def acS (g : PH) (fv : Nat → Int32) (v : Int32) (k : Nat) (o : Int32) (stk : List Int32) : List Int32 := if v = 1 then stk else if v = 2 then stk else if v = 3 then stk else if v = 4 then stk else if v = 5 then pdr stk else if v = 6 then stk else if v = 19 then stk else rkS g fv k o stk
def acN (v t : Int32) (sh : List Int32) : List Int32 := if v = 2 then pnt sh t else if v = 3 then pnt sh t else if v = 4 then pnt sh t else sh
def acD (g : PH) (pl : Nat → Int32) (v o : Int32) (stk : List Int32) : Int32 := if v = 1 then 0 + wd 0 (tk g 1040 o - 2) else if v = 2 then 0 + (if 0 < gd pl 16 (tk g 1041 o) then dl (gd pl 16 (tk g 1041 o)) else 1) else if v = 3 then 0 + 1 + wd 0 (tk g 1040 o) + 1 else if v = 4 then 0 + 1 + wd 0 (tk g 1040 o - 1) else if v = 5 then 0 + dl (ppv stk) else if v = 6 then 0 else if v = 19 then 0 + 1 + 1 + dl o + 1 + 1 else 0
/-- what has been done since h -/
def RES (s p : Nat) (h h1 : PH) (stk sh : List Int32) (n : Int32) : Prop := FR (wSP s p) w0 h h1 ∧ SST h1 s stk sh ∧ p_im h1 p 1 = p_im h p 1 + n
section SCR2
variable {d L s q p m : Nat} {xs : Nat → Int32} {g h h1 h2 : PH} {stk sh : List Int32} {n : Int32}
theorem SDJ.wp (D : SDJ s q p) : ∀ a, wL a → ¬ wP p a := fun a q1 q2 => by unfold wL at q1; unfold wP at q2; unfold SDJ at D; omega
theorem SDJ.ws (D : SDJ s q p) : ∀ a, wL a → ¬ wS s a := fun a q1 q2 => by unfold wL at q1; unfold wS at q2; unfold SDJ at D; omega
theorem SDJ.wsp (D : SDJ s q p) : ∀ a, wL a → ¬ wSP s p a := fun a q1 q2 => q2.elim (D.ws a q1) (D.wp a q1)
theorem SDJ.pq (D : SDJ s q p) : ¬ wSP s p q := by unfold wSP wS wP; unfold SDJ at D; omega
theorem SDJ.f (D : SDJ s q p) : ¬ wSP s p 1066 := by unfold wSP wS wP; unfold SDJ at D; omega
theorem RES.rf (T : SST h s stk sh) : RES s p h h stk sh 0 := ⟨FR.rf, T, (Int32.add_zero _).symm⟩
theorem RES.pg {k : Int32} (R : RES s p h h1 stk sh n) (D : SDJ s q p) (A : PG1 p k h1 h2) : RES s p h h2 stk sh (n + k) :=
  ⟨R.1.tr (A.1.up (fun _ z => Or.inr z) (fun _ z => z)), R.2.1.fr A.1 (by unfold wP; unfold SDJ at D; omega) (by unfold wP; unfold SDJ at D; omega) (by unfold wP; unfold SDJ at D; omega), by rw [A.2, R.2.2, Int32.add_assoc]⟩
theorem RES.st {stk1 sh1 : List Int32} (R : RES s p h h1 stk sh n) (D : SDJ s q p) (F : FR (wS s) w0 h1 h2) (T : SST h2 s stk1 sh1) : RES s p h h2 stk1 sh1 n :=
  ⟨R.1.tr (F.up (fun _ z => Or.inl z) (fun _ z => z)), T, by rw [F.im (by unfold wS; unfold SDJ at D; omega), R.2.2]⟩
theorem RES.tr {stk1 sh1 : List Int32} {k : Int32} (R : RES s p h h1 stk sh n) (R1 : RES s p h1 h2 stk1 sh1 k) : RES s p h h2 stk1 sh1 (n + k) := ⟨R.1.tr R1.1, R1.2.1, by rw [R1.2.2, R.2.2, Int32.add_assoc]⟩
theorem RES.lib (R : RES s p h h1 stk sh n) (B : LIB L xs g h) (D : SDJ s q p) : LIB L xs g h1 := B.fr R.1 D.wsp (fun _ _ z => z)
theorem RES.sco (R : RES s p h h1 stk sh n) (S : SCO h s q p m) : SCO h1 s q p m := S.fr R.1 (fun z => z) (fun z => z)
theorem RES.pl (R : RES s p h h1 stk sh n) (D : SDJ s q p) : p_im h1 q = p_im h q := funext (fun j => R.1.im D.pq j)
theorem RES.fv (R : RES s p h h1 stk sh n) (D : SDJ s q p) : p_im h1 1066 = p_im h 1066 := funext (fun j => R.1.im D.f j)
theorem l133 {x n : Int32} {Q : Option Value → PH → Prop} (D : SDJ s q p) : ∀ (k : Nat) (i : Int32) (h : PH), (n.toInt - i.toInt).toNat ≤ k → LIB L xs g h → SCO h s q p m → (∀ h1, PG1 p (wd i n) h h1 → Q none h1) → wp (d + 1) 133 2 [.val (.ref s), .val (.int x), .val (.int n), .val (.int i)] [] h Q := by
  have hs : s ≠ 0 := by have := D.1; omega
  have hp : p ≠ 0 := by have := D.2.2.1; omega
  intro k
  induction k with
  | zero =>
    intro i h hk B S K
    rw [r133_2]
    have z : ¬ i < n := fun z => by rw [Int32.lt_iff_toInt_lt] at z; omega
    rw [if_neg z]
    exact K h (by unfold wd; rw [if_neg z]; exact PG1.rf)
  | succ k ih =>
    intro i h hk B S K
    rw [r133_2]
    split
    · rename_i z
      have S1 := S
      obtain ⟨a1, a2, -, -, a5, -⟩ := S
      rw [a2, B.2.2.1.2.1, a5]
      refine ⟨⟨a1, hs⟩, ⟨a1, hs⟩, ⟨B.2.2.1.1, by decide⟩, ⟨B.2.1.1.1, by decide⟩, s64t B (fun z1 => ⟨⟨S1.2.2.2.2.2.2.2.2.2.2.2.2.2.2.2.1, hp⟩, s132 S1.2.2.2.2.2.2.2.2.2.2.2.2.2.2.2 (fun h1 A => ?_)⟩)⟩
      refine ih (i + 1) h1 ?_ (B.fr A.1 D.wp (fun _ _ z => z)) (S1.fr A.1 (fun z => z) (fun z => z)) (fun h2 A2 => K h2 ?_)
      · rw [i_succ z]; omega
      · have := A.tr A2
        rwa [wd_step z] at this
    · rename_i z
      exact K h (by unfold wd; rw [if_neg z]; exact PG1.rf)
theorem s133 {x n : Int32} {Q : PH → Prop} (B : LIB L xs g h) (S : SCO h s q p m) (D : SDJ s q p) (K : ∀ h1, PG1 p (wd 0 n) h h1 → Q h1) : CV (d + 2) 133 [.ref s, .int x, .int n] h Q := by
  rw [e133]
  exact l133 (Q := fun v h1 => onV v (Q h1)) D _ 0 h (Nat.le_refl _) B S K
theorem s138 {k : Nat} {x y : Int32} {Q : Int32 → PH → Prop} (C : CO L xs h) (k1 : 1 ≤ k) (k2 : k ≤ 43) (K : Q (o2 (swk k) x y) h) : CI (d + 2) 138 [.ref k, .int x, .int y] h Q := by
  obtain ⟨w1, w2, w3⟩ := C.sw
  rw [e138]
  refine ⟨⟨(C.en k1 k2).1, by omega⟩, s87 C k1 k2 ?_⟩
  rw [w1, w2, w3, i_nat (by omega)]
  refine ⟨⟨⟨by decide, by decide⟩, i_in (by omega) (by decide)⟩, ?_⟩
  unfold o2 swk at K
  generalize c_sw.getD (k - 1) 0 = v at K ⊢
  refine q_if (P := fun a => Q a h) K (fun K => K) (fun K => ?_)
  refine q_if (P := fun a => Q a h) K (fun K => K) (fun K => ?_)
  refine q_if (P := fun a => Q a h) K (fun K => ?_) (fun K => ?_)
  · rw [e21]; exact q_if (P := fun a => Q a h) K (fun K => K) (fun K => K)
  refine q_if (P := fun a => Q a h) K (fun K => ?_) (fun K => ?_)
  · rw [e18]; exact q_if (P := fun a => Q a h) K (fun K => K) (fun K => K)
  refine q_if (P := fun a => Q a h) K (fun K => K) (fun K => ?_)
  refine q_if (P := fun a => Q a h) K (fun K => K) (fun K => ?_)
  refine q_if (P := fun a => Q a h) K (fun K => K) (fun K => ?_)
  refine q_if (P := fun a => Q a h) K (fun K => K) (fun K => ?_)
  refine q_if (P := fun a => Q a h) K (fun K => K) (fun K => ?_)
  refine q_if (P := fun a => Q a h) K (fun K => K) (fun K => ?_)
  refine q_if (P := fun a => Q a h) K (fun K => K) (fun K => ?_)
  refine q_if (P := fun a => Q a h) K (fun K => K) (fun K => ?_)
  refine q_if (P := fun a => Q a h) K (fun K => ?_) (fun K => ?_)
  · by_cases z : y = 0
    · rw [if_pos z] at K ⊢; exact K
    · rw [if_neg z] at K ⊢; exact ⟨z, K⟩
  refine q_if (P := fun a => Q a h) K (fun K => q_if (P := fun a => Q a h) K (fun K => K) (fun K => K)) (fun K => ?_)
  refine q_if (P := fun a => Q a h) K (fun K => q_if (P := fun a => Q a h) K (fun K => K) (fun K => K)) (fun K => ?_)
  refine q_if (P := fun a => Q a h) K (fun K => q_if (P := fun a => Q a h) K (fun K => K) (fun K => K)) (fun K => ?_)
  refine q_if (P := fun a => Q a h) K (fun K => q_if (P := fun a => Q a h) K (fun K => K) (fun K => K)) (fun K => ?_)
  refine q_if (P := fun a => Q a h) K (fun K => q_if (P := fun a => Q a h) K (fun K => K) (fun K => K)) (fun K => ?_)
  refine q_if (P := fun a => Q a h) K (fun K => K) (fun K => ?_)
  exact q_if (P := fun a => Q a h) K (fun K => K) (fun K => K)
theorem s139 {k : Nat} {o : Int32} {Q : PH → Prop} (B : LIB L xs g h) (S : SCO h s q p m) (D : SDJ s q p) (T : SST h s stk sh) (k1 : 1 ≤ k) (k2 : k ≤ 43) (K : ∀ h1, FR (wS s) w0 h h1 → SST h1 s (rkS g (p_im h 1066) k o stk) sh → Q h1) : CV (d + 3) 139 [.ref s, .ref k, .int o] h Q := by
  have hs : s ≠ 0 := by have := D.1; omega
  have C := B.1
  have en : ∀ j, 1 ≤ j → j ≤ 43 → (k = 0 ∨ p_kd h k = 16) ∧ (j = 0 ∨ p_kd h j = 16) := fun j q1 q2 => ⟨Or.inr (C.en k1 k2).1, Or.inr (C.en q1 q2).1⟩
  have a1 := S.1
  have a2 := S.2.1
  unfold rkS at K
  rw [e139]
  refine ⟨en 39 (by decide) (by decide), ?_⟩
  by_cases z1 : k = 39
  · rw [if_pos z1] at K ⊢
    rw [a2, B.2.2.1.2.1]
    exact ⟨⟨a1, hs⟩, ⟨B.2.2.1.1, by decide⟩, ⟨B.2.1.1.1, by decide⟩, s97t B ⟨⟨a1, hs⟩, s137 S D T (fun h1 F T1 => K h1 F T1)⟩⟩
  rw [if_neg z1] at K ⊢
  refine ⟨en 38 (by decide) (by decide), ?_⟩
  by_cases z2 : k = 38
  · rw [if_pos z2] at K ⊢
    have fin : ∀ y, y = gd (p_im h 1066) 10 (tk g 1041 o) → wp (d + 2) 139 34 [.unset, .unset, .unset, .unset, .unset] [.int y, .ref s] h (fun v h1 => onV v (Q h1)) := fun y hy => by
      rw [r139_34]
      exact ⟨⟨a1, hs⟩, s137 S D T (fun h1 F T1 => K h1 F (by rw [← hy]; exact T1))⟩
    rw [a2, B.2.2.1.2.1]
    refine ⟨⟨a1, hs⟩, ⟨B.2.2.1.1, by decide⟩, ⟨B.2.1.1.1, by decide⟩, s97t B ?_⟩
    obtain ⟨-, -, a3, -, -, -, -, -, -, -, -, b3, b4, -⟩ := S
    rw [a3, b3, b4]
    unfold gd at fin
    split
    · rename_i y1; rw [r139_28]; exact fin 0 (by rw [if_pos y1])
    · rename_i y1
      refine ⟨⟨a1, hs⟩, ⟨by decide, by decide⟩, ?_⟩
      split
      · rename_i y2; exact ⟨⟨a1, hs⟩, ⟨⟨by decide, by decide⟩, in_of y1 y2 (Nat.le_refl _) (by decide)⟩, fin _ (by rw [if_neg y1, if_pos y2])⟩
      · rename_i y2; rw [r139_28]; exact fin 0 (by rw [if_neg y1, if_neg y2])
  rw [if_neg z2] at K ⊢
  refine ⟨en 43 (by decide) (by decide), ?_⟩
  by_cases z3 : k = 43
  · rw [if_pos z3] at K ⊢
    exact ⟨⟨a1, hs⟩, s131 S D T (fun h1 F T1 => ⟨⟨by rw [F.kd]; exact a1, hs⟩, s137 (S.fr F (fun z => z) (fun z => z)) D T1 (fun h2 F2 T2 => K h2 (F.tr F2) T2)⟩)⟩
  rw [if_neg z3] at K ⊢
  refine ⟨en 18 (by decide) (by decide), ?_⟩
  by_cases z4 : k = 18
  · rw [if_pos z4] at K ⊢
    refine ⟨⟨a1, hs⟩, s131 S D T (fun h1 F T1 => ?_)⟩
    have fin : ∀ y, y = (if ppv stk = 0 then (1 : Int32) else 0) → wp (d + 2) 139 55 [.unset, .unset, .unset, .unset, .unset] [.int y, .ref s] h1 (fun v h1 => onV v (Q h1)) := fun y hy => by
      rw [r139_55]
      exact ⟨⟨by rw [F.kd]; exact a1, hs⟩, s137 (S.fr F (fun z => z) (fun z => z)) D T1 (fun h2 F2 T2 => K h2 (F.tr F2) (by rw [← hy]; exact T2))⟩
    split
    · rename_i y; exact fin 1 (by rw [if_pos y])
    · rename_i y; exact fin 0 (by rw [if_neg y])
  rw [if_neg z4] at K ⊢
  refine ⟨⟨a1, hs⟩, s131 S D T (fun h1 F T1 => ⟨⟨by rw [F.kd]; exact a1, hs⟩, s131 (S.fr F (fun z => z) (fun z => z)) D T1 (fun h2 F2 T2 => ?_)⟩)⟩
  have F3 := F.tr F2
  have B2 := B.fr F3 D.ws (fun _ _ z => z)
  exact s138 B2.1 k1 k2 ⟨⟨by rw [F3.kd]; exact a1, hs⟩, s137 (S.fr F3 (fun z => z) (fun z => z)) D T2 (fun h4 F4 T4 => K h4 (F3.tr F4) T4)⟩
end SCR2
