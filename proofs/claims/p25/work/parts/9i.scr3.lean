/-! A scribe acts and follows. -/
section SCR3
variable {d L s q p m : Nat} {xs : Nat → Int32} {g h h1 h2 : PH} {stk sh : List Int32} {n : Int32}
theorem SCO.pg (S : SCO h s q p m) : PGS h p m := S.2.2.2.2.2.2.2.2.2.2.2.2.2.2.2
theorem s140 {k : Nat} {o t : Int32} {Q : PH → Prop} (B : LIB L xs g h) (S : SCO h s q p m) (D : SDJ s q p) (T : SST h s stk sh) (k1 : 1 ≤ k) (k2 : k ≤ 43) (K : ∀ h1, RES s p h h1 (acS g (p_im h 1066) (swk k) k o stk) (acN (swk k) t sh) (acD g (p_im h q) (swk k) o stk) → Q h1) : CV (d + 4) 140 [.ref s, .ref k, .int o, .int t] h Q := by
  have hs : s ≠ 0 := by have := D.1; omega
  have hp : p ≠ 0 := by have := D.2.2.1; omega
  obtain ⟨w1, w2, w3⟩ := B.1.sw
  have rs : ∀ {h1 : PH} {stk1 sh1 : List Int32} {n1 : Int32}, RES s p h h1 stk1 sh1 n1 → (p_kd h1 s = 9 ∧ ¬ s = 0) := fun R => ⟨(R.sco S).1, hs⟩
  have rp : ∀ {h1 : PH} {stk1 sh1 : List Int32} {n1 : Int32}, RES s p h h1 stk1 sh1 n1 → (p_kd h1 (p_rm h1 s 3) = 11 ∧ ¬ p_rm h1 s 3 = 0) := fun R => by rw [(R.sco S).2.2.2.2.1]; exact ⟨(R.sco S).pg.1, hp⟩
  have r2 : ∀ {h1 : PH} {stk1 sh1 : List Int32} {n1 : Int32}, RES s p h h1 stk1 sh1 n1 → (p_kd h1 (p_rm h1 s 0) = 2 ∧ ¬ p_rm h1 s 0 = 0) := fun R => by rw [(R.sco S).2.1]; exact ⟨(R.lib B D).2.2.1.1, by decide⟩
  have r4 : ∀ {h1 : PH} {stk1 sh1 : List Int32} {n1 : Int32}, RES s p h h1 stk1 sh1 n1 → (p_kd h1 (p_rm h1 (p_rm h1 s 0) 1) = 4 ∧ ¬ p_rm h1 (p_rm h1 s 0) 1 = 0) := fun R => by rw [(R.sco S).2.1, (R.lib B D).2.2.1.2.1]; exact ⟨(R.lib B D).2.1.1.1, by decide⟩
  have e4 : ∀ {h1 : PH} {stk1 sh1 : List Int32} {n1 : Int32}, RES s p h h1 stk1 sh1 n1 → p_rm h1 (p_rm h1 s 0) 1 = 1036 := fun R => by rw [(R.sco S).2.1, (R.lib B D).2.2.1.2.1]
  have e3 : ∀ {h1 : PH} {stk1 sh1 : List Int32} {n1 : Int32}, RES s p h h1 stk1 sh1 n1 → p_rm h1 s 3 = p := fun R => (R.sco S).2.2.2.2.1
  have R0 : RES s p h h stk sh 0 := RES.rf T
  rw [e140]
  refine ⟨⟨(B.1.en k1 k2).1, by omega⟩, s87 B.1 k1 k2 ?_⟩
  rw [w1, w2, w3, i_nat (by omega)]
  refine ⟨⟨⟨by decide, by decide⟩, i_in (by omega) (by decide)⟩, ?_⟩
  have RK : ∀ v, swk k = v → v ≠ 1 → v ≠ 2 → v ≠ 3 → v ≠ 4 → v ≠ 5 → v ≠ 6 → v ≠ 19 → wp (d + 3) 140 133 [.val (.ref s), .val (.ref k), .val (.int o), .unset, .unset] [] h (fun v h1 => onV v (Q h1)) := fun v hv n1 n2 n3 n4 n5 n6 n7 => by
    rw [r140_133]
    refine ⟨rs R0, s139 B S D T k1 k2 (fun h1 F T1 => K h1 ?_)⟩
    rw [hv]
    unfold acS acN acD
    rw [if_neg n1, if_neg n2, if_neg n3, if_neg n4, if_neg n5, if_neg n6, if_neg n7, if_neg n2, if_neg n3, if_neg n4, if_neg n1, if_neg n2, if_neg n3, if_neg n4, if_neg n5, if_neg n6, if_neg n7]
    exact R0.st D F T1
  generalize hv : c_sw.getD (k - 1) 0 = v
  have hv : swk k = v := hv
  have RK := RK v hv
  rw [hv] at K
  by_cases v1 : v = 1
  · rw [if_pos v1]
    rw [v1] at K
    rw [e4 R0]
    refine ⟨rs R0, r2 R0, by have := r4 R0; rwa [e4 R0] at this, s110t B (fun z => ⟨rs R0, r2 R0, r4 R0, ?_⟩)⟩
    rw [e4 R0]
    exact s109t B ⟨rs R0, s133 B S D (fun h1 A => K h1 (R0.pg D A))⟩
  rw [if_neg v1]
  by_cases v2 : v = 2
  · rw [if_pos v2]
    rw [v2] at K
    refine ⟨rs R0, s135 S D T (fun h1 F T1 => ?_)⟩
    have R1 := R0.st D F T1
    refine ⟨rs R1, r2 R1, r4 R1, ?_⟩
    rw [e4 R1]
    refine s97t (R1.lib B D) ⟨rs R1, s136 (R1.sco S) D ?_⟩
    rw [R1.pl D]
    have fin : ∀ {h2 : PH} {y : Int32}, y = (if 0 < gd (p_im h q) 16 (tk g 1041 o) then dl (gd (p_im h q) 16 (tk g 1041 o)) else 1) → PG1 p y h1 h2 → Q h2 := fun {h2 y} hy A => K h2 (by
      have := R1.pg D A
      rw [hy] at this
      exact this)
    by_cases y : 0 < gd (p_im h q) 16 (tk g 1041 o)
    · rw [if_pos y]
      rw [if_pos y] at fin
      refine ⟨rs R1, rp R1, ?_⟩
      rw [e3 R1]
      exact s134 (R1.sco S).pg (fun h2 A => fin rfl A)
    · rw [if_neg y]
      rw [if_neg y] at fin
      refine ⟨rs R1, rp R1, ?_⟩
      rw [e3 R1]
      exact s132 (R1.sco S).pg (fun h2 A => fin rfl A)
  rw [if_neg v2]
  by_cases v3 : v = 3
  · rw [if_pos v3]
    rw [v3] at K
    refine ⟨rs R0, s135 S D T (fun h1 F T1 => ?_)⟩
    have R1 := R0.st D F T1
    refine ⟨rs R1, rp R1, ?_⟩
    rw [e3 R1]
    refine s132 (R1.sco S).pg (fun h2 A2 => ?_)
    have R2 := R1.pg D A2
    refine ⟨rs R2, r2 R2, r4 R2, ?_⟩
    rw [e4 R2]
    refine s110t (R2.lib B D) (fun z => ⟨rs R2, r2 R2, r4 R2, ?_⟩)
    rw [e4 R2]
    refine s109t (R2.lib B D) ⟨rs R2, s133 (R2.lib B D) (R2.sco S) D (fun h3 A3 => ?_)⟩
    have R3 := R2.pg D A3
    refine ⟨rs R3, rp R3, ?_⟩
    rw [e3 R3]
    exact s132 (R3.sco S).pg (fun h4 A4 => K h4 (R3.pg D A4))
  rw [if_neg v3]
  by_cases v4 : v = 4
  · rw [if_pos v4]
    rw [v4] at K
    refine ⟨rs R0, s135 S D T (fun h1 F T1 => ?_)⟩
    have R1 := R0.st D F T1
    refine ⟨rs R1, rs R1, r2 R1, rs R1, r2 R1, r4 R1, ?_⟩
    rw [e4 R1, e3 R1]
    refine s110t (R1.lib B D) (fun z => ⟨by have := r4 R1; rwa [e4 R1] at this, s64t (R1.lib B D) (fun y => ⟨by have := rp R1; rwa [e3 R1] at this, s132 (R1.sco S).pg (fun h2 A2 => ?_)⟩)⟩)
    have R2 := R1.pg D A2
    refine ⟨rs R2, r2 R2, r4 R2, ?_⟩
    rw [e4 R2]
    refine s110t (R2.lib B D) (fun z => ⟨rs R2, r2 R2, r4 R2, ?_⟩)
    rw [e4 R2]
    exact s109t (R2.lib B D) ⟨rs R2, s133 (R2.lib B D) (R2.sco S) D (fun h3 A3 => K h3 (R2.pg D A3))⟩
  rw [if_neg v4]
  by_cases v5 : v = 5
  · rw [if_pos v5]
    rw [v5] at K
    rw [e3 R0]
    refine ⟨rs R0, rs R0, s131 S D T (fun h1 F T1 => ?_)⟩
    have R1 := R0.st D F T1
    exact ⟨by have := rp R1; rwa [e3 R1] at this, s134 (R1.sco S).pg (fun h2 A2 => K h2 (R1.pg D A2))⟩
  rw [if_neg v5]
  by_cases v6 : v = 6
  · rw [if_pos v6]
    rw [v6] at K
    exact K h R0
  rw [if_neg v6]
  by_cases v19 : v = 19
  · rw [v19] at K
    subst v19
    rw [if_neg (by decide), if_neg (by decide), if_neg (by decide), if_neg (by decide), if_neg (by decide), if_neg (by decide), if_neg (by decide), if_neg (by decide), if_neg (by decide), if_neg (by decide), if_neg (by decide), if_neg (by decide), if_pos rfl]
    refine ⟨rs R0, rp R0, ?_⟩
    rw [e3 R0]
    refine s132 S.pg (fun h1 A1 => ?_)
    have R1 := R0.pg D A1
    refine ⟨rs R1, rp R1, ?_⟩
    rw [e3 R1]
    refine s132 (R1.sco S).pg (fun h2 A2 => ?_)
    have R2 := R1.pg D A2
    refine ⟨rs R2, rp R2, ?_⟩
    rw [e3 R2]
    refine s134 (R2.sco S).pg (fun h3 A3 => ?_)
    have R3 := R2.pg D A3
    refine ⟨rs R3, rp R3, ?_⟩
    rw [e3 R3]
    refine s132 (R3.sco S).pg (fun h4 A4 => ?_)
    have R4 := R3.pg D A4
    refine ⟨rs R4, rp R4, ?_⟩
    rw [e3 R4]
    exact s132 (R4.sco S).pg (fun h5 A5 => K h5 (R4.pg D A5))
  have RK := RK v1 v2 v3 v4 v5 v6 v19
  refine q_all RK (q_all RK (q_all RK (q_all RK (q_all RK (q_all RK (q_all RK (q_all RK (q_all RK (q_all RK (q_all RK (q_all RK ?_)))))))))))
  rw [if_neg v19]
  exact RK
/-- where it goes from a step, with what stack -/
def stp (g : PH) (fv : Nat → Int32) (t : Int32) (stk : List Int32) : Int32 × List Int32 := if kdS g t = 13 then (opS g t, stk) else if kdS g t = 12 then (if ppv stk = 0 then (opS g t, pdr stk) else (t + 1, pdr stk)) else (t + 1, acS g fv (swk (kdS g t)) (kdS g t) (opS g t) stk)
def stN (g : PH) (t : Int32) (sh : List Int32) : List Int32 := if kdS g t = 13 then sh else if kdS g t = 12 then sh else acN (swk (kdS g t)) t sh
def stD (g : PH) (pl : Nat → Int32) (t : Int32) (stk : List Int32) : Int32 := if kdS g t = 13 then 0 else if kdS g t = 12 then 0 else acD g pl (swk (kdS g t)) (opS g t) stk
def fS (g : PH) (fv : Nat → Int32) (to : Int32) : Nat → Int32 → List Int32 → List Int32
  | 0, _, stk => stk
  | k + 1, t, stk => if t < to then fS g fv to k (stp g fv t stk).1 (stp g fv t stk).2 else stk
def fN (g : PH) (fv : Nat → Int32) (to : Int32) : Nat → Int32 → List Int32 → List Int32 → List Int32
  | 0, _, _, sh => sh
  | k + 1, t, stk, sh => if t < to then fN g fv to k (stp g fv t stk).1 (stp g fv t stk).2 (stN g t sh) else sh
def fD (g : PH) (fv pl : Nat → Int32) (to : Int32) : Nat → Int32 → List Int32 → Int32
  | 0, _, _ => 0
  | k + 1, t, stk => if t < to then stD g pl t stk + fD g fv pl to k (stp g fv t stk).1 (stp g fv t stk).2 else 0
theorem l141 {to : Int32} {Q : Option Value → PH → Prop} (D : SDJ s q p) (fv pl : Nat → Int32) : ∀ (k i : Nat) (t : Int32) (stk sh : List Int32) (h : PH), i + k = 600 → LIB L xs g h → SCO h s q p m → SST h s stk sh → p_im h 1066 = fv → p_im h q = pl →
    (∀ h1, RES s p h h1 (fS g fv to k t stk) (fN g fv to k t stk sh) (fD g fv pl to k t stk) → Q none h1) → wp (d + 4) 141 20 [.val (.ref s), .unset, .val (.int to), .val (.int t), .val (.int (Int32.ofNat i)), .unset, .unset, .unset] [] h Q := by
  have hs : s ≠ 0 := by have := D.1; omega
  intro k
  induction k with
  | zero =>
    intro i t stk sh h hi B S T ef ep K
    rw [r141_20, if_neg (show ¬ Int32.ofNat i < 600 from by rw [show (600 : Int32) = Int32.ofNat 600 from rfl, i_lt (by omega) (by decide)]; omega)]
    exact K h (RES.rf T)
  | succ k ih =>
    intro i t stk sh h hi B S T ef ep K
    unfold fS fN fD at K
    rw [r141_20, if_pos (show Int32.ofNat i < 600 from by rw [show (600 : Int32) = Int32.ofNat 600 from rfl, i_lt (by omega) (by decide)]; omega)]
    by_cases hlt : t < to
    · rw [if_pos hlt] at K ⊢
      rw [if_pos hlt, if_pos hlt] at K
      have ok := kdS_ok B.2.2.2.2.2.1 t
      have goon : ∀ (t1 : Int32) (stk1 sh1 : List Int32) (n1 : Int32) (h1 : PH), t1 = (stp g fv t stk).1 → stk1 = (stp g fv t stk).2 → sh1 = stN g t sh → n1 = stD g pl t stk → RES s p h h1 stk1 sh1 n1 →
          wp (d + 4) 141 65 [.val (.ref s), .unset, .val (.int to), .unset, .val (.int (Int32.ofNat i)), .unset, .unset, .unset] [.int t1] h1 Q := fun t1 stk1 sh1 n1 h1 e1 e2 e3 e4 R => by
        rw [r141_65, i_ofNat1, i_add]
        refine ih (i + 1) t1 stk1 sh1 h1 (by omega) (R.lib B D) (R.sco S) R.2.1 (by rw [R.fv D, ef]) (by rw [R.pl D, ep]) (fun h2 R2 => K h2 ?_)
        rw [← e1, ← e2, ← e3, ← e4]
        exact R.tr R2
      have C := B.1
      obtain ⟨c1, c2, -⟩ := B.2.2.2.2.1
      rw [S.2.1, c1]
      refine ⟨⟨S.1, hs⟩, ⟨B.2.2.1.1, by decide⟩, ⟨c2, by decide⟩, s129 B ?_⟩
      rw [S.2.1, c1]
      refine ⟨⟨S.1, hs⟩, ⟨B.2.2.1.1, by decide⟩, ⟨c2, by decide⟩, s130 B ?_⟩
      unfold stp stN stD at goon
      have en : ∀ j, 1 ≤ j → j ≤ 43 → (kdS g t = 0 ∨ p_kd h (kdS g t) = 16) ∧ (j = 0 ∨ p_kd h j = 16) := fun j q1 q2 => ⟨Or.inr (C.en ok.1 ok.2).1, Or.inr (C.en q1 q2).1⟩
      refine ⟨en 13 (by decide) (by decide), ?_⟩
      by_cases z1 : kdS g t = 13
      · rw [if_pos z1]
        rw [if_pos z1, if_pos z1, if_pos z1] at goon
        rw [r141_47, r141_50, if_neg (by decide), r141_58, if_neg (by decide)]
        exact goon _ _ _ _ h rfl rfl rfl rfl (RES.rf T)
      rw [if_neg z1]
      rw [if_neg z1, if_neg z1, if_neg z1] at goon
      refine ⟨en 12 (by decide) (by decide), ?_⟩
      by_cases z2 : kdS g t = 12
      · rw [if_pos z2]
        rw [if_pos z2, if_pos z2, if_pos z2] at goon
        refine ⟨⟨S.1, hs⟩, s131 S D T (fun h1 F T1 => ?_)⟩
        have R1 := (RES.rf (p := p) T).st D F T1
        by_cases z3 : ppv stk = 0
        · rw [if_pos z3]
          rw [if_pos z3] at goon
          rw [r141_47, r141_50, if_neg (by decide), r141_58, if_neg (by decide)]
          exact goon _ _ _ _ h1 rfl rfl rfl rfl R1
        · rw [if_neg z3]
          rw [if_neg z3] at goon
          rw [r141_49, r141_50, if_pos rfl]
          refine ⟨⟨(R1.sco S).1, hs⟩, ?_⟩
          refine s140 (R1.lib B D) (R1.sco S) D R1.2.1 ok.1 ok.2 (fun h2 R2 => ?_)
          rw [r141_58, if_pos rfl]
          have e12 : swk (kdS g t) = 6 := by rw [z2]; rfl
          rw [e12] at R2
          have R3 := R1.tr R2
          refine goon _ _ _ _ h2 rfl rfl rfl rfl ?_
          have e0 : (0 : Int32) + acD g (p_im h1 q) 6 (opS g t) (pdr stk) = 0 := rfl
          rw [e0] at R3
          exact R3
      · rw [if_neg z2]
        rw [if_neg z2, if_neg z2, if_neg z2] at goon
        rw [r141_49, r141_50, if_pos rfl]
        refine ⟨⟨S.1, hs⟩, s140 B S D T ok.1 ok.2 (fun h2 R2 => ?_)⟩
        rw [r141_58, if_pos rfl]
        rw [ef, ep] at R2
        exact goon _ _ _ _ h2 rfl rfl rfl rfl R2
    · rw [if_neg hlt] at K ⊢
      rw [if_neg hlt, if_neg hlt] at K
      exact K h (RES.rf T)
theorem s141 {t to : Int32} {Q : PH → Prop} (B : LIB L xs g h) (S : SCO h s q p m) (D : SDJ s q p) (T : SST h s stk sh) (K : ∀ h1, RES s p h h1 (fS g (p_im h 1066) to 600 t []) (fN g (p_im h 1066) to 600 t [] sh) (fD g (p_im h 1066) (p_im h q) to 600 t []) → Q h1) : CV (d + 5) 141 [.ref s, .int t, .int to] h Q := by
  have hs : s ≠ 0 := by have := D.1; omega
  have hq : q ≠ 0 := by have := D.2.1; omega
  have hp : p ≠ 0 := by have := D.2.2.1; omega
  obtain ⟨a1, a2, a3, a4, a5, a6, a7, a8, a9, b1, b2, b3, b4, b5, b6, b7⟩ := id S
  rw [e141, a2, a3, a4, a5, if_neg (by decide), if_neg (by decide), if_neg hq, if_neg hp]
  refine ⟨⟨a1, hs⟩, Or.inr (by rw [B.2.2.1.1]; decide), ⟨a1, hs⟩, Or.inr (by rw [b3]; decide), ⟨a1, hs⟩, Or.inr (by rw [b5]; decide), ⟨a1, hs⟩, Or.inr (by rw [b7.1]; decide), ⟨a1, by have := D.1; omega⟩, ?_⟩
  have F : FR (wS s) w0 h (p_wi h s 5 0) := FR.wi _ (Or.inl rfl)
  have T1 : SST (p_wi h s 5 0) s [] sh := by
    obtain ⟨t1, t2, t3, t4, t5, t6⟩ := T
    exact ⟨by rw [wi_im, if_pos ⟨rfl, rfl⟩]; rfl, by decide, fun i hi => absurd hi (Nat.not_lt_zero _), by rw [wi_im, if_neg (by omega), t4], t5, fun i hi => by rw [wi_im, if_neg (by omega), t6 i hi]⟩
  have R1 := (RES.rf (p := p) T).st D F T1
  refine l141 (Q := fun v h1 => onV v (Q h1)) D (p_im h 1066) (p_im h q) 600 0 t [] sh _ rfl (R1.lib B D) (R1.sco S) T1 (R1.fv D) (R1.pl D) (fun h1 R => K h1 ?_)
  have := R1.tr R
  rwa [Int32.zero_add] at this
end SCR3
