/-! A contract: what it is made of; what holds is gathered. -/
def SSH (h : PH) (s : Nat) (sh : List Int32) : Prop := p_im h s 7 = Int32.ofNat sh.length ∧ sh.length ≤ 600 ∧ ∀ i, i < sh.length → p_im h (s + 2) i = sh.getD i 0
def SCB (h : PH) (s : Nat) : Prop := p_kd h s = 9 ∧ p_rm h s 4 = s + 1 ∧ p_rm h s 6 = s + 2 ∧ p_kd h (s + 1) = 100 ∧ p_ln h (s + 1) = 64 ∧ p_kd h (s + 2) = 100 ∧ p_ln h (s + 2) = 600
def CTF (h : PH) (f : Nat) : Prop := p_kd h f = 8 ∧ p_rm h f 0 = f + 1 ∧ p_rm h f 1 = f + 2 ∧ p_rm h f 2 = f + 3 ∧ (p_kd h (f + 1) = 100 ∧ p_ln h (f + 1) = 60) ∧ (p_kd h (f + 2) = 100 ∧ p_ln h (f + 2) = 60) ∧ (p_kd h (f + 3) = 100 ∧ p_ln h (f + 3) = 60)
def F66 (h : PH) : Prop := p_kd h 1066 = 100 ∧ p_ln h 1066 = 10
def CTS (h : PH) (c m : Nat) : Prop := p_kd h c = 7 ∧ 1067 ≤ c ∧ p_rm h c 0 = c + 13 ∧ p_rm h c 1 = c + 1 ∧ p_rm h c 2 = c + 5 ∧ p_rm h c 5 = c + 8 ∧ p_rm h c 6 = c + 9 ∧ p_rm h c 7 = c + 10 ∧ p_rm h c 8 = c + 11 ∧ p_rm h c 9 = c + 12 ∧
  (p_kd h (c + 8) = 100 ∧ p_ln h (c + 8) = 16) ∧ (p_kd h (c + 9) = 100 ∧ p_ln h (c + 9) = 24) ∧ (p_kd h (c + 10) = 100 ∧ p_ln h (c + 10) = 24) ∧ (p_kd h (c + 11) = 100 ∧ p_ln h (c + 11) = 24) ∧ (p_kd h (c + 12) = 100 ∧ p_ln h (c + 12) = 24) ∧ CTF h (c + 1) ∧ SCB h (c + 5) ∧ DRS h (c + 13) m ∧ F66 h
def wCt (c a : Nat) : Prop := c ≤ a ∧ a ≤ c + 19
def wCs (c a : Nat) : Prop := a = c + 5
/-- whether a clause's test holds -/
def tstf (g : PH) (fv : Nat → Int32) (i : Nat) : Bool := decide (p_im g (1047 + i) 7 = p_im g (1047 + i) 8) || !decide (ppv (fS g fv (p_im g (1047 + i) 8) 600 (p_im g (1047 + i) 7) []) = 0)
def hld (g : PH) (fv : Nat → Int32) : Nat → Nat
  | 0 => 0
  | k + 1 => bif tstf g fv k then hld g fv k ||| 2 ^ k else an (hld g fv k) (2 ^ k)
def shT (g : PH) (fv : Nat → Int32) : Nat → List Int32
  | 0 => []
  | k + 1 => fN g fv (p_im g (1047 + k) 8) 600 (p_im g (1047 + k) 7) [] (shT g fv k)
theorem hld_lt (g : PH) (fv : Nat → Int32) : ∀ k, hld g fv k < 2 ^ k := by
  intro k
  induction k with
  | zero => exact (by decide : (0 : Nat) < 1)
  | succ k ih =>
    have e : 2 ^ (k + 1) = 2 ^ k + 2 ^ k := by rw [Nat.pow_succ]; omega
    show (bif tstf g fv k then hld g fv k ||| 2 ^ k else an (hld g fv k) (2 ^ k)) < 2 ^ (k + 1)
    cases tstf g fv k with
    | true => exact Nat.or_lt_two_pow (by omega) (Nat.pow_lt_pow_right (by decide) (by omega))
    | false =>
      have := an_lt (b := 2 ^ k) ih
      show an (hld g fv k) (2 ^ k) < 2 ^ (k + 1)
      omega
section GATH
variable {d L n om c m s q p : Nat} {xs : Nat → Int32} {g h : PH} {nd br af : Nat → Nat} {sh : List Int32}
theorem SST.ssh {stk : List Int32} (T : SST h s stk sh) : SSH h s sh := T.2.2.2
theorem SSH.fr {Wi Wr : Nat → Prop} {h1 : PH} (S : SSH h s sh) (F : FR Wi Wr h h1) (r0 : ¬ Wi s) (r2 : ¬ Wi (s + 2)) : SSH h1 s sh := by
  obtain ⟨a4, a5, a6⟩ := S
  exact ⟨by rw [F.im r0, a4], a5, fun i hi => by rw [F.im r2, a6 i hi]⟩
theorem CTS.fr {Wi Wr : Nat → Prop} {h1 : PH} (S : CTS h c m) (F : FR Wi Wr h h1) (r : ∀ a, Wr a → a = c + 5 ∨ a < c ∨ c + 20 ≤ a) (r5 : Wr (c + 5) → p_rm h1 (c + 5) 4 = p_rm h (c + 5) 4 ∧ p_rm h1 (c + 5) 6 = p_rm h (c + 5) 6) : CTS h1 c m := by
  have n0 : ∀ a, c ≤ a → a < c + 20 → a ≠ c + 5 → ¬ Wr a := fun a h1 h2 h3 z => by have := r a z; omega
  have e5 : p_rm h1 (c + 5) 4 = p_rm h (c + 5) 4 ∧ p_rm h1 (c + 5) 6 = p_rm h (c + 5) 6 := by
    by_cases z : Wr (c + 5)
    · exact r5 z
    · exact ⟨F.rm z 4, F.rm z 6⟩
  have rc := n0 c (by omega) (by omega) (by omega)
  have rf := n0 (c + 1) (by omega) (by omega) (by omega)
  have rd := n0 (c + 13) (by omega) (by omega) (by omega)
  have re := n0 (c + 13 + 5) (by omega) (by omega) (by omega)
  obtain ⟨a1, a2, a3, a4, a5, a6, a7, a8, a9, b1, ⟨b2, b3⟩, ⟨b4, b5⟩, ⟨b6, b7⟩, ⟨b8, b9⟩, ⟨c1, c2⟩, ⟨f1, f2, f3, f4, ⟨f5, f6⟩, ⟨f7, f8⟩, ⟨f9, f0⟩⟩, ⟨s1, s2, s3, s4, s5, s6, s7⟩, dr, q1, q2⟩ := S
  refine ⟨by rw [F.kd, a1], a2, by rw [F.rm rc, a3], by rw [F.rm rc, a4], by rw [F.rm rc, a5], by rw [F.rm rc, a6], by rw [F.rm rc, a7], by rw [F.rm rc, a8], by rw [F.rm rc, a9], by rw [F.rm rc, b1], ⟨by rw [F.kd, b2], by rw [F.ln, b3]⟩, ⟨by rw [F.kd, b4], by rw [F.ln, b5]⟩, ⟨by rw [F.kd, b6], by rw [F.ln, b7]⟩, ⟨by rw [F.kd, b8], by rw [F.ln, b9]⟩, ⟨by rw [F.kd, c1], by rw [F.ln, c2]⟩, ?_, ?_, dr.fr F rd re, by rw [F.kd, q1], by rw [F.ln, q2]⟩
  · exact ⟨by rw [F.kd, f1], by rw [F.rm rf, f2], by rw [F.rm rf, f3], by rw [F.rm rf, f4], ⟨by rw [F.kd, f5], by rw [F.ln, f6]⟩, ⟨by rw [F.kd, f7], by rw [F.ln, f8]⟩, ⟨by rw [F.kd, f9], by rw [F.ln, f0]⟩⟩
  · exact ⟨by rw [F.kd, s1], by rw [e5.1, s2], by rw [e5.2, s3], by rw [F.kd, s4], by rw [F.ln, s5], by rw [F.kd, s6], by rw [F.ln, s7]⟩
theorem CTS.fr0 {Wi : Nat → Prop} {h1 : PH} (S : CTS h c m) (F : FR Wi w0 h h1) : CTS h1 c m := S.fr F (fun _ z => z.elim) (fun z => z.elim)
/-- a scribe is opened -/
theorem s128 {Q : PH → Prop} (S : SCB h s) (hs : 1067 ≤ s) (P : PGS h p m) (f6 : F66 h) (kq : p_kd h q = 100 ∧ p_ln h q = 16) (hp : p ≠ s) (K : ∀ h1, FR (fun a => a = s) (fun a => a = s) h h1 → (∀ j, j ≠ 7 → p_im h1 s j = p_im h s j) → p_rm h1 s 4 = p_rm h s 4 → p_rm h1 s 6 = p_rm h s 6 → SCO h1 s q p m → SSH h1 s [] → Q h1) : CV (d + 1) 128 [.ref s, .ref 1034, .ref 1066, .ref q, .ref p] h Q := by
  obtain ⟨s1, s2, s3, s4, s5, s6, s7⟩ := S
  have F : FR (fun a => a = s) (fun a => a = s) h (p_wi (p_wr (p_wr (p_wr (p_wr h s 0 1034) s 1 1066) s 2 q) s 3 p) s 7 0) := ((((FR.wr (Wi := fun a => a = s) (Wr := fun a => a = s) (a := s) _ rfl).tr (FR.wr (a := s) _ rfl)).tr (FR.wr (a := s) _ rfl)).tr (FR.wr (a := s) _ rfl)).tr (FR.wi (a := s) _ rfl)
  have r : ∀ j, p_rm (p_wi (p_wr (p_wr (p_wr (p_wr h s 0 1034) s 1 1066) s 2 q) s 3 p) s 7 0) s j = if j = 3 then p else if j = 2 then q else if j = 1 then 1066 else if j = 0 then 1034 else p_rm h s j := fun j => by
    rw [wi_rm, wr_rm, wr_rm, wr_rm, wr_rm]
    by_cases z3 : j = 3
    · rw [if_pos ⟨rfl, z3⟩, if_pos z3]
    · rw [if_neg (fun y => z3 y.2), if_neg z3]
      by_cases z2 : j = 2
      · rw [if_pos ⟨rfl, z2⟩, if_pos z2]
      · rw [if_neg (fun y => z2 y.2), if_neg z2]
        by_cases z1 : j = 1
        · rw [if_pos ⟨rfl, z1⟩, if_pos z1]
        · rw [if_neg (fun y => z1 y.2), if_neg z1]
          by_cases z0 : j = 0
          · rw [if_pos ⟨rfl, z0⟩, if_pos z0]
          · rw [if_neg (fun y => z0 y.2), if_neg z0]
  rw [e128]
  simp only [wr_kd]
  have k9 : p_kd h s = 9 ∧ 1000 ≤ s := ⟨s1, by omega⟩
  refine ⟨k9, k9, k9, k9, k9, K _ F (fun j hj => by rw [wi_im, if_neg (by omega)]; rfl) (by rw [r]; rfl) (by rw [r]; rfl) ⟨s1, by rw [r]; rfl, by rw [r]; rfl, by rw [r]; rfl, by rw [r]; rfl, by rw [r]; exact s2, by rw [r]; exact s3, s4, s5, s6, s7, f6.1, f6.2, kq.1, kq.2, P.fr F hp⟩ ⟨by rw [wi_im, if_pos ⟨rfl, rfl⟩]; rfl, by decide, fun i hi => absurd hi (Nat.not_lt_zero _)⟩⟩
theorem s141h {t to : Int32} {Q : PH → Prop} (B : LIB L xs g h) (S : SCO h s q p m) (D : SDJ s q p) (T : SSH h s sh) (K : ∀ h1, RES s p h h1 (fS g (p_im h 1066) to 600 t []) (fN g (p_im h 1066) to 600 t [] sh) (fD g (p_im h 1066) (p_im h q) to 600 t []) → Q h1) : CV (d + 5) 141 [.ref s, .int t, .int to] h Q := by
  have hs : s ≠ 0 := by have := D.1; omega
  have hq : q ≠ 0 := by have := D.2.1; omega
  have hp : p ≠ 0 := by have := D.2.2.1; omega
  obtain ⟨a1, a2, a3, a4, a5, a6, a7, a8, a9, b1, b2, b3, b4, b5, b6, b7⟩ := id S
  rw [e141, a2, a3, a4, a5, if_neg (by decide), if_neg (by decide), if_neg hq, if_neg hp]
  refine ⟨⟨a1, hs⟩, Or.inr (by rw [B.2.2.1.1]; decide), ⟨a1, hs⟩, Or.inr (by rw [b3]; decide), ⟨a1, hs⟩, Or.inr (by rw [b5]; decide), ⟨a1, hs⟩, Or.inr (by rw [b7.1]; decide), ⟨a1, by have := D.1; omega⟩, ?_⟩
  have F : FR (wS s) w0 h (p_wi h s 5 0) := FR.wi _ (Or.inl rfl)
  have T1 : SST (p_wi h s 5 0) s [] sh := by
    obtain ⟨t4, t5, t6⟩ := T
    exact ⟨by rw [wi_im, if_pos ⟨rfl, rfl⟩]; rfl, by decide, fun i hi => absurd hi (Nat.not_lt_zero _), by rw [wi_im, if_neg (by omega), t4], t5, fun i hi => by rw [wi_im, if_neg (by omega), t6 i hi]⟩
  have R1 : RES s p h (p_wi h s 5 0) [] sh 0 := ⟨F.up (fun _ z => Or.inl z) (fun _ z => z), T1, by rw [F.im (by unfold wS; unfold SDJ at D; omega), Int32.add_zero]⟩
  refine l141 (Q := fun v h1 => onV v (Q h1)) D (p_im h 1066) (p_im h q) 600 0 t [] sh _ rfl (R1.lib B D) (R1.sco S) T1 (R1.fv D) (R1.pl D) (fun h1 R => K h1 ?_)
  have := R1.tr R
  rwa [Int32.zero_add] at this
theorem CTS.sdj (S : CTS h c m) : SDJ (c + 5) (c + 15) (c + 18) := by have := S.2.1; unfold SDJ; omega
theorem RES.ct {h1 : PH} {stk : List Int32} {y : Int32} (R : RES (c + 5) (c + 18) h h1 stk sh y) : FR (wCt c) (wCs c) h h1 := R.1.up (fun a z => by unfold wSP wS wP at z; unfold wCt; omega) (fun _ z => z.elim)
theorem LIB.ct {h1 : PH} (B : LIB L xs g h) (hc : 1067 ≤ c) (F : FR (wCt c) (wCs c) h h1) : LIB L xs g h1 := B.fr F (fun a q1 q2 => by unfold wL at q1; unfold wCt at q2; omega) (fun a q1 q2 => by unfold wL at q1; unfold wCs at q2; omega)
end GATH
