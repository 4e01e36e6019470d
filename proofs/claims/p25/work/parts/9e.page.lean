/-! A page: what is written only counts. -/
theorem in_of {t : Int32} {S n : Nat} (h0 : ¬ t < 0) (h1 : t < Int32.ofNat S) (hS : S ≤ n) (hn : n < 100000) : p_in t n := by
  rw [Int32.lt_iff_toInt_lt] at h0 h1
  rw [i_int (by omega)] at h1
  have h0 : ¬ t.toInt < 0 := h0
  refine ⟨by omega, ?_⟩
  show t.toInt.toNat < n
  omega
def PGS (h : PH) (p m : Nat) : Prop := p_kd h p = 11 ∧ 1000 ≤ p ∧ p_rm h p 0 = p + 1 ∧ p_kd h (p + 1) = 120 ∧ p_ln h (p + 1) = m ∧ m ≤ 6000
theorem PGS.fr {Wi Wr : Nat → Prop} {h h1 : PH} {p m : Nat} (P : PGS h p m) (F : FR Wi Wr h h1) (r : ¬ Wr p) : PGS h1 p m := by
  obtain ⟨a, b, c, e, f, g⟩ := P
  exact ⟨by rw [F.kd, a], b, by rw [F.rm r, c], by rw [F.kd, e], by rw [F.ln, f], g⟩
def wP (p a : Nat) : Prop := a = p ∨ a = p + 1
/-- p's length is n greater -/
def PG1 (p : Nat) (n : Int32) (h h1 : PH) : Prop := FR (wP p) w0 h h1 ∧ p_im h1 p 1 = p_im h p 1 + n
theorem PG1.rf {p : Nat} {h : PH} : PG1 p 0 h h := ⟨FR.rf, (Int32.add_zero _).symm⟩
theorem PG1.tr {p : Nat} {n k : Int32} {h h1 h2 : PH} (A : PG1 p n h h1) (B : PG1 p k h1 h2) : PG1 p (n + k) h h2 := ⟨A.1.tr B.1, by rw [B.2, A.2, Int32.add_assoc]⟩
theorem PG1.p {p m : Nat} {n : Int32} {h h1 : PH} (A : PG1 p n h h1) (P : PGS h p m) : PGS h1 p m := P.fr A.1 (fun q => q)
section PAGE
variable {d p m : Nat} {x : Int32} {h : PH}
theorem s132 {Q : PH → Prop} (P : PGS h p m) (K : ∀ h1, PG1 p 1 h h1 → Q h1) : CV (d + 1) 132 [.ref p, .int x] h Q := by
  obtain ⟨k, hp, r, kb, lb, hm⟩ := P
  have fin : ∀ h1, FR (wP p) w0 h h1 → p_im h1 p 1 = p_im h p 1 → wp d 132 16 [.val (.ref p), .unset] [] h1 (fun v h1 => onV v (Q h1)) := fun h1 F e => by
    rw [r132_16, F.kd, e]
    exact ⟨⟨k, by omega⟩, ⟨k, hp⟩, K _ ⟨F.tr (FR.wi _ (Or.inl rfl)), by rw [wi_im, if_pos ⟨rfl, rfl⟩]⟩⟩
  rw [e132, r, kb, lb]
  refine ⟨⟨k, by omega⟩, ?_⟩
  split
  · exact fin h FR.rf rfl
  · rename_i h0
    refine ⟨⟨k, by omega⟩, ⟨k, by omega⟩, ⟨by decide, by omega⟩, ?_⟩
    split
    · rename_i h1
      exact ⟨⟨k, by omega⟩, ⟨k, by omega⟩, ⟨⟨rfl, by omega⟩, in_of h0 h1 (Nat.le_refl _) (by omega)⟩, fin _ (FR.wi _ (Or.inr rfl)) (by rw [wi_im, if_neg (by omega)])⟩
    · exact fin h FR.rf rfl
/-- how many signs a number takes, unit by unit -/
def dgc (left : Int64) (b : Int32) (u : Int64) : Int32 := if b = 0 then (if lg_cmp left u < 0 then (if lg_cmp u 1 = 0 then 1 else 0) else 1) else 1
def dgs (left : Int64) : Nat → Int32 → Int64 → Int32
  | 0, _, _ => 0
  | k + 1, b, u => dgc left b u + dgs left k (dgc left b u) (u / 10)
def dl (x : Int32) : Int32 := if lg_cmp x.toInt64 0 < 0 then 1 + dgs (-x.toInt64) 10 0 1000000000 else dgs x.toInt64 10 0 1000000000
def dhb : Nat → Int64 → Bool
  | 0, u => !decide (0 < lg_cmp u 0)
  | k + 1, u => decide (0 < lg_cmp u 0) && (!decide (u = 0) && dhb k (u / 10))
theorem dhb_0 : dhb 10 1000000000 = true := by decide +kernel
theorem dl_small : ∀ k, k < 10 → dl (Int32.ofNat k) = 1 := by decide +kernel
theorem l134 {Q : Option Value → PH → Prop} (left : Int64) : ∀ (k : Nat) (b : Int32) (u : Int64) (h : PH), PGS h p m → dhb k u = true → (∀ h1, PG1 p (dgs left k b u) h h1 → Q none h1) → wp (d + 1) 134 17 [.val (.ref p), .unset, .val (.long left), .unset, .val (.int b), .val (.long u), .unset] [] h Q := by
  intro k
  induction k with
  | zero =>
    intro b u h P D K
    rw [r134_17, if_neg (by have := of_decide_eq_false (Bool.not_eq_true' _ ▸ D : decide (0 < lg_cmp u 0) = false); exact this)]
    exact K h PG1.rf
  | succ k ih =>
    intro b u h P D K
    have D1 : (decide (0 < lg_cmp u 0) && (!decide (u = 0) && dhb k (u / 10))) = true := D
    rw [Bool.and_eq_true, Bool.and_eq_true, Bool.not_eq_true', decide_eq_true_eq, decide_eq_false_iff_not] at D1
    obtain ⟨D1, D2, D3⟩ := D1
    have go : ∀ c, c = dgc left b u → wp (d + 1) 134 34 [.val (.ref p), .unset, .val (.long left), .unset, .unset, .val (.long u), .unset] [.int c] h Q := fun c hc => by
      have K1 : ∀ h1, PG1 p (c + dgs left k c (u / 10)) h h1 → Q none h1 := fun h1 q => K h1 (by rw [hc] at q; exact q)
      rw [r134_34]
      split
      · rename_i z
        rw [r134_47]
        refine ⟨by decide, ih c (u / 10) h P D3 (fun h1 q => K1 h1 ?_)⟩
        have := PG1.rf.tr q
        rwa [← z] at this
      · rename_i z
        have c1 : c = 1 := by
          rw [hc] at z ⊢
          unfold dgc at z ⊢
          split at z
          · split at z
            · split at z
              · rename_i q1 q2 q3; rw [if_pos q1, if_pos q2, if_pos q3]
              · exact absurd rfl z
            · rename_i q1 q2; rw [if_pos q1, if_neg q2]
          · rename_i q1; rw [if_neg q1]
        refine ⟨D2, by decide, ⟨P.1, by have := P.2.1; omega⟩, s132 P (fun h1 q1 => ?_)⟩
        rw [r134_47]
        exact ⟨by decide, ih c (u / 10) h1 (q1.p P) D3 (fun h2 q2 => K1 h2 (by have := q1.tr q2; rwa [← c1] at this))⟩
    rw [r134_17, if_pos D1]
    split
    · rename_i q1
      split
      · rename_i q2
        split
        · rename_i q3
          rw [r134_31]
          exact go 1 (by unfold dgc; rw [if_pos q1, if_pos q2, if_pos q3])
        · rename_i q3
          exact go 0 (by unfold dgc; rw [if_pos q1, if_pos q2, if_neg q3])
      · rename_i q2
        rw [r134_31]
        exact go 1 (by unfold dgc; rw [if_pos q1, if_neg q2])
    · rename_i q1
      rw [r134_31]
      exact go 1 (by unfold dgc; rw [if_neg q1])
theorem s134 {Q : PH → Prop} (P : PGS h p m) (K : ∀ h1, PG1 p (dl x) h h1 → Q h1) : CV (d + 2) 134 [.ref p, .int x] h Q := by
  rw [e134]
  split
  · rename_i z
    refine ⟨⟨P.1, by have := P.2.1; omega⟩, s132 P (fun h1 q1 => ?_)⟩
    rw [r134_13]
    exact l134 (d := d) (-x.toInt64) 10 0 1000000000 h1 (q1.p P) dhb_0 (fun h2 q2 => K h2 (by unfold dl; rw [if_pos z]; exact q1.tr q2))
  · rename_i z
    rw [r134_13]
    exact l134 (d := d) x.toInt64 10 0 1000000000 h P dhb_0 (fun h2 q2 => K h2 (by unfold dl; rw [if_neg z]; exact q2))
end PAGE
