/-! What is said: names, links, items. -/
/-- how many of the six letters are left -/
def n6 (s : List Nat) : Nat := (bif s.elem 0 then 0 else 1) + (bif s.elem 1 then 0 else 1) + (bif s.elem 2 then 0 else 1) + (bif s.elem 3 then 0 else 1) + (bif s.elem 4 then 0 else 1) + (bif s.elem 5 then 0 else 1)
theorem elem_snoc (s : List Nat) (x y : Nat) : (s ++ [x]).elem y = (s.elem y || Nat.beq y x) := by
  rw [Bool.eq_iff_iff]
  simp [List.elem_eq_contains, Nat.beq_eq]
theorem n6_snoc {s : List Nat} {x : Nat} (hx : x < 6) (hs : s.elem x = false) : n6 (s ++ [x]) + 1 = n6 s := by
  unfold n6
  simp only [elem_snoc]
  have : x = 0 ∨ x = 1 ∨ x = 2 ∨ x = 3 ∨ x = 4 ∨ x = 5 := by omega
  rcases this with rfl | rfl | rfl | rfl | rfl | rfl <;> simp only [hs] <;> simp [Nat.beq] <;> omega
/-- which letters have been named: the row of their numbers, the row of the letters -/
def NM (sm nm lt : Nat) (s : List Nat) (h : PH) : Prop := p_kd h nm = 100 ∧ 1000 ≤ nm ∧ nm < p_nx h ∧ p_ln h nm = 6 ∧ p_kd h sm = 12 ∧ 1000 ≤ sm ∧ sm < p_nx h ∧ p_rm h sm 14 = lt ∧ p_kd h lt = 100 ∧ 1000 ≤ lt ∧ lt < p_nx h ∧ p_ln h lt = 6 ∧ nm ≠ lt ∧
  p_im h sm 2 = Int32.ofNat s.length ∧ s.length + n6 s = 6 ∧ ∀ x, x < 6 → (s.elem x = true → ∃ j, j < 6 ∧ p_im h nm x = Int32.ofNat j) ∧ (s.elem x = false → p_im h nm x = -1)
theorem NM.ext {sm nm lt : Nat} {s : List Nat} {h h1 : PH} {W : Nat → Prop} (M : NM sm nm lt s h) (E : Ext h h1 W) (w1 : ¬ W nm) (w2 : ¬ W sm) : NM sm nm lt s h1 := by
  obtain ⟨a1, a2, a3, a4, a5, a6, a7, a8, a9, a10, a11, a12, a13, a14, a15, a16⟩ := M
  refine ⟨by rw [E.kd a3, a1], a2, E.lt a3, by rw [E.ln a3, a4], by rw [E.kd a7, a5], a6, E.lt a7, by rw [E.rm a7 w2, a8], by rw [E.kd a11, a9], a10, E.lt a11, by rw [E.ln a11, a12], a13, by rw [E.im a7 w2, a14], a15, fun x hx => ?_⟩
  rw [E.im a3 w1]
  exact a16 x hx
/-- links are said: a word, a blank, a name, a blank, and so on -/
def lks (t : Nat) (l : List Nat) : List Lx := l.flatMap (fun o => [(t, 0, 1), (38, 99 * 32 + o, 1)])
theorem l50 {d b L N U a j t : Nat} {xs : Nat → Int32} {Q : Option Value → PH → Prop} (hj : j < 58) (ht : 0 < (c_sb.getD j []).length) (ht2 : (c_sb.getD j []).length ≤ 10) (hw : lw (t, 0, 1) = c_sb.getD j []) (hN : N ≤ 300000) (hU : U ≤ 1000000) :
    ∀ (r : List Nat) (pre : List Nat) (l : List Int32) (h : PH), BT L xs N U h b l → RW h a (pre ++ r) → (∀ o ∈ r, o < 26) → l.length + 20 * r.length ≤ 19900 →
    (∀ h1, BT L xs N U h1 b (l ++ lbs (lks t r)) → EK k2 h h1 → Q none h1) →
    wp (d + 7) 50 7 [.val (.ref b), .val (.ref (100 + j)), .unset, .val (.ref a), .val (.int (Int32.ofNat (pre ++ r).length)), .val (.int (Int32.ofNat pre.length)), .unset] [] h Q := by
  intro r
  induction r with
  | nil =>
    intro pre l h B R ho hl K
    rw [r50_7, if_neg (by rw [List.append_nil, i_lt (by have := R.2.2.2.2.1; rw [List.append_nil] at this; omega) (by have := R.2.2.2.2.1; rw [List.append_nil] at this; omega)]; omega)]
    have := K h (by rw [show lbs (lks t []) = [] from rfl, List.append_nil]; exact B) EK.rf
    exact this
  | cons o r ih =>
    intro pre l h B R ho hl K
    obtain ⟨r1, r2, r3, r4, r5, r6⟩ := id R
    have hlen : (pre ++ o :: r).length = pre.length + (r.length + 1) := by rw [List.length_append]; rfl
    have ho1 : o < 26 := ho o List.mem_cons_self
    simp only [List.length_cons] at hl
    have ev : p_im h a pre.length = Int32.ofNat o := by rw [r6 _ (by omega)]; congr 1; simp [List.getD]
    rw [r50_7, if_pos (by rw [i_lt (by omega) (by omega)]; omega), r1, r4, i_nat (by omega), ev]
    refine ⟨⟨⟨rfl, by omega⟩, i_in (by omega) (by omega)⟩, B.kd, bt_s B hj ht (by omega) (by omega) hN hU (fun h1 B1 E1 => ⟨B1.kd, ?_⟩)⟩
    rw [show (32 : Int32) = Int32.ofNat 32 from rfl]
    refine bt_c B1 (by decide) (by rw [List.length_append]; omega) hN hU (fun h2 B2 E2 => ?_)
    rw [show (99 : Int32) = Int32.ofNat 99 from rfl]
    refine bt_n B2 (by decide) ho1 (by rw [List.length_append, List.length_append, List.length_singleton]; omega) hN hU (fun h3 B3 E3 => ⟨B3.kd, ?_⟩)
    refine bt_c B3 (by decide) (by rw [List.length_append, List.length_append, List.length_append, List.length_singleton]; simp only [List.length_cons, List.length_nil]; omega) hN hU (fun h4 B4 E4 => ?_)
    have E : EK k2 h h4 := ((E1.tr E2).tr E3).tr E4
    have R4 : RW h4 a ((pre ++ [o]) ++ r) := by
      rw [List.append_assoc]
      exact R.ext E (fun q => by rw [r1] at q; rcases q with q | q <;> cases q)
    have q := ih (pre ++ [o]) _ h4 B4 R4 (fun x hx => ho x (List.mem_cons_of_mem _ hx)) (by simp only [List.length_append, List.length_cons, List.length_nil]; omega) (fun h5 B5 E5 => K h5 ?_ (E.tr E5))
    · rw [i_ofNat1, i_add]
      rw [show (pre ++ [o] ++ r).length = (pre ++ o :: r).length from by rw [List.append_assoc]; rfl, show (pre ++ [o]).length = pre.length + 1 from by rw [List.length_append]; rfl] at q
      exact q
    · have e : lbs (lks t (o :: r)) = c_sb.getD j [] ++ ([Int32.ofNat 32] ++ ([Int32.ofNat 99, Int32.ofNat (97 + o)] ++ ([Int32.ofNat 32] ++ lbs (lks t r)))) := by
        show lbs ([(t, 0, 1), (38, 99 * 32 + o, 1)] ++ lks t r) = _
        rw [lbs_app]
        show (lw (t, 0, 1) ++ [32]) ++ (([Int32.ofNat ((99 * 32 + o) / 32), Int32.ofNat (97 + (99 * 32 + o) % 32)] ++ [32]) ++ []) ++ lbs (lks t r) = _
        rw [hw, show (99 * 32 + o) / 32 = 99 from by omega, show (99 * 32 + o) % 32 = o from by omega]
        simp only [List.append_assoc, List.append_nil]
        rfl
      rw [e]
      simp only [List.append_assoc] at B5 ⊢
      exact B5
theorem s50 {d b L N U a j t : Nat} {xs : Nat → Int32} {Q : PH → Prop} {l : List Int32} {r : List Nat} {h : PH} (hj : j < 58) (ht : 0 < (c_sb.getD j []).length) (ht2 : (c_sb.getD j []).length ≤ 10) (hw : lw (t, 0, 1) = c_sb.getD j []) (hN : N ≤ 300000) (hU : U ≤ 1000000)
    (B : BT L xs N U h b l) (R : RW h a r) (ho : ∀ o ∈ r, o < 26) (hl : l.length + 20 * r.length ≤ 19900) (K : ∀ h1, BT L xs N U h1 b (l ++ lbs (lks t r)) → EK k2 h h1 → Q h1) : CV (d + 8) 50 [.ref b, .ref (100 + j), .ref a] h Q := by
  obtain ⟨r1, r2, r3, r4, -⟩ := id R
  rw [e50, r1, r4]
  refine ⟨⟨by decide, by omega⟩, ?_⟩
  exact l50 (d := d) (j := j) (Q := fun v h1 => onV v (Q h1)) hj ht ht2 hw hN hU r [] l h B R ho hl (fun h1 B1 E1 => K h1 B1 E1)
