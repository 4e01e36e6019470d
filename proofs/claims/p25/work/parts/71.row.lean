/-- a row of small numbers -/
def RW (h : PH) (a : Nat) (l : List Nat) : Prop := p_kd h a = 100 ∧ 1000 ≤ a ∧ a < p_nx h ∧ p_ln h a = l.length ∧ l.length ≤ 1000000 ∧ ∀ j, j < l.length → p_im h a j = Int32.ofNat (l.getD j 0)
theorem RW.ext {h h1 : PH} {a : Nat} {l : List Nat} {W : Nat → Prop} (R : RW h a l) (E : Ext h h1 W) (n1 : ¬ W a) : RW h1 a l := by
  obtain ⟨r1, r2, r3, r4, r5, r6⟩ := R
  exact ⟨by rw [E.kd r3, r1], r2, E.lt r3, by rw [E.ln r3, r4], r5, fun j hj => by rw [E.im r3 n1, r6 j hj]⟩
theorem getD_snoc {l : List Nat} {w j : Nat} (hj : j < l.length) : (l ++ [w]).getD j 0 = l.getD j 0 := by simp [List.getD, List.getElem?_append_left hj]
theorem getD_last {l : List Nat} {w : Nat} : (l ++ [w]).getD l.length 0 = w := by simp [List.getD]
theorem l47 {d n self m a : Nat} {x : Int32} {Q : Option Value → PH → Prop} (hn : 0 < n) (hn2 : n < 1000) (hs : self < n) (h2 : m ≠ 0 → 2 ≤ n) (hm : m ≤ 1000) (ha : 1000 ≤ a) : ∀ (k : Nat) (l : List Nat) (h : PH), l.length + k = m → p_kd h a = 100 → p_ln h a = m →
    (∀ j, j < l.length → p_im h a j = Int32.ofNat (l.getD j 0)) → (∀ o ∈ l, o < n ∧ o ≠ self) →
    (∀ (h1 : PH) (l1 : List Nat), l1.length = m → (∀ j, j < m → p_im h1 a j = Int32.ofNat (l1.getD j 0)) → (∀ o ∈ l1, o < n ∧ o ≠ self) → p_nx h1 = p_nx h → p_us h1 = p_us h → p_kd h1 = p_kd h → p_ln h1 = p_ln h → p_rm h1 = p_rm h → (∀ b j, b ≠ a → p_im h1 b j = p_im h b j) → Q (some (.ref a)) h1) →
    wp (d + 1) 47 16 [.val (.int x), .val (.int (Int32.ofNat n)), .val (.int (Int32.ofNat self)), .unset, .unset, .val (.ref a), .val (.int (Int32.ofNat l.length))] [] h Q := by
  intro k
  induction k with
  | zero =>
    intro l h e hk hl hv ho K
    have e : l.length = m := by omega
    rw [r47_16, hk, hl, if_neg (by rw [i_lt (by omega) (by omega)]; omega)]
    exact ⟨⟨rfl, by omega⟩, K h l e (fun j hj => hv j (by omega)) ho rfl rfl rfl rfl rfl (fun _ _ _ => rfl)⟩
  | succ k ih =>
    intro l h e hk hl hv ho K
    have a0 : ¬ a = 0 := by omega
    rw [r47_16, hk, hl, if_pos (by rw [i_lt (by omega) (by omega)]; omega)]
    refine ⟨⟨rfl, a0⟩, s15 hn (by omega) (fun w hw => ?_)⟩
    rw [wi_kd, wi_ln, hk, hl, i_nat (by omega), wi_im, if_pos (show a = a ∧ l.length = l.length from ⟨rfl, rfl⟩)]
    have hin : p_in (Int32.ofNat l.length) m := i_in (by omega) (by omega)
    refine ⟨⟨⟨rfl, ha⟩, hin⟩, ⟨⟨rfl, a0⟩, hin⟩, ?_⟩
    have go : ∀ (w1 : Nat) (h1 : PH), w1 < n → w1 ≠ self → p_nx h1 = p_nx h → p_us h1 = p_us h → p_kd h1 = p_kd h → p_ln h1 = p_ln h → p_rm h1 = p_rm h → p_im h1 a l.length = Int32.ofNat w1 → (∀ b j, ¬ (b = a ∧ j = l.length) → p_im h1 b j = p_im h b j) →
        wp (d + 1) 47 45 [.val (.int x), .val (.int (Int32.ofNat n)), .val (.int (Int32.ofNat self)), .unset, .unset, .val (.ref a), .val (.int (Int32.ofNat l.length))] [] h1 Q := by
      intro w1 h1 g1 g2 g3 g4 g5 g6 g7 g8 g9
      rw [r47_45, show (1 : Int32) = Int32.ofNat 1 from rfl, i_add]
      have q := ih (l ++ [w1]) h1 (by rw [List.length_append]; show l.length + 1 + k = m; omega) (by rw [g5, hk]) (by rw [g6, hl]) (fun j hj => ?_) (fun o ho1 => ?_) (fun h3 l3 m1 m2 m3 m4 m5 m6 m7 m8 m9 => ?_)
      · rw [List.length_append] at q
        exact q
      · rw [List.length_append] at hj
        have hj : j < l.length + 1 := hj
        by_cases hz : j < l.length
        · rw [g9 _ _ (by omega), hv j hz, getD_snoc hz]
        · obtain rfl : j = l.length := by omega
          rw [g8, getD_last]
      · rcases List.mem_append.mp ho1 with z | z
        · exact ho o z
        · rw [List.mem_singleton.mp z]; exact ⟨g1, g2⟩
      · exact K h3 l3 m1 m2 m3 (by rw [m4, g3]) (by rw [m5, g4]) (by rw [m6, g5]) (by rw [m7, g6]) (by rw [m8, g7]) (fun b j hb => by rw [m9 b j hb, g9 b j (fun z => hb z.1)])
    split
    · rename_i hq
      have hn3 := h2 (by omega)
      rw [i_eq (by omega) (by omega)] at hq
      rw [show (1 : Int32) = Int32.ofNat 1 from rfl, i_add, i_mod (by omega) (by omega)]
      refine ⟨?_, ⟨⟨rfl, ha⟩, hin⟩, go ((self + 1) % n) _ (Nat.mod_lt _ hn) ?_ rfl rfl rfl rfl rfl ?_ (fun b j hb => ?_)⟩
      · rw [show (0 : Int32) = Int32.ofNat 0 from rfl, i_eq (by omega) (by omega)]; omega
      · intro z
        by_cases hz : self + 1 < n
        · rw [Nat.mod_eq_of_lt hz] at z; omega
        · have : self + 1 = n := by omega
          rw [this, Nat.mod_self] at z; omega
      · rw [wi_im, if_pos ⟨rfl, rfl⟩]
      · rw [wi_im, if_neg hb, wi_im, if_neg hb]
    · rename_i hq
      rw [i_eq (by omega) (by omega)] at hq
      refine go w _ hw hq rfl rfl rfl rfl rfl ?_ (fun b j hb => ?_)
      · rw [wi_im, if_pos ⟨rfl, rfl⟩]
      · rw [wi_im, if_neg hb]
/-- a row of some clauses, none of them the clause itself -/
theorem s47 {d n self most : Nat} {x : Int32} {h : PH} {Q : Nat → PH → Prop} (hn : 0 < n) (hn2 : n < 1000) (hs : self < n) (hm : most < 1000) (h1000 : 1000 ≤ p_nx h) (c1 : p_nx h + 1 ≤ p_CN) (c2 : p_us h + most ≤ p_CS)
    (K : ∀ (h1 : PH) (l : List Nat), RW h1 (p_nx h) l → l.length ≤ most → (∀ o ∈ l, o < n ∧ o ≠ self) → Ext h h1 (fun _ => False) → p_nx h1 = p_nx h + 1 → p_us h1 ≤ p_us h + most → Q (p_nx h) h1) :
    CR (d + 2) 47 [.int x, .int (Int32.ofNat n), .int (Int32.ofNat self), .int (Int32.ofNat most)] h Q := by
  have go : ∀ m, m ≤ most → (m ≠ 0 → 2 ≤ n) → wp (d + 1) 47 12 [.val (.int x), .val (.int (Int32.ofNat n)), .val (.int (Int32.ofNat self)), .unset, .unset, .unset, .unset] [.int (Int32.ofNat m)] h (fun v h1 => onR v (fun x => Q x h1)) := by
    intro m g1 g2
    rw [r47_12, i_nat (by omega)]
    refine ⟨⟨i_neg (by omega), c1, by omega⟩, ?_⟩
    have q := l47 (d := d) (n := n) (self := self) (m := m) (a := p_nx h) (x := x) (Q := fun v h1 => onR v (fun x => Q x h1)) hn hn2 hs g2 (by omega) h1000 m [] (p_new h 100 m m) (Nat.zero_add m) (by rw [pn_kd, if_pos rfl]) (by rw [pn_ln, if_pos rfl]) (fun j hj => absurd hj (Nat.not_lt_zero _)) (fun o ho => absurd ho List.not_mem_nil) (fun h1 l1 m1 m2 m3 m4 m5 m6 m7 m8 m9 => ?_)
    · exact q
    · have E : Ext h h1 (fun _ => False) := by
        refine ⟨by rw [m4, pn_nx]; omega, by rw [m5, pn_us]; omega, fun a ha => ?_, fun a ha _ => ⟨fun j => ?_, fun j => ?_⟩⟩
        · rw [m6, m7, pn_kd, pn_ln, if_neg (by omega), if_neg (by omega)]
          exact ⟨rfl, rfl⟩
        · rw [m9 a j (by omega), pn_im, if_neg (by omega)]
        · rw [m8, pn_rm, if_neg (by omega)]
      exact K h1 l1 ⟨by rw [m6, pn_kd, if_pos rfl], h1000, by rw [m4, pn_nx]; omega, by rw [m7, pn_ln, if_pos rfl, m1], by omega, fun j hj => m2 j (by omega)⟩ (by omega) m3 E (by rw [m4, pn_nx]) (by rw [m5, pn_us]; omega)
  rw [e47, show (1 : Int32) = Int32.ofNat 1 from rfl, i_add]
  refine s15 (by omega) (by omega) (fun w hw => ?_)
  split
  · exact go 0 (Nat.zero_le _) (fun z => absurd rfl z)
  · rename_i hq
    rw [show (2 : Int32) = Int32.ofNat 2 from rfl, i_lt (by omega) (by omega)] at hq
    exact go w (by omega) (fun _ => by omega)
