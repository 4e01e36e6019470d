/-! Whether the text is short: what is counted are the lexemes. -/
theorem if_eqn {c k : Nat} {x : Int32} {A B : Prop} (hx : Int32.ofNat k = x) (hc : c < 2147483648) (hk : k < 2147483648) (ha : c = k → A) (hb : c ≠ k → B) : if Int32.ofNat c = x then A else B := by
  subst hx
  split
  · rename_i z; rw [i_eq hc hk] at z; exact ha z
  · rename_i z; rw [i_eq hc hk] at z; exact hb z
theorem if_ltn {c k : Nat} {x : Int32} {A B : Prop} (hx : Int32.ofNat k = x) (hc : c < 2147483648) (hk : k < 2147483648) (ha : c < k → A) (hb : ¬ c < k → B) : if Int32.ofNat c < x then A else B := by
  subst hx
  split
  · rename_i z; rw [i_lt hc hk] at z; exact ha z
  · rename_i z; rw [i_lt hc hk] at z; exact hb z
theorem if_gtn {c k : Nat} {x : Int32} {A B : Prop} (hx : Int32.ofNat k = x) (hc : c < 2147483648) (hk : k < 2147483648) (ha : k < c → A) (hb : ¬ k < c → B) : if x < Int32.ofNat c then A else B := by
  subst hx
  split
  · rename_i z; rw [i_lt hk hc] at z; exact ha z
  · rename_i z; rw [i_lt hk hc] at z; exact hb z
/-- a letter or a digit -/
def al (c : Nat) : Bool := (Nat.ble 97 c && Nat.ble c 122) || (Nat.ble 48 c && Nat.ble c 57)
theorem al_iff {c : Nat} : al c = true ↔ (97 ≤ c ∧ c ≤ 122) ∨ (48 ≤ c ∧ c ≤ 57) := by
  unfold al
  rw [Bool.or_eq_true, Bool.and_eq_true, Bool.and_eq_true, Nat.ble_eq, Nat.ble_eq, Nat.ble_eq, Nat.ble_eq]
/-- what is counted -/
def sf : Bool → Nat → Bool → List Nat → Nat
  | _, t, _, [] => t
  | pa, t, q, c :: r => bif Nat.beq c 39 then sf false (bif q then t else t + 1) (!q) r else bif q then sf (al c) t true r else bif Nat.beq c 32 then sf false t false r else sf (al c) (bif al c && pa then t else t + 1) false r
def lal (l : List Nat) : Bool := match l.getLast? with
  | none => false
  | some c => al c
theorem lal_snoc (l : List Nat) (c : Nat) : lal (l ++ [c]) = al c := by
  unfold lal
  rw [List.getLast?_append]
  rfl
def bi (b : Bool) : Int32 := bif b then 1 else 0
theorem l57 {d b v : Nat} {tx : List Nat} {h : PH} {Q : Option Value → PH → Prop} (S : SB h b v (tx.map Int32.ofNat)) (hl : tx.length ≤ 100000) (hc : ∀ c ∈ tx, c < 128) (T : Nat) (K0 : Q (some (.int 0)) h) (K1 : T ≤ 600 → tx.length ≤ 2980 → Q (some (.int 1)) h) :
    ∀ (suf pre : List Nat) (t : Nat) (q : Bool), tx = pre ++ suf → t ≤ pre.length → sf (lal pre) t q suf = T →
    wp (d + 4) 57 6 [.val (.ref b), .val (.int (Int32.ofNat t)), .val (.int (bi q)), .val (.int (Int32.ofNat pre.length)), .unset, .unset, .unset] [] h Q := by
  intro suf
  induction suf with
  | nil =>
    intro pre t q e ht hT
    rw [List.append_nil] at e
    have hT : t = T := hT
    have b0 : ¬ b = 0 := by have := S.2.1; omega
    rw [r57_6]
    refine ⟨⟨S.1, b0⟩, s35 S ?_⟩
    rw [List.length_map, e, if_neg (by rw [i_lt (by rw [← e]; omega) (by rw [← e]; omega)]; omega)]
    refine if_gtn (k := 600) rfl (by rw [← e] at ht; omega) (by decide) (fun _ => ⟨Or.inl rfl, K0⟩) (fun z => ⟨⟨S.1, b0⟩, s35 S ?_⟩)
    rw [List.length_map]
    refine if_gtn (k := 2980) rfl (by omega) (by decide) (fun _ => ⟨Or.inl rfl, K0⟩) (fun z2 => ⟨Or.inr rfl, K1 (by omega) (by omega)⟩)
  | cons c suf ih =>
    intro pre t q e ht hT
    have b0 : ¬ b = 0 := by have := S.2.1; omega
    have hlen : tx.length = pre.length + (suf.length + 1) := by rw [e, List.length_append]; rfl
    have c128 : c < 128 := hc c (by rw [e]; exact List.mem_append_right _ List.mem_cons_self)
    have ec : (tx.map Int32.ofNat).getD pre.length 0 = Int32.ofNat c := by rw [e]; simp [List.getD]
    have nx : ∀ t1 q1, t1 ≤ t + 1 → sf (al c) t1 q1 suf = T → wp (d + 4) 57 105 [.val (.ref b), .val (.int (Int32.ofNat t1)), .val (.int (bi q1)), .val (.int (Int32.ofNat pre.length)), .unset, .unset, .unset] [] h Q := by
      intro t1 q1 h1 h2
      rw [r57_105, i_ofNat1, i_add]
      have z := ih (pre ++ [c]) t1 q1 (by rw [e, List.append_assoc]; rfl) (by rw [List.length_append]; show t1 ≤ pre.length + 1; omega) (by rw [lal_snoc]; exact h2)
      rw [List.length_append] at z
      exact z
    rw [r57_6]
    refine ⟨⟨S.1, b0⟩, s35 S ?_⟩
    rw [List.length_map, if_pos (by rw [i_lt (by omega) (by omega)]; omega)]
    refine ⟨⟨S.1, b0⟩, s56 S (by rw [List.length_map]; omega) c128 ec ?_⟩
    refine if_eqn (k := 39) rfl (by omega) (by decide) (fun z => ?_) (fun z => ?_)
    · have hT : sf (al c) (bif q then t else t + 1) (!q) suf = T := by
        rw [← hT, z]; rfl
      cases q with
      | false =>
        rw [if_pos (by decide), r57_22, if_neg (by decide), r57_29, i_ofNat1, i_add]
        exact nx (t + 1) true (Nat.le_refl _) hT
      | true =>
        rw [if_neg (by decide), r57_22, if_pos (by decide), r57_29, i_ofNat0, i_add]
        exact nx t false (Nat.le_succ _) hT
    · cases q with
      | true =>
        rw [if_neg (by decide)]
        refine nx t true (Nat.le_succ _) ?_
        rw [← hT]
        show _ = bif Nat.beq c 39 then _ else _
        rw [beq_no z]
        rfl
      | false =>
        rw [if_pos (by decide)]
        have hT2 : (bif Nat.beq c 32 then sf false t false suf else sf (al c) (bif al c && lal pre then t else t + 1) false suf) = T := by
          rw [← hT]
          show _ = bif Nat.beq c 39 then _ else _
          rw [beq_no z]
          rfl
        -- the word's begin
        have beg : ∀ sg : Bool, sg = !al c → c ≠ 32 → wp (d + 4) 57 53 [.val (.ref b), .val (.int (Int32.ofNat t)), .val (.int (bi false)), .val (.int (Int32.ofNat pre.length)), .unset, .unset, .unset] [.int (bi sg)] h Q := by
          intro sg hsg h32
          rw [beq_no h32] at hT2
          have hT3 : sf (al c) (bif al c && lal pre then t else t + 1) false suf = T := hT2
          have e94 : ∀ bg : Bool, bg = lal pre → wp (d + 4) 57 94 [.val (.ref b), .val (.int (Int32.ofNat t)), .val (.int (bi false)), .val (.int (Int32.ofNat pre.length)), .unset, .val (.int (bi sg)), .unset] [.int (bi bg)] h Q := by
            intro bg hbg
            have e100 : (al c && lal pre) = false → wp (d + 4) 57 100 [.val (.ref b), .unset, .val (.int (bi false)), .val (.int (Int32.ofNat pre.length)), .unset, .unset, .unset] [.int (Int32.ofNat t)] h Q := fun hz => by
              rw [r57_100, r57_103, i_ofNat1, i_add]
              rw [hz] at hT3
              exact nx (t + 1) false (Nat.le_refl _) hT3
            rw [r57_94]
            cases hac : al c with
            | false =>
              rw [hac] at hsg
              subst hsg
              rw [if_neg (by decide)]
              exact e100 (by rw [hac]; rfl)
            | true =>
              rw [hac] at hsg
              subst hsg
              rw [if_pos (by decide)]
              cases bg with
              | false =>
                rw [if_pos (by decide)]
                exact e100 (by rw [← hbg, Bool.and_false])
              | true =>
                rw [if_neg (by decide), r57_103, i_ofNat0, i_add]
                refine nx t false (Nat.le_succ _) ?_
                rw [hac, ← hbg] at hT3
                rw [hac]
                exact hT3
          have e93 : lal pre = false → wp (d + 4) 57 93 [.val (.ref b), .val (.int (Int32.ofNat t)), .val (.int (bi false)), .val (.int (Int32.ofNat pre.length)), .unset, .val (.int (bi sg)), .unset] [] h Q := fun hz => by
            rw [r57_93]; exact e94 false hz.symm
          have e91 : lal pre = true → wp (d + 4) 57 91 [.val (.ref b), .val (.int (Int32.ofNat t)), .val (.int (bi false)), .val (.int (Int32.ofNat pre.length)), .unset, .val (.int (bi sg)), .unset] [] h Q := fun hz => by
            rw [r57_91]; exact e94 true hz.symm
          rw [r57_53]
          rcases List.eq_nil_or_concat pre with hp | ⟨pr, p, hp⟩
          · rw [hp]
            rw [if_neg (by decide)]
            rw [hp] at e93
            exact e93 rfl
          · rw [List.concat_eq_append] at hp
            have lp : pre.length = pr.length + 1 := by rw [hp, List.length_append]; rfl
            have p128 : p < 128 := hc p (by rw [e, hp]; simp)
            have ep : (tx.map Int32.ofNat).getD pr.length 0 = Int32.ofNat p := by rw [e, hp]; simp [List.getD]
            have lap : lal pre = al p := by rw [hp, lal_snoc]
            rw [lap] at e93 e91
            have ch : ∀ {Q1 : Int32 → PH → Prop}, Q1 (Int32.ofNat p) h → (p_kd h b = 13 ∧ ¬ b = 0) ∧ CI (d + 4) 56 [.ref b, .int (Int32.ofNat pre.length - (1 : Int32))] h Q1 := fun k => by
              rw [i_ofNat1, i_sub (by omega), show pre.length - 1 = pr.length from by omega]
              exact ⟨⟨S.1, b0⟩, s56 S (by rw [List.length_map]; omega) p128 ep k⟩
            have e77 : ¬ (97 ≤ p ∧ p ≤ 122) → wp (d + 4) 57 77 [.val (.ref b), .val (.int (Int32.ofNat t)), .val (.int (bi false)), .val (.int (Int32.ofNat pre.length)), .unset, .val (.int (bi sg)), .unset] [] h Q := fun hz => by
              rw [r57_77]
              refine ch (if_ltn (k := 48) rfl (by omega) (by decide) (fun z1 => e93 ?_) (fun z1 => ch (if_gtn (k := 57) rfl (by omega) (by decide) (fun z2 => e93 ?_) (fun z2 => e91 ?_))))
              · rw [← Bool.not_eq_true, al_iff]; omega
              · rw [← Bool.not_eq_true, al_iff]; omega
              · rw [al_iff]; omega
            rw [if_pos (by rw [i_ofNat0, i_lt (by omega) (by omega)]; omega)]
            refine ch (if_eqn (k := 32) rfl (by omega) (by decide) (fun z1 => e93 (by rw [z1]; rfl)) (fun z1 => ch (if_ltn (k := 97) rfl (by omega) (by decide) (fun z2 => e77 (by omega)) (fun z2 => ch (if_gtn (k := 122) rfl (by omega) (by decide) (fun z3 => e77 (by omega)) (fun z3 => e91 (by rw [al_iff]; omega)))))))
        refine if_eqn (k := 32) rfl (by omega) (by decide) (fun z2 => ?_) (fun z2 => ?_)
        · refine nx t false (Nat.le_succ _) ?_
          rw [← hT2, z2]
          rfl
        · have e50 : al c = false → wp (d + 4) 57 50 [.val (.ref b), .val (.int (Int32.ofNat t)), .val (.int (bi false)), .val (.int (Int32.ofNat pre.length)), .unset, .unset, .unset] [] h Q := fun hz => by
            rw [r57_50]; exact beg true (by rw [hz]; rfl) z2
          have e52 : al c = true → wp (d + 4) 57 52 [.val (.ref b), .val (.int (Int32.ofNat t)), .val (.int (bi false)), .val (.int (Int32.ofNat pre.length)), .unset, .unset, .unset] [] h Q := fun hz => by
            rw [r57_52]; exact beg false (by rw [hz]; rfl) z2
          have e44 : ¬ (97 ≤ c ∧ c ≤ 122) → wp (d + 4) 57 44 [.val (.ref b), .val (.int (Int32.ofNat t)), .val (.int (bi false)), .val (.int (Int32.ofNat pre.length)), .val (.int (Int32.ofNat c)), .unset, .unset] [] h Q := fun hz => by
            rw [r57_44]
            refine if_ltn (k := 48) rfl (by omega) (by decide) (fun z1 => e50 ?_) (fun z1 => if_gtn (k := 57) rfl (by omega) (by decide) (fun z2 => e50 ?_) (fun z2 => e52 ?_))
            · rw [← Bool.not_eq_true, al_iff]; omega
            · rw [← Bool.not_eq_true, al_iff]; omega
            · rw [al_iff]; omega
          refine if_ltn (k := 97) rfl (by omega) (by decide) (fun z3 => e44 (by omega)) (fun z3 => if_gtn (k := 122) rfl (by omega) (by decide) (fun z4 => e44 (by omega)) (fun z4 => e52 (by rw [al_iff]; omega)))
theorem s57 {d b v : Nat} {tx : List Nat} {h : PH} {Q : Int32 → PH → Prop} (S : SB h b v (tx.map Int32.ofNat)) (hl : tx.length ≤ 100000) (hc : ∀ c ∈ tx, c < 128) (K0 : Q 0 h) (K1 : sf false 0 false tx ≤ 600 → tx.length ≤ 2980 → Q 1 h) : CI (d + 5) 57 [.ref b] h Q := by
  rw [e57]
  exact l57 (d := d) (Q := fun v h1 => onI v (fun x => Q x h1)) S hl hc _ K0 K1 tx [] 0 false rfl (Nat.le_refl _) rfl
/-! The count of a row of lexemes is their number. -/
theorem sf_word : ∀ (w : List Nat) (t : Nat) (s : List Nat), (∀ c ∈ w, al c = true) → sf true t false (w ++ s) = sf true t false s
  | [], _, _, _ => rfl
  | c :: w, t, s, h => by
    have hc := h c List.mem_cons_self
    have h1 := al_iff.mp hc
    show (bif Nat.beq c 39 then _ else bif false then _ else bif Nat.beq c 32 then _ else sf (al c) (bif al c && true then t else t + 1) false (w ++ s)) = _
    rw [beq_no (by omega), beq_no (by omega), hc]
    exact sf_word w t s (fun x hx => h x (List.mem_cons_of_mem _ hx))
theorem sf_word1 {w : List Nat} {t : Nat} {s : List Nat} (hw : w ≠ []) (h : ∀ c ∈ w, al c = true) : sf false t false (w ++ s) = sf true (t + 1) false s := by
  cases w with
  | nil => exact absurd rfl hw
  | cons c w =>
    have hc := h c List.mem_cons_self
    have h1 := al_iff.mp hc
    show (bif Nat.beq c 39 then _ else bif false then _ else bif Nat.beq c 32 then _ else sf (al c) (bif al c && false then t else t + 1) false (w ++ s)) = _
    rw [beq_no (by omega), beq_no (by omega), hc]
    exact sf_word w (t + 1) s (fun x hx => h x (List.mem_cons_of_mem _ hx))
theorem sf_quoted : ∀ (w : List Nat) (pa : Bool) (t : Nat) (s : List Nat), (∀ c ∈ w, c ≠ 39) → sf pa t true (w ++ 39 :: s) = sf false t false s
  | [], _, _, _, _ => rfl
  | c :: w, pa, t, s, h => by
    show (bif Nat.beq c 39 then _ else bif true then sf (al c) t true (w ++ 39 :: s) else _) = _
    rw [beq_no (h c List.mem_cons_self)]
    exact sf_quoted w _ t s (fun x hx => h x (List.mem_cons_of_mem _ hx))
/-- a lexeme that begins and ends with a letter or a digit -/
def fal (t : Nat) : Bool := kw1 t || Nat.beq t 38 || Nat.beq t 39
theorem kw_al : ∀ t, t < 44 → (kw1 t = true → (c_sb.getD (c_kt.getD (t - 1) 0) []).map Int32.toNatClampNeg ≠ [] ∧ ∀ c ∈ (c_sb.getD (c_kt.getD (t - 1) 0) []).map Int32.toNatClampNeg, 97 ≤ c ∧ c ≤ 122) ∧
    (ks1 t = true → ∃ c, (c_sb.getD (c_kt.getD (t - 1) 0) []).map Int32.toNatClampNeg = [c] ∧ al c = false ∧ c ≠ 39 ∧ c ≠ 32 ∧ c ≠ 10) := by
  have q : ∀ t, t < 44 → (kw1 t = true → (c_sb.getD (c_kt.getD (t - 1) 0) []).map Int32.toNatClampNeg ≠ [] ∧ ∀ c ∈ (c_sb.getD (c_kt.getD (t - 1) 0) []).map Int32.toNatClampNeg, 97 ≤ c ∧ c ≤ 122) ∧
    (ks1 t = true → (c_sb.getD (c_kt.getD (t - 1) 0) []).map Int32.toNatClampNeg = [((c_sb.getD (c_kt.getD (t - 1) 0) []).map Int32.toNatClampNeg).headD 0] ∧ al (((c_sb.getD (c_kt.getD (t - 1) 0) []).map Int32.toNatClampNeg).headD 0) = false ∧ ((c_sb.getD (c_kt.getD (t - 1) 0) []).map Int32.toNatClampNeg).headD 0 ≠ 39 ∧ ((c_sb.getD (c_kt.getD (t - 1) 0) []).map Int32.toNatClampNeg).headD 0 ≠ 32 ∧ ((c_sb.getD (c_kt.getD (t - 1) 0) []).map Int32.toNatClampNeg).headD 0 ≠ 10) := by decide +kernel
  exact fun t ht => ⟨(q t ht).1, fun h => ⟨_, (q t ht).2 h⟩⟩
theorem dgn_dig {m : Nat} (hm : m < 100) : dgn m ≠ [] ∧ (∀ c ∈ dgn m, 48 ≤ c ∧ c ≤ 57) ∧ (dgn m).length ≤ 2 := by
  unfold dgn
  cases hb : Nat.blt m 10
  · refine ⟨List.cons_ne_nil _ _, fun c hc => ?_, Nat.le_refl _⟩
    have : c = 48 + m / 10 ∨ c = 48 + m % 10 := by simpa using hc
    omega
  · have hb : m + 1 ≤ 10 := Nat.le_of_ble_eq_true hb
    refine ⟨List.cons_ne_nil _ _, fun c hc => ?_, Nat.le_succ 1⟩
    have : c = 48 + m := by simpa using hc
    omega
theorem sf_lex {x : Lx} {pa : Bool} {t : Nat} {s : List Nat} (h : okx x) (hp : pa = true → fal x.1 = false) : sf pa t false (lwn x ++ s) = sf (fal x.1) (t + 1) false s := by
  obtain ⟨k, m, b⟩ := x
  have wd : fal k = true → lwn (k, m, b) ≠ [] → (∀ c ∈ lwn (k, m, b), al c = true) → sf pa t false (lwn (k, m, b) ++ s) = sf (fal k) (t + 1) false s := fun h1 h2 h3 => by
    have : pa = false := by
      cases pa
      · rfl
      · have := hp rfl
        rw [h1] at this; cases this
    rw [this, h1]
    exact sf_word1 h2 h3
  rcases h with ⟨h1, c, j, hc, hj, h2⟩ | ⟨h1, h2⟩ | ⟨h1, h2⟩ | ⟨h1, h2⟩
  · have h1 : k = 38 := h1
    have h2 : m = c * 32 + j := h2
    subst h1 h2
    refine wd rfl (List.cons_ne_nil _ _) (fun x hx => ?_)
    have hx : x = (c * 32 + j) / 32 ∨ x = 97 + (c * 32 + j) % 32 := by simpa [lwn] using hx
    rw [al_iff]
    omega
  · have h1 : k = 39 := h1
    subst h1
    exact wd rfl (dgn_dig h2).1 (fun x hx => by rw [al_iff]; exact Or.inr ((dgn_dig h2).2.1 x hx))
  · have h1 : k = 40 := h1
    subst h1
    have e : lwn (40, m, b) ++ s = 39 :: (([84, 101, 120, 116, 32] ++ (dgn m ++ [59, 32])) ++ 39 :: s) := by
      show ([39, 84, 101, 120, 116, 32] ++ (dgn m ++ [59, 32, 39])) ++ s = _
      simp only [List.append_assoc, List.cons_append, List.nil_append]
    rw [e]
    show sf false (t + 1) true (([84, 101, 120, 116, 32] ++ (dgn m ++ [59, 32])) ++ 39 :: s) = _
    rw [sf_quoted _ _ _ _ (fun c hc => ?_)]
    · rfl
    rcases List.mem_append.mp hc with q | q
    · exact (by decide : ∀ c ∈ [84, 101, 120, 116, 32], c ≠ 39) c q
    rcases List.mem_append.mp q with q | q
    · have := (dgn_dig h2).2.1 c q; omega
    · exact (by decide : ∀ c ∈ [59, 32], c ≠ 39) c q
  · have h3 := kw1_lt h1
    obtain ⟨q1, q2⟩ := kw_al k h3.1
    rcases h1 with h1 | h1
    · obtain ⟨g1, g2⟩ := q1 h1
      have h1 : kw1 k = true := h1
      refine wd (by unfold fal; rw [h1]; rfl) ?_ (fun x hx => ?_)
      · rw [(lwn_kw h3.2).1]; exact g1
      · rw [(lwn_kw h3.2).1] at hx
        rw [al_iff]; exact Or.inl (g2 x hx)
    · obtain ⟨c, g1, g2, g3, g4, -⟩ := q2 h1
      rw [(lwn_kw h3.2).1, g1]
      have : fal k = false := (by decide : ∀ t, t < 44 → ks1 t = true → fal t = false) k h3.1 h1
      show (bif Nat.beq c 39 then _ else bif false then _ else bif Nat.beq c 32 then _ else sf (al c) (bif al c && pa then t else t + 1) false s) = _
      rw [beq_no g3, beq_no g4, g2, this]
      rfl
theorem nxb_fal : ∀ x, x < 44 → ∀ y, y < 44 → nxb x y = true → fal x = true → fal y = false := by decide +kernel
theorem okx_lt {x : Lx} (h : okx x) : x.1 < 44 := by
  rcases h with ⟨h, -⟩ | ⟨h, -⟩ | ⟨h, -⟩ | ⟨h, -⟩
  · rw [h]; decide
  · rw [h]; decide
  · rw [h]; decide
  · exact (kw1_lt h).1
theorem sf_all : ∀ (X : List Lx) (pa : Bool) (t : Nat), tlok X → (∀ x r, X = x :: r → pa = true → fal x.1 = false) → sf pa t false (lbn X) = t + X.length
  | [], _, _, _, _ => rfl
  | [x], pa, t, h, hp => by
    show sf pa t false ((lwn x ++ (bif Nat.beq x.2.2 1 then [32] else [])) ++ []) = _
    rw [List.append_nil, sf_lex h.1 (hp x [] rfl), h.2]
    rfl
  | x :: y :: r, pa, t, h, hp => by
    show sf pa t false ((lwn x ++ (bif Nat.beq x.2.2 1 then [32] else [])) ++ lbn (y :: r)) = _
    rw [List.append_assoc, sf_lex h.1 (hp x _ rfl)]
    rcases h.2.1 with h1 | ⟨h1, h2⟩
    · rw [h1]
      show sf false (t + 1) false (lbn (y :: r)) = _
      rw [sf_all (y :: r) false (t + 1) h.2.2 (fun _ _ _ q => by cases q)]
      simp only [List.length_cons]
      omega
    · rw [h1]
      show sf (fal x.1) (t + 1) false (lbn (y :: r)) = _
      have h3 : okx y := by
        cases r with
        | nil => exact h.2.2.1
        | cons z r => exact h.2.2.1
      rw [sf_all (y :: r) (fal x.1) (t + 1) h.2.2 (fun z r e q => by
        injection e with e1 e2
        rw [← e1]
        exact nxb_fal x.1 (okx_lt h.1) y.1 (okx_lt h3) h2 q)]
      simp only [List.length_cons]
      omega
