/-! Lexemes: (the kind's number, what it says, whether a blank is behind); the texts that are made of them. -/
abbrev Lx : Type := Nat × Nat × Nat
/-- the signs of one (a name: its first sign * 32 + which letter) -/
def lw (x : Lx) : List Int32 := match x.1 with
  | 38 => [Int32.ofNat (x.2.1 / 32), Int32.ofNat (97 + x.2.1 % 32)]
  | 39 => dg x.2.1
  | 40 => [39, 84, 101, 120, 116, 32] ++ (dg x.2.1 ++ [59, 32, 39])
  | t => c_sb.getD (c_kt.getD (t - 1) 0) []
def lb (x : Lx) : List Int32 := lw x ++ (bif Nat.beq x.2.2 1 then [32] else [])
def lbs : List Lx → List Int32
  | [] => []
  | x :: r => lb x ++ lbs r
theorem lbs_app (X Y : List Lx) : lbs (X ++ Y) = lbs X ++ lbs Y := by
  induction X with
  | nil => rfl
  | cons x r ih =>
    show lb x ++ lbs (r ++ Y) = (lb x ++ lbs r) ++ lbs Y
    rw [ih, List.append_assoc]
/-- the letters of terms, in the order in which they come first -/
def ins (s : List Nat) (k : Nat) : List Nat := bif s.elem k then s else s ++ [k]
def snx (s : List Nat) (x : Lx) : List Nat := bif Nat.beq x.1 38 && Nat.beq (x.2.1 / 32) 116 then ins s (x.2.1 % 32) else s
def sn (s : List Nat) (X : List Lx) : List Nat := X.foldl snx s
theorem sn_app (s : List Nat) (X Y : List Lx) : sn s (X ++ Y) = sn (sn s X) Y := List.foldl_append
/-- at most k pieces, one behind the other -/
def cat (P : List Lx → Prop) : Nat → List Lx → Prop
  | 0, X => X = []
  | k + 1, X => X = [] ∨ ∃ Y Z, X = Y ++ Z ∧ P Y ∧ cat P k Z
theorem cat_nil (P : List Lx → Prop) (k : Nat) : cat P k [] := by
  cases k with
  | zero => rfl
  | succ k => exact Or.inl rfl
theorem cat_mono {P : List Lx → Prop} : ∀ {k k1 : Nat} {Z : List Lx}, k ≤ k1 → cat P k Z → cat P k1 Z
  | 0, k1, Z, _, q => by
    have : Z = [] := q
    rw [this]
    exact cat_nil P k1
  | k + 1, 0, Z, h, _ => absurd h (by omega)
  | k + 1, k1 + 1, Z, h, q => by
    rcases q with q | ⟨Y, W, e, p, q⟩
    · exact Or.inl q
    · exact Or.inr ⟨Y, W, e, p, cat_mono (by omega) q⟩
/-- a block of items -/
def isB (P : List Lx → Prop) (k : Nat) (X : List Lx) : Prop := ∃ Z, cat P k Z ∧ X = (21, 0, 1) :: (Z ++ [(22, 0, 1)])
/-- an item that holds no block (n clauses, f facts, in clause c) -/
def isI1 (n f c : Nat) (X : List Lx) : Prop :=
  (∃ m, m < 20 ∧ X = [(40, m, 1)]) ∨ (∃ k, k < n ∧ k ≠ c ∧ X = [(8, 0, 1), (38, 99 * 32 + k, 1)]) ∨ (∃ t k, (t = 9 ∨ t = 10) ∧ k < 6 ∧ X = [(t, 0, 1), (38, 116 * 32 + k, 1)]) ∨
  (∃ q m, q < f ∧ m < 20 ∧ X = [(11, 0, 1), (38, 102 * 32 + q, 0), (31, 0, 0), (39, 2, 0), (30, 0, 0), (39, m, 0), (27, 0, 1)])
def isB1 (n f c : Nat) (X : List Lx) : Prop := isB (isI1 n f c) 2 X
def isI0 (n f c : Nat) (X : List Lx) : Prop := isI1 n f c X ∨
  (∃ q m B1 B2, q < f ∧ m < 20 ∧ isB1 n f c B1 ∧ isB1 n f c B2 ∧ X = [(12, 0, 1), (38, 102 * 32 + q, 0), (34, 0, 0), (39, m, 1)] ++ (B1 ++ ((13, 0, 1) :: B2))) ∨
  (∃ B1 B2, isB1 n f c B1 ∧ isB1 n f c B2 ∧ X = [(14, 0, 1), (21, 0, 1), (15, 0, 1)] ++ (B1 ++ ((15, 0, 1) :: (B2 ++ [(22, 0, 1)]))))
def isB0 (n f c : Nat) (X : List Lx) : Prop := isB (isI0 n f c) 3 X
/-! Building a text: the builder, what it costs, what stays. -/
def BT (L : Nat) (xs : Nat → Int32) (N U : Nat) (h : PH) (b : Nat) (l : List Int32) : Prop := CO L xs h ∧ p_nx h ≤ N + 10 * l.length ∧ ∃ v, SB h b v l ∧ p_ln h v ≤ 16 + 2 * l.length ∧ p_us h ≤ U + 100 * l.length + 2 * p_ln h v
/-- all but what is of the kinds S stays -/
def EK (S : Nat → Prop) (h h1 : PH) : Prop := Ext h h1 (fun a => S (p_kd h a))
def k2 (k : Nat) : Prop := k = 120 ∨ k = 13
theorem EK.tr {S : Nat → Prop} {h h1 h2 : PH} (A : EK S h h1) (B : EK S h1 h2) : EK S h h2 := Ext.tr A B (fun a ha q => by
  have e := Ext.kd A ha
  rw [e] at q
  exact q)
theorem EK.rf {S : Nat → Prop} {h : PH} : EK S h h := Ext.rf
theorem BT.kd {L : Nat} {xs : Nat → Int32} {N U b : Nat} {l : List Int32} {h : PH} (B : BT L xs N U h b l) : p_kd h b = 13 ∧ ¬ b = 0 := by
  obtain ⟨-, -, v, S, -⟩ := B
  exact ⟨S.1, by have := S.2.1; omega⟩
section BTS
variable {L : Nat} {xs : Nat → Int32} {N U b : Nat} {l t : List Int32} {h : PH}
theorem BT.fin {h1 : PH} {v v1 : Nat} (C : CO L xs h) (x : p_nx h ≤ N + 10 * l.length) (S : SB h b v l) (g : p_ln h v ≤ 16 + 2 * l.length) (u : p_us h ≤ U + 100 * l.length + 2 * p_ln h v) (ht : 0 < t.length)
    (S1 : SB h1 b v1 (l ++ t)) (a1 : p_ln h1 v1 ≤ max (p_ln h v) (2 * (l.length + t.length))) (E : Ext h h1 (fun a => a = b ∨ a = v)) (a2 : p_nx h1 ≤ p_nx h + 10) (a3 : p_us h1 + 2 * p_ln h v ≤ p_us h + 2 * p_ln h1 v1 + 100) :
    BT L xs N U h1 b (l ++ t) ∧ EK k2 h h1 := by
  refine ⟨⟨C.ext E (fun a ha q => ?_), ?_, v1, S1, ?_, ?_⟩, Ext.up E (fun a ha q => ?_)⟩
  · have h2 := S.2.1
    have h3 := S.2.2.2.2.1
    omega
  · rw [List.length_append]; omega
  · rw [List.length_append]; omega
  · rw [List.length_append]; omega
  · rcases q with q | q
    · rw [q]; exact Or.inr S.1
    · rw [q]; exact Or.inl S.2.2.2.1
theorem bt_s {d j : Nat} {Q : Nat → PH → Prop} (B : BT L xs N U h b l) (hj : j < 58) (ht : 0 < (c_sb.getD j []).length) (ht2 : (c_sb.getD j []).length ≤ 100) (hl : l.length ≤ 19900) (hN : N ≤ 300000) (hU : U ≤ 1000000)
    (K : ∀ h1, BT L xs N U h1 b (l ++ c_sb.getD j []) → EK k2 h h1 → Q b h1) : CR (d + 6) 28 [.ref b, .ref (100 + j)] h Q := by
  obtain ⟨C, x, v, S, g, u⟩ := B
  have e1 : p_CN = 601086 := rfl
  have e2 : p_CS = 7301442 := rfl
  have hv := S.2.2.2.2.1
  refine s28 S (TX.const C hj) (by omega) (by omega) (by omega) (by omega) (fun h1 v1 S1 a1 E a2 a3 a4 => ?_)
  obtain ⟨q1, q2⟩ := BT.fin C x S g u ht S1 a1 E (by omega) (by omega)
  exact K h1 q1 q2
theorem bt_c {d c : Nat} {Q : Nat → PH → Prop} (B : BT L xs N U h b l) (hc : c < 128) (hl : l.length ≤ 19900) (hN : N ≤ 300000) (hU : U ≤ 1000000)
    (K : ∀ h1, BT L xs N U h1 b (l ++ [Int32.ofNat c]) → EK k2 h h1 → Q b h1) : CR (d + 6) 32 [.ref b, .int (Int32.ofNat c)] h Q := by
  obtain ⟨C, x, v, S, g, u⟩ := B
  have e1 : p_CN = 601086 := rfl
  have e2 : p_CS = 7301442 := rfl
  refine s32 S hc (by omega) (by omega) (by omega) (fun h1 v1 S1 a1 E a2 a3 a4 => ?_)
  obtain ⟨q1, q2⟩ := BT.fin (t := [Int32.ofNat c]) C x S g u (Nat.lt_succ_self 0) S1 a1 E (by omega) (by omega)
  exact K h1 q1 q2
theorem bt_d {d n : Nat} {Q : Nat → PH → Prop} (B : BT L xs N U h b l) (hn : n < 100) (hl : l.length ≤ 19900) (hN : N ≤ 300000) (hU : U ≤ 1000000)
    (K : ∀ h1, BT L xs N U h1 b (l ++ dg n) → EK k2 h h1 → Q b h1) : CR (d + 6) 46 [.ref b, .int (Int32.ofNat n)] h Q := by
  obtain ⟨C, x, v, S, g, u⟩ := B
  have e1 : p_CN = 601086 := rfl
  have e2 : p_CS = 7301442 := rfl
  have hd := dg_len n
  refine s46 C S hn (by omega) (by omega) (by omega) (fun h1 v1 S1 a1 E a2 a3 a4 => ?_)
  obtain ⟨q1, q2⟩ := BT.fin C x S g u (by omega) S1 a1 E (by omega) (by omega)
  exact K h1 q1 q2
theorem bt_n {d c k : Nat} {Q : Nat → PH → Prop} (B : BT L xs N U h b l) (hc : c < 128) (hk : k < 26) (hl : l.length ≤ 19900) (hN : N ≤ 300000) (hU : U ≤ 1000000)
    (K : ∀ h1, BT L xs N U h1 b (l ++ [Int32.ofNat c, Int32.ofNat (97 + k)]) → EK k2 h h1 → Q b h1) :
    CR (d + 7) 42 [.int (Int32.ofNat c), .int (Int32.ofNat k)] h (fun z h1 => (p_kd h1 b = 13 ∧ ¬ b = 0) ∧ CR (d + 7) 28 [.ref b, .ref z] h1 Q) := by
  obtain ⟨C, x, v, S, g, u⟩ := B
  have e1 : p_CN = 601086 := rfl
  have e2 : p_CS = 7301442 := rfl
  have hv := S.2.2.2.2.2.1
  have hv0 := S.2.1
  refine s42 C hc hk (by omega) (by omega) (fun h1 a w T E1 b1 b2 b3 b4 => ?_)
  have S1 : SB h1 b v l := S.ext E1 (fun q => q) (fun q => q)
  have l1 : p_ln h1 v = p_ln h v := E1.ln hv
  refine ⟨⟨S1.1, by omega⟩, s28 S1 T (by omega) (by simp only [List.length_cons, List.length_nil]; omega) (by omega) (by simp only [List.length_cons, List.length_nil]; omega) (fun h2 v2 S2 a1 E2 a2 a3 a4 => ?_)⟩
  rw [l1] at a1 a3
  obtain ⟨q1, q2⟩ := BT.fin (t := [Int32.ofNat c, Int32.ofNat (97 + k)]) C x S g u (Nat.succ_pos 1) S2 a1 ((E1.up (fun _ _ q => q.elim)).tr E2 (fun _ _ q => q)) (by omega) (by omega)
  exact K h2 q1 q2
end BTS
