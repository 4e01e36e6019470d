/-! Items and blocks, as cells choose them. -/
section ITS
variable (n f c : Nat)
def IT1 (h : PH) (a : Nat) : Prop := p_kd h a = 15 ∧ 1000 ≤ a ∧ a < p_nx h ∧ ∃ s m q, p_im h a 0 = Int32.ofNat s ∧ p_im h a 1 = Int32.ofNat m ∧ p_im h a 2 = Int32.ofNat q ∧ s < 7 ∧ m < 20 ∧ q < f ∧ (s = 1 → m < n ∧ m ≠ c) ∧ (s = 2 ∨ s = 3 → m < 6)
def IL1 (h : PH) (a : Nat) : Prop := IT1 n f c h a ∧ ¬ (4 : Int32) < p_im h a 0
def BKx (P : PH → Nat → Prop) (k : Nat) (h : PH) (a : Nat) : Prop := p_kd h a = 313 ∧ 1000 ≤ a ∧ a < p_nx h ∧ p_ln h a ≤ k ∧ ∀ j, j < p_ln h a → P h (p_rm h a j)
def BK1 (h : PH) (a : Nat) : Prop := BKx (IL1 n f c) 2 h a
def IT0 (B : Nat) (h : PH) (a : Nat) : Prop := IT1 n f c h a ∧ ((4 : Int32) < p_im h a 0 → (B < p_rm h a 3 ∧ BK1 n f c h (p_rm h a 3)) ∧ B < p_rm h a 4 ∧ BK1 n f c h (p_rm h a 4))
def BK0 (h : PH) (a : Nat) : Prop := BKx (IT0 n f c a) 3 h a
end ITS
/-- the library that is chosen: how many facts and clauses it has -/
def SMq (n f sm : Nat) (h : PH) : Prop := p_kd h sm = 12 ∧ 1000 ≤ sm ∧ sm < p_nx h ∧ p_im h sm 0 = Int32.ofNat f ∧ p_im h sm 1 = Int32.ofNat n
theorem SMq.ext {n f sm : Nat} {h h1 : PH} {W : Nat → Prop} (S : SMq n f sm h) (E : Ext h h1 W) (hw : ¬ W sm) : SMq n f sm h1 := ⟨by rw [E.kd S.2.2.1, S.1], S.2.1, E.lt S.2.2.1, by rw [E.im S.2.2.1 hw, S.2.2.2.1], by rw [E.im S.2.2.1 hw, S.2.2.2.2]⟩
section ITE
variable {n f c : Nat} {h h1 : PH} {W : Nat → Prop}
theorem IT1.ext {a : Nat} (I : IT1 n f c h a) (E : Ext h h1 W) (hw : ¬ W a) : IT1 n f c h1 a := by
  obtain ⟨a1, a2, a3, s, m, q, a4, a5, a6, a7⟩ := I
  exact ⟨by rw [E.kd a3, a1], a2, E.lt a3, s, m, q, by rw [E.im a3 hw, a4], by rw [E.im a3 hw, a5], by rw [E.im a3 hw, a6], a7⟩
theorem IL1.ext {a : Nat} (I : IL1 n f c h a) (E : Ext h h1 W) (hw : ∀ x, p_kd h x = 15 → ¬ W x) : IL1 n f c h1 a := ⟨I.1.ext E (hw a I.1.1), by rw [E.im I.1.2.2.1 (hw a I.1.1)]; exact I.2⟩
theorem BKx.ext {P : PH → Nat → Prop} {k a : Nat} (I : BKx P k h a) (E : Ext h h1 W) (hw : ¬ W a) (hP : ∀ x, P h x → P h1 x) : BKx P k h1 a := by
  obtain ⟨a1, a2, a3, a4, a5⟩ := I
  refine ⟨by rw [E.kd a3, a1], a2, E.lt a3, by rw [E.ln a3]; exact a4, fun j hj => ?_⟩
  rw [E.ln a3] at hj
  rw [E.rm a3 hw]
  exact hP _ (a5 j hj)
theorem BK1.ext {a : Nat} (I : BK1 n f c h a) (E : Ext h h1 W) (hw : ∀ x, p_kd h x = 15 → ¬ W x) (ha : ¬ W a) : BK1 n f c h1 a := BKx.ext I E ha (fun _ q => q.ext E hw)
theorem IT0.ext {B a : Nat} (I : IT0 n f c B h a) (E : Ext h h1 W) (hw : ∀ x, p_kd h x = 15 → ¬ W x) (hb : ∀ x, B < x → p_kd h x = 313 → ¬ W x) : IT0 n f c B h1 a := by
  have h2 := I.1.2.2.1
  have h3 := hw a I.1.1
  refine ⟨I.1.ext E h3, fun q => ?_⟩
  rw [E.im h2 h3] at q
  rw [E.rm h2 h3, E.rm h2 h3]
  obtain ⟨⟨p1, p2⟩, p3, p4⟩ := I.2 q
  exact ⟨⟨p1, p2.ext E hw (hb _ p1 p2.1)⟩, p3, p4.ext E hw (hb _ p3 p4.1)⟩
theorem BK0.ext {a : Nat} (I : BK0 n f c h a) (E : Ext h h1 W) (hw : ∀ x, p_kd h x = 15 ∨ p_kd h x = 313 → ¬ W x) : BK0 n f c h1 a := BKx.ext I E (hw a (Or.inr I.1)) (fun _ q => q.ext E (fun x hx => hw x (Or.inl hx)) (fun x _ hx => hw x (Or.inr hx)))
theorem BK1.wr {a i v x : Nat} (I : BK1 n f c h x) (hx : x ≠ a) : BK1 n f c (p_wr h a i v) x := by
  obtain ⟨i1, i2, i3, i4, i5⟩ := I
  refine ⟨i1, i2, i3, i4, fun j hj => ?_⟩
  rw [wr_rm, if_neg (fun q => hx q.1)]
  exact i5 j hj
theorem IT1.wr {a i v x : Nat} (I : IT1 n f c h x) : IT1 n f c (p_wr h a i v) x := I
end ITE
theorem i_ofNat0 : (0 : Int32) = Int32.ofNat 0 := rfl
theorem i_ofNat1 : (1 : Int32) = Int32.ofNat 1 := rfl
/-- one item is made: from the loop's head to the place where blocks in it are made -/
theorem m49 {d n f c A k a5 L sm : Nat} {xs : Nat → Int32} {x3 x4 : Int32} {h : PH} {Q : Option Value → PH → Prop} (C : CO L xs h) (hL : L ≤ 260) (hsm : SMq n f sm h) (hn : 0 < n) (hn2 : n ≤ 20) (hf : 0 < f) (hf2 : f ≤ 100)
    (hA : A < 1000) (hk : k < 10) (hc : A % n = c) (hx : Int32.ofNat k < x4) (c1 : p_nx h + 1 ≤ p_CN) (c2 : p_us h + 5 ≤ p_CS)
    (K : ∀ h1, Ext h h1 (fun _ => False) → p_nx h1 = p_nx h + 1 → p_us h1 = p_us h + 5 → IT1 n f c h1 (p_nx h) → (x3 ≠ 0 → ¬ (4 : Int32) < p_im h1 (p_nx h) 0) →
      wp (d + 1) 49 111 [.val (.ref sm), .val (.ref 60), .val (.int (Int32.ofNat A)), .val (.int x3), .val (.int x4), .val (.ref a5), .val (.int (Int32.ofNat k)), .unset, .val (.ref (p_nx h))] [] h1 Q) :
    wp (d + 1) 49 21 [.val (.ref sm), .val (.ref 60), .val (.int (Int32.ofNat A)), .val (.int x3), .val (.int x4), .val (.ref a5), .val (.int (Int32.ofNat k)), .unset, .unset] [] h Q := by
  obtain ⟨g1, g2, g3, g4, g5⟩ := hsm
  have h1000 := C.1
  have s0 : ¬ sm = 0 := by omega
  have ne : ¬ sm = p_nx h := by omega
  have x0 : ¬ p_nx h = 0 := by omega
  rw [r49_21, if_pos hx, i_add, show (16 : Int32) = Int32.ofNat 16 from rfl, i_mod (by omega) (by omega)]
  refine ⟨by decide, s14 C hL (by omega) (fun z1 => ⟨⟨c1, c2⟩, h1000, ?_⟩)⟩
  rw [e48]
  refine ⟨h1000, ?_⟩
  generalize ((z1 >>> (((2 : Int32) * Int32.ofNat k) &&& 31)) + ((13 : Int32) * Int32.ofNat A)) + ((7 : Int32) * Int32.ofNat k) = x7
  have E0 : Ext h (p_new h 15 0 5) (fun _ => False) := Ext.pn 15 0 5
  have k0 : p_kd (p_new h 15 0 5) (p_nx h) = 15 := by rw [pn_kd, if_pos rfl]
  have ks : p_kd (p_new h 15 0 5) sm = 12 := by rw [E0.kd g3, g1]
  have i0 : p_im (p_new h 15 0 5) sm 0 = Int32.ofNat f := by rw [E0.im g3 (fun q => q), g4]
  have i1 : p_im (p_new h 15 0 5) sm 1 = Int32.ofNat n := by rw [E0.im g3 (fun q => q), g5]
  have xx : p_nx (p_new h 15 0 5) = p_nx h + 1 := rfl
  have uu : p_us (p_new h 15 0 5) = p_us h + 5 := rfl
  generalize p_new h 15 0 5 = h1 at *
  have go : ∀ w, w ≤ 7 → (x3 ≠ 0 → w ≤ 5) → 0 < w → wp (d + 1) 49 55 [.val (.ref sm), .val (.ref 60), .val (.int (Int32.ofNat A)), .val (.int x3), .val (.int x4), .val (.ref a5), .val (.int (Int32.ofNat k)), .val (.int x7), .val (.ref (p_nx h))] [.int (Int32.ofNat w), .int x7, .ref (p_nx h)] h1 Q := by
    intro w hw hw2 hw0
    rw [r49_55]
    refine s15 hw0 (by omega) (fun s hs => ⟨⟨k0, h1000⟩, ⟨ks, s0⟩, ?_⟩)
    rw [wi_im, if_neg (fun q => ne q.1), i0]
    refine s15 hf (by omega) (fun q hq => ⟨⟨k0, h1000⟩, ⟨k0, x0⟩, ?_⟩)
    have es : p_im (p_wi (p_wi h1 (p_nx h) 0 (Int32.ofNat s)) (p_nx h) 2 (Int32.ofNat q)) (p_nx h) 0 = Int32.ofNat s := by rw [wi_im, if_neg (by omega), wi_im, if_pos ⟨rfl, rfl⟩]
    have e1 : p_im (p_wi (p_wi h1 (p_nx h) 0 (Int32.ofNat s)) (p_nx h) 2 (Int32.ofNat q)) sm 1 = Int32.ofNat n := by rw [wi_im, if_neg (fun z => ne z.1), wi_im, if_neg (fun z => ne z.1), i1]
    have eq : p_im (p_wi (p_wi h1 (p_nx h) 0 (Int32.ofNat s)) (p_nx h) 2 (Int32.ofNat q)) (p_nx h) 2 = Int32.ofNat q := by rw [wi_im, if_pos ⟨rfl, rfl⟩]
    have E2 : Ext h (p_wi (p_wi h1 (p_nx h) 0 (Int32.ofNat s)) (p_nx h) 2 (Int32.ofNat q)) (fun _ => False) := (E0.tr (Ext.wi (W := fun a => a = p_nx h) _ (fun _ => rfl)) (fun a ha z => by omega)).tr (Ext.wi (W := fun a => a = p_nx h) _ (fun _ => rfl)) (fun a ha z => by omega)
    have x2 : p_nx (p_wi (p_wi h1 (p_nx h) 0 (Int32.ofNat s)) (p_nx h) 2 (Int32.ofNat q)) = p_nx h + 1 := xx
    have u2 : p_us (p_wi (p_wi h1 (p_nx h) 0 (Int32.ofNat s)) (p_nx h) 2 (Int32.ofNat q)) = p_us h + 5 := uu
    have k2 : p_kd (p_wi (p_wi h1 (p_nx h) 0 (Int32.ofNat s)) (p_nx h) 2 (Int32.ofNat q)) (p_nx h) = 15 := k0
    have ks2 : p_kd (p_wi (p_wi h1 (p_nx h) 0 (Int32.ofNat s)) (p_nx h) 2 (Int32.ofNat q)) sm = 12 := ks
    generalize p_wi (p_wi h1 (p_nx h) 0 (Int32.ofNat s)) (p_nx h) 2 (Int32.ofNat q) = h2 at *
    have fin : ∀ m, m < 20 → (s = 1 → m < n) → (s = 2 ∨ s = 3 → m < 6) → wp (d + 1) 49 96 [.val (.ref sm), .val (.ref 60), .val (.int (Int32.ofNat A)), .val (.int x3), .val (.int x4), .val (.ref a5), .val (.int (Int32.ofNat k)), .unset, .val (.ref (p_nx h))] [.int (Int32.ofNat m), .ref (p_nx h)] h2 Q := by
      intro m hm1 hm2 hm3
      have f0 : p_im (p_wi h2 (p_nx h) 1 (Int32.ofNat m)) (p_nx h) 0 = Int32.ofNat s := by rw [wi_im, if_neg (by omega), es]
      have f1 : p_im (p_wi h2 (p_nx h) 1 (Int32.ofNat m)) (p_nx h) 1 = Int32.ofNat m := by rw [wi_im, if_pos ⟨rfl, rfl⟩]
      have f2 : p_im (p_wi h2 (p_nx h) 1 (Int32.ofNat m)) (p_nx h) 2 = Int32.ofNat q := by rw [wi_im, if_neg (by omega), eq]
      have f3 : p_im (p_wi h2 (p_nx h) 1 (Int32.ofNat m)) sm 1 = Int32.ofNat n := by rw [wi_im, if_neg (fun z => ne z.1), e1]
      have E3 : Ext h (p_wi h2 (p_nx h) 1 (Int32.ofNat m)) (fun _ => False) := E2.tr (Ext.wi (W := fun a => a = p_nx h) _ (fun _ => rfl)) (fun a ha z => by omega)
      have lo : x3 ≠ 0 → ¬ (4 : Int32) < Int32.ofNat s := fun z => by
        have := hw2 z
        rw [show (4 : Int32) = Int32.ofNat 4 from rfl, i_lt (by omega) (by omega)]; omega
      have done : (s = 1 → m ≠ c) → wp (d + 1) 49 111 [.val (.ref sm), .val (.ref 60), .val (.int (Int32.ofNat A)), .val (.int x3), .val (.int x4), .val (.ref a5), .val (.int (Int32.ofNat k)), .unset, .val (.ref (p_nx h))] [] (p_wi h2 (p_nx h) 1 (Int32.ofNat m)) Q := fun z => by
        refine K _ E3 (by rw [wi_nx, x2]) (by rw [wi_us, u2]) ⟨by rw [wi_kd, k2], h1000, by rw [wi_nx, x2]; omega, s, m, q, f0, f1, f2, by omega, hm1, hq, fun y => ⟨hm2 y, z y⟩, hm3⟩ (fun y => ?_)
        rw [f0]; exact lo y
      rw [r49_96, wi_kd, f0, f1, f3]
      refine ⟨⟨k2, h1000⟩, ⟨k2, x0⟩, ?_⟩
      split
      · rename_i hs1
        rw [i_ofNat1, i_eq (by omega) (by omega)] at hs1
        rw [i_mod (by omega) (by omega), hc]
        refine ⟨⟨k2, x0⟩, ⟨ks2, s0⟩, by rw [i_ofNat0, i_eq (by omega) (by omega)]; omega, ?_⟩
        split
        · refine ⟨⟨k2, h1000⟩, K _ (E3.tr (Ext.wi (W := fun a => a = p_nx h) _ (fun _ => rfl)) (fun a ha z => by omega)) (by rw [wi_nx, wi_nx, x2]) (by rw [wi_us, wi_us, u2]) ⟨by rw [wi_kd, wi_kd, k2], h1000, by rw [wi_nx, wi_nx, x2]; omega, 0, m, q, by rw [wi_im, if_pos ⟨rfl, rfl⟩]; rfl, by rw [wi_im, if_neg (by omega), f1], by rw [wi_im, if_neg (by omega), f2], by omega, hm1, hq, fun y => absurd y (by decide), fun y => by omega⟩ (fun _ => ?_)⟩
          rw [wi_im, if_pos ⟨rfl, rfl⟩]; decide
        · rename_i hmc
          refine done (fun _ z => hmc ?_)
          rw [z]
      · rename_i hs1
        rw [i_ofNat1, i_eq (by omega) (by omega)] at hs1
        exact done (fun z => absurd z hs1)
    rw [es]
    split
    · rename_i hs1
      refine ⟨⟨ks2, s0⟩, ?_⟩
      rw [e1]
      refine s15 hn (by omega) (fun m hm => fin m (by omega) (fun _ => hm) (fun z => ?_))
      rw [i_ofNat1, i_eq (by omega) (by omega)] at hs1
      omega
    · rename_i hs1
      rw [i_ofNat1, i_eq (by omega) (by omega)] at hs1
      have six : s = 2 ∨ s = 3 → wp (d + 1) 49 85 [.val (.ref sm), .val (.ref 60), .val (.int (Int32.ofNat A)), .val (.int x3), .val (.int x4), .val (.ref a5), .val (.int (Int32.ofNat k)), .val (.int x7), .val (.ref (p_nx h))] [.ref (p_nx h)] h2 Q := fun z => by
        rw [r49_85, show (6 : Int32) = Int32.ofNat 6 from rfl]
        exact s15 (by omega) (by omega) (fun m hm => fin m (by omega) (fun y => absurd y hs1) (fun _ => hm))
      have q2 : ∀ {A B : Prop}, (s = 2 → A) → (s ≠ 2 → B) → if Int32.ofNat s = 2 then A else B := fun ha hb => by
        split
        · rename_i z
          rw [show (2 : Int32) = Int32.ofNat 2 from rfl, i_eq (by omega) (by omega)] at z
          exact ha z
        · rename_i z
          rw [show (2 : Int32) = Int32.ofNat 2 from rfl, i_eq (by omega) (by omega)] at z
          exact hb z
      have q3 : ∀ {A B : Prop}, (s = 3 → A) → (s ≠ 3 → B) → if Int32.ofNat s = 3 then A else B := fun ha hb => by
        split
        · rename_i z
          rw [show (3 : Int32) = Int32.ofNat 3 from rfl, i_eq (by omega) (by omega)] at z
          exact ha z
        · rename_i z
          rw [show (3 : Int32) = Int32.ofNat 3 from rfl, i_eq (by omega) (by omega)] at z
          exact hb z
      refine ⟨⟨k2, x0⟩, q2 (fun z => six (Or.inl z)) (fun z2 => ⟨⟨k2, x0⟩, q3 (fun z => six (Or.inr z)) (fun z3 => ?_)⟩)⟩
      rw [show (20 : Int32) = Int32.ofNat 20 from rfl]
      exact s15 (by omega) (by omega) (fun m hm => fin m hm (fun y => absurd y hs1) (fun y => by omega))
  split
  · exact go 7 (by omega) (fun z => absurd ‹x3 = 0› z) (by omega)
  · exact go 5 (by omega) (fun _ => by omega) (by omega)
/-- the loop over a block's items -/
theorem l49 {d n f A a5 L sm m u w X Y : Nat} {xs : Nat → Int32} {x3 : Int32} {Q : Option Value → PH → Prop} {P : PH → Nat → Prop} (hm : m ≤ 3) (ha : 1000 ≤ a5)
    (hP : ∀ h h1 a, P h a → p_kd h a5 = 313 → Ext h h1 (fun x => x = a5) → P h1 a) (hP15 : ∀ h a, P h a → p_kd h a = 15 ∧ 1000 ≤ a)
    (mk : ∀ (k : Nat) (h : PH), k < m → CO L xs h → SMq n f sm h → a5 < p_nx h → p_nx h + u ≤ X → p_us h + w ≤ Y →
      (∀ h1 a8, Ext h h1 (fun _ => False) → p_nx h1 ≤ p_nx h + u → p_us h1 ≤ p_us h + w → P h1 a8 → wp (d + 1) 49 147 [.val (.ref sm), .val (.ref 60), .val (.int (Int32.ofNat A)), .val (.int x3), .val (.int (Int32.ofNat m)), .val (.ref a5), .val (.int (Int32.ofNat k)), .unset, .val (.ref a8)] [] h1 Q) →
      wp (d + 1) 49 21 [.val (.ref sm), .val (.ref 60), .val (.int (Int32.ofNat A)), .val (.int x3), .val (.int (Int32.ofNat m)), .val (.ref a5), .val (.int (Int32.ofNat k)), .unset, .unset] [] h Q) :
    ∀ (r k : Nat) (h : PH), k + r = m → CO L xs h → SMq n f sm h → p_kd h a5 = 313 → a5 < p_nx h → p_ln h a5 = m → (∀ j, j < k → P h (p_rm h a5 j)) → p_nx h + r * u ≤ X → p_us h + r * w ≤ Y →
    (∀ h1, Ext h h1 (fun x => x = a5) → p_nx h1 ≤ p_nx h + r * u → p_us h1 ≤ p_us h + r * w → (∀ j, j < m → P h1 (p_rm h1 a5 j)) → Q (some (.ref a5)) h1) →
    wp (d + 1) 49 21 [.val (.ref sm), .val (.ref 60), .val (.int (Int32.ofNat A)), .val (.int x3), .val (.int (Int32.ofNat m)), .val (.ref a5), .val (.int (Int32.ofNat k)), .unset, .unset] [] h Q := by
  intro r
  induction r with
  | zero =>
    intro k h e C S hk hx hl hv c1 c2 K
    rw [r49_21, if_neg (by rw [i_lt (by omega) (by omega)]; omega)]
    exact K h Ext.rf (by omega) (by omega) (fun j hj => hv j (by omega))
  | succ r ih =>
    intro k h e C S hk hx hl hv c1 c2 K
    rw [Nat.succ_mul] at c1 c2
    refine mk k h (by omega) C S hx (by omega) (by omega) (fun h1 a8 E1 g1 g2 g3 => ?_)
    have k1 : p_kd h1 a5 = 313 := by rw [E1.kd hx, hk]
    have l1 : p_ln h1 a5 = m := by rw [E1.ln hx, hl]
    have E2 : Ext h1 (p_wr h1 a5 k a8) (fun x => x = a5) := Ext.wr _ (fun _ => rfl)
    have E3 : Ext h (p_wr h1 a5 k a8) (fun x => x = a5) := (E1.up (fun _ _ q => q.elim)).tr E2 (fun _ _ q => q)
    rw [r49_147, k1, l1, i_nat (by omega), i_ofNat1, i_add]
    refine ⟨⟨⟨⟨rfl, ha⟩, (hP15 _ _ g3).1, by have := (hP15 _ _ g3).2; omega⟩, i_in (by omega) (by omega)⟩, ?_⟩
    refine ih (k + 1) _ (by omega) (C.ext E3 (fun a h2 q => by omega)) (S.ext E3 (fun q => by have z := S.1; rw [q, hk] at z; exact absurd z (by decide))) (by rw [wr_kd, k1]) (Nat.lt_of_lt_of_le hx E3.1) (by rw [wr_ln, l1]) (fun j hj => ?_) (by rw [wr_nx]; omega) (by rw [wr_us]; omega) (fun h2 E4 q1 q2 q3 => K h2 (E3.tr E4 (fun _ _ q => q)) (by rw [wr_nx] at q1; rw [Nat.succ_mul]; omega) (by rw [wr_us] at q2; rw [Nat.succ_mul]; omega) q3)
    rw [wr_rm]
    split
    · exact hP _ _ _ g3 k1 E2
    · rw [E1.rm hx (fun q => q)]
      exact hP _ _ _ (hv j (by omega)) hk E3
/-- a block within an item -/
theorem s49a {d n f c A L sm : Nat} {xs : Nat → Int32} {h : PH} {Q : Nat → PH → Prop} (C : CO L xs h) (hL : L ≤ 260) (hsm : SMq n f sm h) (hn : 0 < n) (hn2 : n ≤ 20) (hf : 0 < f) (hf2 : f ≤ 100) (hA : A < 1000) (hc : A % n = c) (c1 : p_nx h ≤ 500000) (c2 : p_us h ≤ 5000000)
    (K : ∀ h1 a, Ext h h1 (fun _ => False) → p_nx h1 ≤ p_nx h + 3 → p_us h1 ≤ p_us h + 12 → p_nx h ≤ a → BK1 n f c h1 a → Q a h1) : CR (d + 3) 49 [.ref sm, .ref 60, .int (Int32.ofNat A), .int (1 : Int32)] h Q := by
  have h1000 := C.1
  have e1 : p_CN = 601086 := rfl
  have e2 : p_CS = 7301442 := rfl
  rw [e49, show (16 : Int32) = Int32.ofNat 16 from rfl, i_mod (by omega) (by omega)]
  refine ⟨by decide, s14 C hL (by omega) (fun z1 => ⟨by decide, ?_⟩)⟩
  rw [if_neg (by decide), r49_14, show (3 : Int32) = Int32.ofNat 3 from rfl]
  refine s15 (by omega) (by omega) (fun m hm => ?_)
  rw [i_nat (by omega)]
  refine ⟨⟨i_neg (by omega), by omega, by omega⟩, ?_⟩
  have E0 : Ext h (p_new h 313 m m) (fun _ => False) := Ext.pn 313 m m
  refine l49 (d := d + 1) (n := n) (f := f) (P := IL1 n f c) (u := 1) (w := 5) (X := 500010) (Y := 5000100) (x3 := 1) (L := L) (xs := xs) (by omega) h1000 (fun h h1 a I e E => I.ext E (fun x hx q => by rw [q, e] at hx; exact absurd hx (by decide))) (fun h a I => ⟨I.1.1, I.1.2.1⟩) (fun k h2 hk C2 S2 hx q1 q2 K2 => ?_) m 0 _ (by omega) (C.ext E0 (fun _ _ q => q)) (hsm.ext E0 (fun q => q)) (by rw [pn_kd, if_pos rfl]) (by rw [pn_nx]; omega) (by rw [pn_ln, if_pos rfl]) (fun j hj => absurd hj (Nat.not_lt_zero _)) (by rw [pn_nx]; omega) (by rw [pn_us]; omega) (fun h1 E1 q1 q2 q3 => ?_)
  · refine m49 C2 hL S2 hn hn2 hf hf2 hA (by omega) hc (by rw [i_lt (by omega) (by omega)]; exact hk) (by omega) (by omega) (fun h3 E3 p1 p2 I p3 => ?_)
    have I3 := I
    obtain ⟨i1, i2, i3⟩ := I3
    rw [r49_111, if_neg (p3 (by decide))]
    exact ⟨⟨i1, by omega⟩, K2 h3 _ E3 (by omega) (by omega) ⟨I, p3 (by decide)⟩⟩
  · rw [pn_nx] at q1
    rw [pn_us] at q2
    have E4 : Ext h h1 (fun _ => False) := E0.tr E1 (fun a ha q => by omega)
    have lt : p_nx h < p_nx (p_new h 313 m m) := by rw [pn_nx]; omega
    have ln : p_ln h1 (p_nx h) = m := by rw [E1.ln lt, pn_ln, if_pos rfl]
    refine K h1 _ E4 (by omega) (by omega) (Nat.le_refl _) ⟨by rw [E1.kd lt, pn_kd, if_pos rfl], h1000, E1.lt lt, by omega, fun j hj => q3 j (by omega)⟩
/-- a block of a clause -/
theorem s49b {d n f c A L sm : Nat} {xs : Nat → Int32} {h : PH} {Q : Nat → PH → Prop} (C : CO L xs h) (hL : L ≤ 260) (hsm : SMq n f sm h) (hn : 0 < n) (hn2 : n ≤ 20) (hf : 0 < f) (hf2 : f ≤ 100) (hA : A < 500) (hc : A % n = c) (c1 : p_nx h ≤ 490000) (c2 : p_us h ≤ 4800000)
    (K : ∀ h1 a, Ext h h1 (fun _ => False) → p_nx h1 ≤ p_nx h + 22 → p_us h1 ≤ p_us h + 90 → p_nx h ≤ a → BK0 n f c h1 a → Q a h1) : CR (d + 5) 49 [.ref sm, .ref 60, .int (Int32.ofNat A), .int (0 : Int32)] h Q := by
  have h1000 := C.1
  have e1 : p_CN = 601086 := rfl
  have e2 : p_CS = 7301442 := rfl
  rw [e49, show (16 : Int32) = Int32.ofNat 16 from rfl, i_mod (by omega) (by omega)]
  refine ⟨by decide, s14 C hL (by omega) (fun z1 => ⟨by decide, ?_⟩)⟩
  rw [if_pos rfl, r49_14, show (4 : Int32) = Int32.ofNat 4 from rfl]
  refine s15 (by omega) (by omega) (fun m hm => ?_)
  rw [i_nat (by omega)]
  refine ⟨⟨i_neg (by omega), by omega, by omega⟩, ?_⟩
  have E0 : Ext h (p_new h 313 m m) (fun _ => False) := Ext.pn 313 m m
  refine l49 (d := d + 3) (n := n) (f := f) (P := IT0 n f c (p_nx h)) (u := 7) (w := 29) (X := 499000) (Y := 4900000) (x3 := 0) (L := L) (xs := xs) (by omega) h1000 (fun h2 h1 a I e E => I.ext E (fun x hx q => by rw [q, e] at hx; exact absurd hx (by decide)) (fun x hx _ q => by omega)) (fun h a I => ⟨I.1.1, I.1.2.1⟩) (fun k h2 hk C2 S2 hx q1 q2 K2 => ?_) m 0 _ (by omega) (C.ext E0 (fun _ _ q => q)) (hsm.ext E0 (fun q => q)) (by rw [pn_kd, if_pos rfl]) (by rw [pn_nx]; omega) (by rw [pn_ln, if_pos rfl]) (fun j hj => absurd hj (Nat.not_lt_zero _)) (by rw [pn_nx]; omega) (by rw [pn_us]; omega) (fun h1 E1 q1 q2 q3 => ?_)
  · refine m49 C2 hL S2 hn hn2 hf hf2 (by omega) (by omega) hc (by rw [i_lt (by omega) (by omega)]; exact hk) (by omega) (by omega) (fun h3 E3 p1 p2 I p3 => ?_)
    obtain ⟨i1, i2, i3, i4⟩ := id I
    have x0 : ¬ p_nx h2 = 0 := by omega
    rw [r49_111]
    refine ⟨⟨i1, x0⟩, ?_⟩
    split
    · have S3 := S2.ext E3 (fun q => q)
      have hA2 : ∀ r, r ≤ 7 → A + 3 * n * r < 1000 ∧ (A + 3 * n * r) % n = c := fun r hr => by
        have h7 : 3 * n * r ≤ 3 * 20 * 7 := Nat.mul_le_mul (Nat.mul_le_mul (Nat.le_refl _) hn2) hr
        refine ⟨by omega, ?_⟩
        rw [show A + 3 * n * r = A + n * (3 * r) from by rw [Nat.mul_comm 3 n, Nat.mul_assoc], Nat.add_mul_mod_self_left, hc]
      have hsm0 : ¬ sm = 0 := by have := S3.2.1; omega
      rw [S3.2.2.2.2, show (3 : Int32) = Int32.ofNat 3 from rfl, i_ofNat1, i_mul, i_add, i_mul, i_add]
      refine ⟨⟨S3.1, hsm0⟩, s49a (C2.ext E3 (fun _ _ q => q)) hL S3 hn hn2 hf hf2 (hA2 (k + 1) (by omega)).1 (hA2 (k + 1) (by omega)).2 (by omega) (by omega) (fun h4 b1 E4 p4 p5 p6 B1 => ?_)⟩
      have E5 := E3.tr E4 (fun _ _ q => q)
      have k4 : p_kd h4 (p_nx h2) = 15 := by rw [E4.kd i3, i1]
      have E6 : Ext h2 (p_wr h4 (p_nx h2) 3 b1) (fun _ => False) := E5.tr (Ext.wr (W := fun a => a = p_nx h2) _ (fun _ => rfl)) (fun a ha q => by omega)
      have E7 : Ext h4 (p_wr h4 (p_nx h2) 3 b1) (fun a => a = p_nx h2) := Ext.wr _ (fun _ => rfl)
      have S6 := S2.ext E6 (fun q => q)
      have B2 : BK1 n f c (p_wr h4 (p_nx h2) 3 b1) b1 := B1.wr (by omega)
      rw [S6.2.2.2.2, show (4 : Int32) = Int32.ofNat 4 from rfl, i_mul, i_add, i_mul, i_add]
      refine ⟨⟨k4, by omega⟩, ⟨S6.1, hsm0⟩, s49a (C2.ext E6 (fun _ _ q => q)) hL S6 hn hn2 hf hf2 (hA2 (k + 4) (by omega)).1 (hA2 (k + 4) (by omega)).2 (by rw [wr_nx]; omega) (by rw [wr_us]; omega) (fun h5 b2 E8 p7 p8 p9 B3 => ?_)⟩
      rw [wr_nx] at p7 p9
      rw [wr_us] at p8
      have lt4 : p_nx h2 < p_nx (p_wr h4 (p_nx h2) 3 b1) := Nat.lt_of_lt_of_le i3 E4.1
      have k5 : p_kd h5 (p_nx h2) = 15 := by rw [E8.kd lt4, wr_kd, k4]
      have E9 : Ext h2 (p_wr h5 (p_nx h2) 4 b2) (fun _ => False) := (E6.tr E8 (fun _ _ q => q)).tr (Ext.wr (W := fun a => a = p_nx h2) _ (fun _ => rfl)) (fun a ha q => by omega)
      have E10 : Ext h5 (p_wr h5 (p_nx h2) 4 b2) (fun a => a = p_nx h2) := Ext.wr _ (fun _ => rfl)
      refine ⟨⟨k5, by omega⟩, K2 _ _ E9 (by rw [wr_nx]; omega) (by rw [wr_us]; omega) ?_⟩
      have I4 : IT1 n f c (p_wr h4 (p_nx h2) 3 b1) (p_nx h2) := (I.ext E4 (fun q => q)).wr
      have I5 : IT1 n f c (p_wr h5 (p_nx h2) 4 b2) (p_nx h2) := (I4.ext E8 (fun q => q)).wr
      refine ⟨I5, fun _ => ?_⟩
      rw [wr_rm, if_neg (by omega), E8.rm lt4 (fun q => q), wr_rm, if_pos ⟨rfl, rfl⟩, wr_rm, if_pos ⟨rfl, rfl⟩]
      have q4 := E4.1
      exact ⟨⟨by omega, BK1.wr (B2.ext E8 (fun _ _ q => q) (fun q => q)) (by omega)⟩, by omega, B3.wr (by omega)⟩
    · rename_i hlo
      exact K2 h3 _ E3 (by omega) (by omega) ⟨I, fun q => absurd q hlo⟩
  · rw [pn_nx] at q1
    rw [pn_us] at q2
    have E4 : Ext h h1 (fun _ => False) := E0.tr E1 (fun a ha q => by omega)
    have lt : p_nx h < p_nx (p_new h 313 m m) := by rw [pn_nx]; omega
    have ln : p_ln h1 (p_nx h) = m := by rw [E1.ln lt, pn_ln, if_pos rfl]
    refine K h1 _ E4 (by omega) (by omega) (Nat.le_refl _) ⟨by rw [E1.kd lt, pn_kd, if_pos rfl], h1000, E1.lt lt, by omega, fun j hj => q3 j (by omega)⟩
