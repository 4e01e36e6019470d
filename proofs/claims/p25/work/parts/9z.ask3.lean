/-! Kinds are counted; friction; facts are set, clauses chosen, and what would be. -/
set_option maxRecDepth 100000 in
theorem fr_all : ∀ a, a < 61 → ∀ b, b < 8 → b ≠ 0 → (FP.ddiv (FP.i2d (Int32.ofNat a)) (FP.i2d (Int32.ofNat b)) &&& 0x7fffffffffffffff ≤ 0x7ff0000000000000) ∧ Op.cmpValue (FP.dcmp (FP.ddiv (FP.i2d (Int32.ofNat a)) (FP.i2d (Int32.ofNat b))) (FP.ddiv (FP.i2d (Int32.ofNat a)) (FP.i2d (Int32.ofNat b)))) .l = 0 := by decide +kernel
theorem fr_0 : Op.cmpValue (FP.dcmp (0 : UInt64) (0 : UInt64)) .l = 0 := by decide +kernel
def cK (k : Nat) (l : List Nat) : Nat := List.count k l
theorem cK_succ {k i : Nat} {l : List Nat} (hi : i < l.length) : cK k (l.take (i + 1)) = cK k (l.take i) + (if l.getD i 0 = k then 1 else 0) := by
  unfold cK
  rw [List.take_succ, List.count_append, List.getD_eq_getElem?_getD, List.getElem?_eq_getElem hi]
  show _ + List.count k [l[i]] = _ + if l[i] = k then 1 else 0
  rw [List.count_singleton]
  by_cases z : l[i] = k
  · rw [if_pos z, if_pos (beq_iff_eq.mpr z)]
  · rw [if_neg z, if_neg (fun q => z (beq_iff_eq.mp q))]
def set1 (ch c : Nat) (w : Int32) : Nat := if w = 1 then ch ||| 2 ^ c else an ch (2 ^ c)
def set0 (dr c : Nat) (w : Int32) : Nat := if w = 0 then dr ||| 2 ^ c else an dr (2 ^ c)
section ASK3
variable {d L n nt ch dr om m nf c : Nat} {xs : Nat → Int32} {g h h1 : PH} {nd br af : Nat → Nat} {HX : Nat → List (Nat × Nat)} {fv : Nat → Int32} {Q : Int32 → PH → Prop}
theorem set1_lt {w : Int32} (hc : c < n) (h1 : ch < 2 ^ n) : set1 ch c w < 2 ^ n := by
  unfold set1
  split
  · exact Nat.or_lt_two_pow h1 (Nat.pow_lt_pow_right (by decide) hc)
  · exact an_lt h1
theorem set0_lt {w : Int32} (hc : c < n) (h1 : dr < 2 ^ n) : set0 dr c w < 2 ^ n := by
  unfold set0
  split
  · exact Nat.or_lt_two_pow h1 (Nat.pow_lt_pow_right (by decide) hc)
  · exact an_lt h1
theorem set_dis {w : Int32} (h1 : ch < 128) (h2 : dr < 128) (hd : ∀ i, ch.testBit i = true → dr.testBit i = false) : ∀ i, (set1 ch c w).testBit i = true → (set0 dr c w).testBit i = false := by
  intro i hi
  unfold set1 at hi
  unfold set0
  by_cases z1 : w = 1
  · rw [if_pos z1, Nat.testBit_or, Nat.testBit_two_pow] at hi
    rw [if_neg (by rw [z1]; decide), an_one h2]
    by_cases y : i = c
    · rw [decide_eq_true y]; simp
    · rw [decide_eq_false (fun q => y q.symm), Bool.or_false] at hi
      rw [hd i hi]; rfl
  · rw [if_neg z1, an_one h1, Bool.and_eq_true] at hi
    have y : ¬ i = c := fun q => by rw [decide_eq_true q] at hi; exact absurd hi.2 (by decide)
    by_cases z0 : w = 0
    · rw [if_pos z0, Nat.testBit_or, Nat.testBit_two_pow, hd i hi.1, decide_eq_false (fun q => y q.symm)]; rfl
    · rw [if_neg z0, an_one h2, hd i hi.1]; rfl
theorem or_self_bit (hb : ch.testBit c = true) : ch ||| 2 ^ c = ch := by
  apply Nat.eq_of_testBit_eq
  intro i
  rw [Nat.testBit_or, Nat.testBit_two_pow]
  by_cases y : c = i
  · rw [← y, hb]; rfl
  · rw [decide_eq_false y, Bool.or_false]
theorem an_self_bit (h1 : ch < 128) (hb : ch.testBit c = false) : an ch (2 ^ c) = ch := by
  apply Nat.eq_of_testBit_eq
  intro i
  rw [an_one h1]
  by_cases y : i = c
  · rw [y, hb]; rfl
  · rw [decide_eq_false y]; simp
/-- the choice as it is changes nothing -/
theorem set_cho (h1 : ch < 128) (h2 : dr < 128) (hd : ∀ i, ch.testBit i = true → dr.testBit i = false) : set1 ch c (cho ch dr c) = ch ∧ set0 dr c (cho ch dr c) = dr := by
  by_cases hb : ch.testBit c = true
  · have e : cho ch dr c = 1 := by unfold cho; rw [if_pos hb]
    unfold set1 set0
    rw [e, if_pos rfl, if_neg (by decide)]
    exact ⟨or_self_bit hb, an_self_bit h2 (hd c hb)⟩
  · have hb1 : ch.testBit c = false := Bool.eq_false_iff.mpr hb
    by_cases hb2 : dr.testBit c = true
    · have e : cho ch dr c = 0 := by unfold cho; rw [if_neg hb, if_pos hb2]
      unfold set1 set0
      rw [e, if_neg (by decide), if_pos rfl]
      exact ⟨an_self_bit h1 hb1, or_self_bit hb2⟩
    · have e : cho ch dr c = -1 := by unfold cho; rw [if_neg hb, if_neg hb2]
      unfold set1 set0
      rw [e, if_neg (by decide), if_neg (by decide)]
      exact ⟨an_self_bit h1 hb1, an_self_bit h2 (Bool.eq_false_iff.mpr hb2)⟩
theorem l181 {k : Nat} {KL : List Nat} {f : Nat} {Q : Option Value → PH → Prop} (C : CTF h f) (hf : f ≠ 0) (N : FND h f KL) (hK : ∀ x ∈ KL, x < 9) (hk : k < 9) : ∀ (j i : Nat), i + j = min KL.length 60 → Q (some (.int (Int32.ofNat (cK k (KL.take 60))))) h →
    wp (d + 1) 181 4 [.val (.ref f), .val (.int (Int32.ofNat k)), .val (.int (Int32.ofNat (cK k (KL.take i)))), .val (.int (Int32.ofNat i))] [] h Q := by
  intro j
  induction j with
  | zero =>
    intro i hi K
    have e : i = min KL.length 60 := by omega
    have m31 : min KL.length 60 < 2147483648 := by omega
    have nn : ¬ min KL.length 60 < min KL.length 60 := by omega
    rw [r181_4, N.1, e, if_neg (by rw [i_lt m31 m31]; exact nn)]
    refine ⟨⟨C.1, hf⟩, ?_⟩
    have : KL.take (min KL.length 60) = KL.take 60 := by
      by_cases z : KL.length ≤ 60
      · rw [show min KL.length 60 = KL.length from by omega, List.take_length, List.take_of_length_le z]
      · rw [show min KL.length 60 = 60 from by omega]
    rw [this]
    exact K
  | succ j ih =>
    intro i hi K
    have i60 : i < 60 := by omega
    have il : i < KL.length := by omega
    have i31 : i < 2147483648 := by omega
    have m31 : min KL.length 60 < 2147483648 := by omega
    have nn : i < min KL.length 60 := by omega
    have f1 : ¬ f + 1 = 0 := by omega
    have hx := hK _ (gDn_mem il)
    have x31 : KL.getD i 0 < 2147483648 := by omega
    have k31 : k < 2147483648 := by omega
    have K1 := ih (i + 1) (by omega) K
    rw [cK_succ il] at K1
    rw [r181_4, N.1, if_pos (by rw [i_lt i31 m31]; exact nn), C.2.1, C.2.2.2.2.1.1, C.2.2.2.2.1.2, i_nat i31, N.2 i i60 il]
    refine ⟨⟨C.1, hf⟩, ⟨C.1, hf⟩, ⟨⟨by decide, f1⟩, i_in i60 (by decide)⟩, ?_⟩
    by_cases z : KL.getD i 0 = k
    · rw [if_pos z] at K1
      rw [if_pos (by rw [z]), r181_18, i_inc, i_inc]
      exact K1
    · rw [if_neg z, Nat.add_zero] at K1
      rw [if_neg (by rw [i_eq x31 k31]; exact z), r181_18, i_inc, Int32.add_zero]
      exact K1
theorem acf {k : Nat} (D : DES L xs g n nd af om nt HX fv ch dr h) (hK : ∀ x ∈ klM g n HX nt fv (orM g n nd af om fv ch dr), x < 9) (k1 : 1 ≤ k) (k8 : k ≤ 8) (K : Q (Int32.ofNat (cK k ((klM g n HX nt fv (orM g n nd af om fv ch dr)).take 60))) h) : CI (d + 3) 182 [.ref 1000, .int (Int32.ofNat k)] h Q := by
  have k31 : k < 2147483648 := by omega
  have n1 : ¬ k < 1 := by omega
  have n8 : ¬ 8 < k := by omega
  rw [e182, if_neg (by rw [show (1 : Int32) = Int32.ofNat 1 from rfl, i_lt k31 (by decide)]; exact n1), if_neg (by rw [show (8 : Int32) = Int32.ofNat 8 from rfl, i_lt (by decide) k31]; exact n8)]
  refine ⟨D.k1, D.k7, D.k8, ?_⟩
  rw [D.r81, e181]
  exact l181 (d := d) (Q := fun v h1 => onI v (fun x => Q x h1)) D.ct.2.2.2.2.2.2.2.2.2.2.2.2.2.2.2.1 (by decide) D.dn.2.2.2.2.1 hK (by omega) _ 0 (Nat.zero_add _) K
theorem afr {Q : UInt64 → PH → Prop} (D : DES L xs g n nd af om nt HX fv ch dr h) (h7 : (orM g n nd af om fv ch dr).length ≤ 7) (K : Q (if Int32.ofNat (orM g n nd af om fv ch dr).length = 0 then 0 else FP.ddiv (FP.i2d (Int32.ofNat (min (klM g n HX nt fv (orM g n nd af om fv ch dr)).length 60))) (FP.i2d (Int32.ofNat (orM g n nd af om fv ch dr).length))) h) : CD (d + 1) 183 [.ref 1000] h Q := by
  have o31 : (orM g n nd af om fv ch dr).length < 2147483648 := by omega
  have m61 : min (klM g n HX nt fv (orM g n nd af om fv ch dr)).length 60 < 61 := by omega
  have o8 : (orM g n nd af om fv ch dr).length < 8 := by omega
  rw [e183]
  refine ⟨D.k1, D.k7, D.k10, ?_⟩
  rw [D.r80, D.dn.2.2.1.2.1, D.r81, D.dn.2.2.2.2.1.1]
  generalize hv : Int32.ofNat (orM g n nd af om fv ch dr).length = v at *
  by_cases z : v = 0
  · rw [if_pos z] at K ⊢; exact K
  · rw [if_neg z] at K ⊢
    refine ⟨D.k1, D.k7, D.r81 ▸ D.k8, ?_, K⟩
    rw [← hv]
    exact (fr_all _ m61 _ o8 (fun q => z (by rw [← hv, q]; rfl))).1
/-- the contract is drawn anew -/
theorem DES.rd (B : LIB L xs g h) (S : DKS h) (F : FR (wCt 1067) (wCs 1067) h h1) (C : CTS h1 1067 6000) : LIB L xs g h1 ∧ DKS h1 := by
  have wr : ∀ a, ¬ a = 1072 → ¬ wCs 1067 a := fun a q z => q z
  obtain ⟨k0, ⟨r0, r3, r5, r8, r9, r10, r11⟩, k2, k3, k4, k5⟩ := S
  have r : ∀ j, p_rm h1 1000 j = p_rm h 1000 j := fun j => F.rm (wr 1000 (by decide)) j
  refine ⟨B.ct (by decide) F, by rw [F.kd]; exact k0, ⟨(r 0).trans r0, (r 3).trans r3, (r 5).trans r5, (r 8).trans r8, (r 9).trans r9, (r 10).trans r10, (r 11).trans r11⟩, ?_, k3.fr F (wr _ (by decide)), C, k5.fr F (fun a q => Or.inr (Or.inl (by have q : a = 1072 := q; omega))) (fun q => absurd q (wr _ (by decide)))⟩
  exact ⟨by rw [F.kd]; exact k2.1, by rw [F.rm (wr 1107 (by decide))]; exact k2.2.1, by rw [F.rm (wr 1107 (by decide))]; exact k2.2.2.1, by rw [F.kd]; exact k2.2.2.2.1, by rw [F.ln]; exact k2.2.2.2.2.1, by rw [F.kd]; exact k2.2.2.2.2.2.1, by rw [F.ln]; exact k2.2.2.2.2.2.2⟩
/-- a write to the desk or to its facts leaves what it is made of -/
theorem DKS.wi {a i : Nat} {v : Int32} (S : DKS h) : DKS (p_wi h a i v) := by
  obtain ⟨k0, ⟨r0, r3, r5, r8, r9, r10, r11⟩, k2, k3, k4, k5⟩ := S
  have F : FR (fun _ => True) w0 h (p_wi h a i v) := FR.wi _ trivial
  exact ⟨k0, ⟨r0, r3, r5, r8, r9, r10, r11⟩, k2, k3, k4.fr0 F, k5.fr0 F⟩
theorem s165 {f : Nat} {v : Int32} (K0 : KNO g nf n nd br af om nt HX) (D : DES L xs g n nd af om nt HX fv ch dr h) (hf : f < nf) (h1v : ¬ v < -99999) (h2v : ¬ 99999 < v) (K : ∀ z h1, p_nx h1 = p_nx h → p_us h1 = p_us h → Ext h h1 (fun a => 1000 ≤ a ∧ a < 1120) → DES L xs g n nd af om nt HX (fun j => if j = f then v else fv j) ch dr h1 → Q z h1) : CI (d + 8) 165 [.ref 1000, .int (Int32.ofNat f), .int v] h Q := by
  obtain ⟨V, ent, hnt, hHX, enf, nf0, nf3⟩ := K0
  have f31 : f < 2147483648 := by omega
  have nf31 : nf < 2147483648 := by omega
  have f10 : f < 10 := by omega
  have f66 := D.ct.2.2.2.2.2.2.2.2.2.2.2.2.2.2.2.2.2.2
  have hin : p_in (Int32.ofNat f) 10 := i_in f10 (by decide)
  have D2 : DKS (p_wi h 1066 f v) := D.1.2.wi
  have F1 : FR (fun a => a = 1066) w0 h (p_wi h 1066 f v) := FR.wi _ rfl
  have B2 : LIB L xs g (p_wi h 1066 f v) := D.1.1.fr F1 (fun a q z => by have z : a = 1066 := z; unfold wL at q; omega) (fun _ _ z => z)
  rw [e165]
  refine ⟨D.k1, ?_⟩
  rw [e164, if_neg (i_neg f31), D.r3, D.1.1.im 1034 (by decide) (by decide), enf, if_pos (by rw [i_lt f31 nf31]; exact hf)]
  refine ⟨D.k1, D.1.1.lb, Or.inr rfl, ?_⟩
  rw [if_neg (by decide), if_neg h1v, if_neg h2v, D.r5, f66.1, f66.2, i_nat f31]
  obtain ⟨q0, ⟨q1, q2, q3, q4, q5, q6, q7⟩, q8, q9, q10, q11⟩ := id D2
  have i6 : p_im (p_wi h 1066 f v) 1000 6 = Int32.ofNat ch := by rw [wi_im, if_neg (fun z => absurd z.1 (by decide)), D.2.2.1.1]
  have i7 : p_im (p_wi h 1066 f v) 1000 7 = Int32.ofNat dr := by rw [wi_im, if_neg (fun z => absurd z.1 (by decide)), D.2.2.1.2]
  have k1 : p_kd (p_wi h 1066 f v) 1000 = 1 ∧ ¬ 1000 = 0 := ⟨q0, by decide⟩
  rw [q4, q2, q3, i6, i7]
  refine ⟨D.k1, ⟨⟨by decide, by decide⟩, hin⟩, D.k1, ⟨⟨rfl, by decide⟩, hin⟩, k1, k1, k1, k1, k1, ⟨q10.1, by decide⟩, s161 (d := d) V B2 q10 D.2.2.2.1.1 ent hnt hHX (fun h2 F2 C2 N2 => ?_)⟩
  have w66 : ¬ wCt 1067 1066 := by unfold wCt; decide
  have w10 : ¬ wCt 1067 1000 := by unfold wCt; decide
  have e66 : p_im (p_wi h 1066 f v) 1066 = (fun j => if j = f then v else fv j) := by
    funext j
    rw [wi_im]
    by_cases z : j = f
    · rw [if_pos ⟨rfl, z⟩, if_pos z]
    · rw [if_neg (fun q => z q.2), if_neg z, D.2.1]
  rw [e66] at N2
  refine K _ h2 (by rw [F2.1, wi_nx]) (by rw [F2.2.1, wi_us]) ?_ ⟨DES.rd B2 D2 F2 C2, (funext (fun j => F2.im w66 j)).trans e66, ⟨(F2.im w10 6).trans i6, (F2.im w10 7).trans i7⟩, D.2.2.2.1, D.2.2.2.2.1, N2⟩
  refine (F1.ext.up (W1 := fun a => 1000 ≤ a ∧ a < 1120) (fun a _ q => ?_)).tr F2.ext (fun a _ q => ?_)
  · rcases q with q | q
    · have q : a = 1066 := q
      omega
    · exact q.elim
  · unfold wCt wCs at q
    omega
end ASK3
