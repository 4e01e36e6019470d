/-! What the law works with: the library that was chosen, the desk that was taught it. -/
def ndD (Ds : List CLD) : Nat → Nat := fun c => msk (cl_N (Ds.getD c D0))
def brD (Ds : List CLD) : Nat → Nat := fun c => msk (cl_B (Ds.getD c D0))
def afD (Ds : List CLD) : Nat → Nat := fun c => msk (cl_A (Ds.getD c D0))
def hxD (Ds : List CLD) : Nat → List (Nat × Nat) := fun c => hxm (chead (Ds.getD c D0))
def LWK (g : PH) (nf n : Nat) (Ds : List CLD) (om nt : Nat) : Prop := KNO g nf n (ndD Ds) (brD Ds) (afD Ds) om nt (hxD Ds) ∧ OKG g nt ∧ (Ds.length = n ∧ ∀ c, c < n → okD n nf c (Ds.getD c D0)) ∧
  (∀ c, c < n → p_im g (1047 + c) 0 = Int32.ofNat (cl_o (Ds.getD c D0)) ∧ p_im g (1047 + c) 1 = (bif Nat.beq (cl_o (Ds.getD c D0)) 0 then 0 else Int32.ofNat (cl_g (Ds.getD c D0)) - Int32.ofNat (cl_b (Ds.getD c D0)))) ∧ OMx Ds om
def CON (g : PH) (n : Nat) (Ds : List CLD) (om nt : Nat) (fv : Nat → Int32) (ch dr m : Nat) (ord KL : List Nat) (TT : (Nat → Nat) × (Nat → Nat) × (Nat → Int32)) : Prop :=
  m = inM g n (ndD Ds) om fv ch dr ∧ ord = orM g n (ndD Ds) (afD Ds) om fv ch dr ∧ KL = klM g n (hxD Ds) nt fv ord ∧ TT = ttM g n fv ord
def ROW (h : PH) (a : Nat) (l : List Nat) (N : Nat) : Prop := p_kd h a = 100 ∧ 1120 ≤ a ∧ a < N ∧ p_ln h a = l.length ∧ ∀ j, j < l.length → p_im h a j = Int32.ofNat (l.getD j 0)
/-- the library by hand -/
def SIM (sm p n nf nt : Nat) (Ds : List CLD) (N : Nat) (h : PH) : Prop := (1120 ≤ sm ∧ sm < N ∧ 1120 ≤ p ∧ p + 8 ≤ N) ∧ (p_kd h sm = 12 ∧ p_im h sm 0 = Int32.ofNat nf ∧ p_im h sm 1 = Int32.ofNat n ∧ p_im h sm 2 = Int32.ofNat nt) ∧
  (p_rm h sm 6 = p + 2 ∧ p_rm h sm 7 = p + 3 ∧ p_rm h sm 8 = p + 4 ∧ p_rm h sm 9 = p + 5 ∧ p_rm h sm 10 = p + 6 ∧ p_rm h sm 11 = p + 7) ∧
  ((p_kd h (p + 2) = 300 ∧ p_ln h (p + 2) = n) ∧ (p_kd h (p + 3) = 100 ∧ p_ln h (p + 3) = n) ∧ (p_kd h (p + 4) = 100 ∧ p_ln h (p + 4) = n) ∧ (p_kd h (p + 5) = 314 ∧ p_ln h (p + 5) = n) ∧ (p_kd h (p + 6) = 314 ∧ p_ln h (p + 6) = n) ∧ (p_kd h (p + 7) = 314 ∧ p_ln h (p + 7) = n)) ∧
  ∀ c, c < n → (p_im h (p + 2) c = Int32.ofNat (cl_o (Ds.getD c D0)) ∧ p_im h (p + 3) c = Int32.ofNat (cl_g (Ds.getD c D0)) ∧ p_im h (p + 4) c = Int32.ofNat (cl_b (Ds.getD c D0))) ∧ ROW h (p_rm h (p + 5) c) (cl_N (Ds.getD c D0)) N ∧ ROW h (p_rm h (p + 6) c) (cl_B (Ds.getD c D0)) N ∧ ROW h (p_rm h (p + 7) c) (cl_A (Ds.getD c D0)) N
def EXn (N : Nat) (h h1 : PH) : Prop := ∀ a, 1120 ≤ a → a < N → (p_kd h1 a = p_kd h a ∧ p_ln h1 a = p_ln h a) ∧ (∀ j, p_im h1 a j = p_im h a j) ∧ ∀ j, p_rm h1 a j = p_rm h a j
def ST (L : Nat) (xs : Nat → Int32) (g : PH) (nf n : Nat) (Ds : List CLD) (om nt : Nat) (fv : Nat → Int32) (ch dr sm p N x u : Nat) (h : PH) : Prop := DES L xs g n (ndD Ds) (afD Ds) om nt (hxD Ds) fv ch dr h ∧ SIM sm p n nf nt Ds N h ∧ p_nx h = x ∧ p_us h = u
/-- a row of nine counts -/
def KR (a : Nat) (kk : Nat → Nat) (h : PH) : Prop := p_kd h a = 100 ∧ 1120 ≤ a ∧ p_ln h a = 9 ∧ ∀ j, j < 9 → p_im h a j = Int32.ofNat (kk j)
set_option maxRecDepth 100000 in
theorem hb_bi : ∀ m, m < 128 → ∀ i, i < 16 → ((((Int32.ofNat m) >>> ((Int32.ofNat i) &&& 31)) &&& (1 : Int32)) = bi (m.testBit i)) := by decide +kernel
section KNOW
variable {d L nf n om nt ch dr sm p N x u m c : Nat} {xs : Nat → Int32} {g h h1 : PH} {Ds : List CLD} {fv : Nat → Int32} {ord KL : List Nat} {TT : (Nat → Nat) × (Nat → Nat) × (Nat → Int32)} {Q : Int32 → PH → Prop}
theorem EXn.rf : EXn N h h := fun _ _ _ => ⟨⟨rfl, rfl⟩, fun _ => rfl, fun _ => rfl⟩
theorem EXn.tr {h2 : PH} (A : EXn N h h1) (B : EXn N h1 h2) : EXn N h h2 := fun a q1 q2 => by
  obtain ⟨⟨a1, a2⟩, a3, a4⟩ := A a q1 q2
  obtain ⟨⟨b1, b2⟩, b3, b4⟩ := B a q1 q2
  exact ⟨⟨b1.trans a1, b2.trans a2⟩, fun j => (b3 j).trans (a3 j), fun j => (b4 j).trans (a4 j)⟩
theorem EXn.fr {Wi Wr : Nat → Prop} (F : FR Wi Wr h h1) (h1' : ∀ a, 1120 ≤ a → ¬ Wi a) (h2' : ∀ a, 1120 ≤ a → ¬ Wr a) : EXn N h h1 := fun a q1 _ => ⟨⟨by rw [F.kd], by rw [F.ln]⟩, fun j => F.im (h1' a q1) j, fun j => F.rm (h2' a q1) j⟩
theorem EXn.fa (F : FR wA wAs h h1) : EXn N h h1 := EXn.fr F (fun a q z => by unfold wA at z; omega) (fun a q z => by unfold wAs at z; omega)
theorem EXn.ext (E : Ext h h1 (fun a => 1000 ≤ a ∧ a < 1120)) (hN : N ≤ p_nx h) : EXn N h h1 := fun a q1 q2 => by
  have lt : a < p_nx h := by omega
  have nw : ¬ (1000 ≤ a ∧ a < 1120) := by omega
  exact ⟨⟨E.kd lt, E.ln lt⟩, fun j => E.im lt nw j, fun j => E.rm lt nw j⟩
theorem EXn.pn {k l v : Nat} (hN : N ≤ p_nx h) : EXn N h (p_new h k l v) := fun a q1 q2 => by
  have ne : a ≠ p_nx h := by omega
  exact ⟨⟨by rw [pn_kd, if_neg ne], by rw [pn_ln, if_neg ne]⟩, fun j => by rw [pn_im, if_neg ne], fun j => by rw [pn_rm, if_neg ne]⟩
theorem EXn.wi {a j : Nat} {v : Int32} (ha : N ≤ a) : EXn N h (p_wi h a j v) := fun b q1 q2 => by
  have ne : b ≠ a := by omega
  exact ⟨⟨by rw [wi_kd], by rw [wi_ln]⟩, fun i => by rw [wi_im, if_neg (fun z => ne z.1)], fun i => by rw [wi_rm]⟩
theorem ROW.ex {a : Nat} {l : List Nat} (R : ROW h a l N) (E : EXn N h h1) : ROW h1 a l N := by
  obtain ⟨r1, r2, r3, r4, r5⟩ := R
  obtain ⟨⟨e1, e2⟩, e3, -⟩ := E a r2 r3
  exact ⟨e1.trans r1, r2, r3, e2.trans r4, fun j hj => (e3 j).trans (r5 j hj)⟩
theorem SIM.ex (S : SIM sm p n nf nt Ds N h) (E : EXn N h h1) : SIM sm p n nf nt Ds N h1 := by
  obtain ⟨⟨a1, a2, a3, a4⟩, ⟨b1, b2, b3, b4⟩, ⟨c1, c2, c3, c4, c5, c6⟩, ⟨⟨d1, d2⟩, ⟨d3, d4⟩, ⟨d5, d6⟩, ⟨d7, d8⟩, ⟨d9, d10⟩, ⟨d11, d12⟩⟩, e⟩ := S
  obtain ⟨⟨s1, s2⟩, s3, s4⟩ := E sm a1 a2
  have pr : ∀ i, i < 8 → (p_kd h1 (p + i) = p_kd h (p + i) ∧ p_ln h1 (p + i) = p_ln h (p + i)) ∧ (∀ j, p_im h1 (p + i) j = p_im h (p + i) j) ∧ ∀ j, p_rm h1 (p + i) j = p_rm h (p + i) j := fun i hi => E (p + i) (by omega) (by omega)
  refine ⟨⟨a1, a2, a3, a4⟩, ⟨s1.trans b1, (s3 0).trans b2, (s3 1).trans b3, (s3 2).trans b4⟩, ⟨(s4 6).trans c1, (s4 7).trans c2, (s4 8).trans c3, (s4 9).trans c4, (s4 10).trans c5, (s4 11).trans c6⟩, ⟨⟨(pr 2 (by decide)).1.1.trans d1, (pr 2 (by decide)).1.2.trans d2⟩, ⟨(pr 3 (by decide)).1.1.trans d3, (pr 3 (by decide)).1.2.trans d4⟩, ⟨(pr 4 (by decide)).1.1.trans d5, (pr 4 (by decide)).1.2.trans d6⟩, ⟨(pr 5 (by decide)).1.1.trans d7, (pr 5 (by decide)).1.2.trans d8⟩, ⟨(pr 6 (by decide)).1.1.trans d9, (pr 6 (by decide)).1.2.trans d10⟩, ⟨(pr 7 (by decide)).1.1.trans d11, (pr 7 (by decide)).1.2.trans d12⟩⟩, fun c hc => ?_⟩
  obtain ⟨⟨f1, f2, f3⟩, f4, f5, f6⟩ := e c hc
  refine ⟨⟨((pr 2 (by decide)).2.1 c).trans f1, ((pr 3 (by decide)).2.1 c).trans f2, ((pr 4 (by decide)).2.1 c).trans f3⟩, ?_, ?_, ?_⟩
  · rw [(pr 5 (by decide)).2.2 c]; exact f4.ex E
  · rw [(pr 6 (by decide)).2.2 c]; exact f5.ex E
  · rw [(pr 7 (by decide)).2.2 c]; exact f6.ex E
theorem KR.ex {a N : Nat} {kk : Nat → Nat} (R : KR a kk h) (E : EXn N h h1) (ha : a < N) : KR a kk h1 := by
  obtain ⟨r1, r2, r3, r4⟩ := R
  obtain ⟨⟨e1, e2⟩, e3, -⟩ := E a r2 ha
  exact ⟨e1.trans r1, r2, e2.trans r3, fun j hj => (e3 j).trans (r4 j hj)⟩
theorem KR.fa {a : Nat} {kk : Nat → Nat} (R : KR a kk h) (F : FR wA wAs h h1) : KR a kk h1 := R.ex (N := a + 1) (EXn.fa F) (Nat.lt_succ_self _)
theorem ST.fa (S : ST L xs g nf n Ds om nt fv ch dr sm p N x u h) (D : DES L xs g n (ndD Ds) (afD Ds) om nt (hxD Ds) fv ch dr h1) (F : FR wA wAs h h1) : ST L xs g nf n Ds om nt fv ch dr sm p N x u h1 := ⟨D, S.2.1.ex (EXn.fa F), by rw [F.1]; exact S.2.2.1, by rw [F.2.1]; exact S.2.2.2⟩
theorem ST.k1 (S : ST L xs g nf n Ds om nt fv ch dr sm p N x u h) : p_kd h 1000 = 1 ∧ ¬ 1000 = 0 := S.1.k1
theorem ST.ks (S : ST L xs g nf n Ds om nt fv ch dr sm p N x u h) : p_kd h sm = 12 ∧ ¬ sm = 0 := ⟨S.2.1.2.1.1, by have := S.2.1.1.1; omega⟩
/-! pure facts of a contract -/
theorem LWK.n7 (W : LWK g nf n Ds om nt) : n ≤ 7 := W.1.1.1
theorem CON.lt (W : LWK g nf n Ds om nt) (C : CON g n Ds om nt fv ch dr m ord KL TT) (hch : ch < 2 ^ n) : m < 2 ^ n := by rw [C.1]; exact inM_lt W.1.1 hch
theorem CON.eo (C : CON g n Ds om nt fv ch dr m ord KL TT) : ord = arr (afD Ds) 16 m := by rw [C.2.1, C.1]; rfl
theorem CON.plc (W : LWK g nf n Ds om nt) (C : CON g n Ds om nt fv ch dr m ord KL TT) (hch : ch < 2 ^ n) (o : Nat) : (plc ord o = 0 ↔ m.testBit o = false) ∧ plc ord o ≤ 7 ∧ ord.length ≤ 7 := by
  have hm := C.lt W hch
  rw [C.eo]
  exact plc_bit W.n7 hm o
theorem CON.mem (W : LWK g nf n Ds om nt) (C : CON g n Ds om nt fv ch dr m ord KL TT) (hch : ch < 2 ^ n) : ∀ x ∈ ord, m.testBit x = true ∧ x < n := by
  have hm := C.lt W hch
  intro x hx
  rw [C.eo] at hx
  have := arr_mem W.n7 16 m hm x hx
  exact ⟨this, bit_lt hm this⟩
theorem CON.sum (W : LWK g nf n Ds om nt) (C : CON g n Ds om nt fv ch dr m ord KL TT) (hch : ch < 2 ^ n) (F : Nat → Int32) : sumI F ord = bsum F m n := by
  have hm := C.lt W hch
  rw [C.eo]
  exact arr_sum W.n7 16 m hm (by have := pop_le7 (m := m); omega)
theorem CON.len (W : LWK g nf n Ds om nt) (C : CON g n Ds om nt fv ch dr m ord KL TT) (hch : ch < 2 ^ n) : bsum (fun _ => (1 : Int32)) m n = Int32.ofNat ord.length := by
  rw [← C.sum W hch, sumI_len]
end KNOW
def FBN (m : Nat) (Ds : List CLD) (c : Nat) : Nat := sumN (fun o => if m.testBit o = true then 1 else 0) (cl_B (Ds.getD c D0))
def FNN (m : Nat) (Ds : List CLD) (c : Nat) : Nat := sumN (fun o => if m.testBit o = true then 0 else 1) (cl_N (Ds.getD c D0))
def FAN (ord : List Nat) (Ds : List CLD) (c : Nat) : Nat := sumN (fun o => if plI ord c < plI ord o then 1 else 0) (cl_A (Ds.getD c D0))
def WFN (Ds : List CLD) (c : Nat) : Int32 := bif Nat.beq (cl_o (Ds.getD c D0)) 0 then 0 else Int32.ofNat (cl_g (Ds.getD c D0)) - Int32.ofNat (cl_b (Ds.getD c D0))
def BYN (g : PH) (fv : Nat → Int32) (ord : List Nat) (c : Nat) : Int32 := 4 + itd g fv (plI ord) c
section KNOW2
variable {d L nf n om nt ch dr sm p N x u m c : Nat} {xs : Nat → Int32} {g h h1 : PH} {Ds : List CLD} {fv : Nat → Int32} {ord KL : List Nat} {TT : (Nat → Nat) × (Nat → Nat) × (Nat → Int32)} {Q : Int32 → PH → Prop}
theorem LWK.ok (W : LWK g nf n Ds om nt) (hc : c < n) : okD n nf c (Ds.getD c D0) := W.2.2.1.2 c hc
theorem FBN_le (W : LWK g nf n Ds om nt) (hc : c < n) : FBN m Ds c ≤ 2 := by
  have l := (W.ok hc).2.2.2.2.2.2.1
  have := sumN_le (F := fun o => if m.testBit o = true then 1 else 0) (b := 1) (l := cl_B (Ds.getD c D0)) (fun o _ => by show (if m.testBit o = true then 1 else 0) ≤ 1; split <;> omega)
  unfold FBN
  omega
theorem FNN_le (W : LWK g nf n Ds om nt) (hc : c < n) : FNN m Ds c ≤ 2 := by
  have l := (W.ok hc).2.2.2.2.2.1
  have := sumN_le (F := fun o => if m.testBit o = true then 0 else 1) (b := 1) (l := cl_N (Ds.getD c D0)) (fun o _ => by show (if m.testBit o = true then 0 else 1) ≤ 1; split <;> omega)
  unfold FNN
  omega
theorem FAN_le (W : LWK g nf n Ds om nt) (hc : c < n) : FAN ord Ds c ≤ 2 := by
  have l := (W.ok hc).2.2.2.2.2.2.2.1
  have := sumN_le (F := fun o => if plI ord c < plI ord o then 1 else 0) (b := 1) (l := cl_A (Ds.getD c D0)) (fun o _ => by show (if plI ord c < plI ord o then 1 else 0) ≤ 1; split <;> omega)
  unfold FAN
  omega
/-- what is told, in sum -/
theorem CON.told (W : LWK g nf n Ds om nt) (C : CON g n Ds om nt fv ch dr m ord KL TT) (hch : ch < 2 ^ n) : (∀ z ∈ KL, 1 ≤ z ∧ z ≤ 8) ∧ TIN ord 600 TT ∧ (Int32.ofNat (cK 1 KL) = Int32.ofNat (bnN (FBN m Ds) m n) ∧ Int32.ofNat (cK 2 KL) = Int32.ofNat (bnN (FNN m Ds) m n) ∧ Int32.ofNat (cK 3 KL) = Int32.ofNat (bnN (FAN ord Ds) m n)) ∧
    cK 6 KL = nsum (fun y => if TT.1 y = 0 then TT.2.1 y else 0) nt ∧ cK 8 KL = nsum (idl TT) nt := by
  have hm := C.lt W hch
  have n7 := W.n7
  have hmem := C.mem W hch
  have sm := C.sum W hch
  obtain ⟨c1, c2, c3, c4⟩ := id C
  obtain ⟨k1, k2, k3, k4, k5⟩ := klM_ok (fv := fv) (ord := ord) (n := n) (HX := hxD Ds) W.2.1 W.1.2.2.1 (fun x hx => by have := (hmem x hx).2; omega)
  rw [c4, c3]
  refine ⟨k1, k2, ⟨?_, ?_, ?_⟩, k4, k5⟩
  · rw [k3 1 (by decide), sm, ← bnN_I]
    refine bsum_congr (fun i hi hb => ?_)
    show Int32.ofNat (cK 1 (lnk ord i (hxm (chead (Ds.getD i D0))))) = _
    rw [cK_lnk1]
    congr 1
    refine sumN_congr (fun o _ => ?_)
    rw [C.eo]
    exact cfl1 n7 hm i o
  · rw [k3 2 (by decide), sm, ← bnN_I]
    refine bsum_congr (fun i hi hb => ?_)
    show Int32.ofNat (cK 2 (lnk ord i (hxm (chead (Ds.getD i D0))))) = _
    rw [cK_lnk2]
    congr 1
    refine sumN_congr (fun o _ => ?_)
    rw [C.eo]
    exact cfl2 n7 hm i o
  · rw [k3 3 (by decide), sm, ← bnN_I]
    refine bsum_congr (fun i hi hb => ?_)
    show Int32.ofNat (cK 3 (lnk ord i (hxm (chead (Ds.getD i D0))))) = _
    rw [cK_lnk3]
    congr 1
    refine sumN_congr (fun o _ => ?_)
    rw [C.eo]
    exact cfl3 i o
theorem CON.bytes (W : LWK g nf n Ds om nt) (C : CON g n Ds om nt fv ch dr m ord KL TT) (hch : ch < 2 ^ n) : leM g fv ord = bsum (BYN g fv ord) m n := C.sum W hch _
theorem LWK.worth (W : LWK g nf n Ds om nt) : ∀ k, k ≤ n → bsum (wof g) (m &&& om) k = bsum (WFN Ds) m k := by
  intro k
  induction k with
  | zero => intro _; rfl
  | succ k ih =>
    intro hk
    obtain ⟨-, -, ⟨hD, ok⟩, hG, M⟩ := W
    have hb := M.2 k (by omega)
    have o1 := (ok k (by omega)).2.2.1
    have hw := (hG k (by omega)).2
    unfold bsum
    rw [ih (by omega), Nat.testBit_and, hb]
    cases hm : m.testBit k with
    | false => rw [Bool.false_and, if_neg (by decide), if_neg (by decide)]
    | true =>
      rw [Bool.true_and]
      by_cases z : cl_o (Ds.getD k D0) = 1
      · rw [decide_eq_true z, if_pos rfl, if_pos rfl]
        show _ + p_im g (1047 + k) 1 = _
        rw [hw]; rfl
      · have z0 : cl_o (Ds.getD k D0) = 0 := by omega
        rw [decide_eq_false z, if_neg (by decide), if_pos rfl]
        unfold WFN
        rw [z0]; rfl
theorem wnt_bit {hd i : Nat} (h7 : hd < 128) : (wnt ch dr om hd).testBit i = (ch.testBit i || (hd.testBit i && !dr.testBit i && !om.testBit i)) := by
  unfold wnt
  rw [Nat.testBit_or, an_bit (an_lt (k := 7) h7), an_bit h7]
theorem LWK.ndb (W : LWK g nf n Ds om nt) (hc : c < n) : (ndD Ds c).testBit c = false := by
  show (msk (cl_N (Ds.getD c D0))).testBit c = false
  rw [msk_bit]
  exact decide_eq_false (fun q => ((W.ok hc).2.2.2.2.2.2.2.2.1 c q).2 rfl)
/-- what is in: wanted, or needed -/
theorem CON.isin (W : LWK g nf n Ds om nt) (C : CON g n Ds om nt fv ch dr m ord KL TT) (hch : ch < 2 ^ n) (hc : c < n) :
    ((ch.testBit c || ((hld g fv n).testBit c && !dr.testBit c && !om.testBit c)) = true → m.testBit c = true) ∧
    (m.testBit c = true → (ch.testBit c || ((hld g fv n).testBit c && !dr.testBit c && !om.testBit c)) = true ∨ ∃ o, o < n ∧ o ≠ c ∧ m.testBit o = true ∧ (ndD Ds o).testBit c = true ∧ dr.testBit c = false) ∧
    (∀ o, o < n → m.testBit o = true → (ndD Ds o).testBit c = true → dr.testBit c = false → m.testBit c = true) := by
  have n7 := W.n7
  have h7 : hld g fv n < 128 := p128 n7 (hld_lt g fv n)
  have wl : wnt ch dr om (hld g fv n) < 2 ^ n := wnt_lt hch (hld_lt g fv n)
  have nl : ∀ i, i < n → ndD Ds i < 2 ^ n := fun i hi => (W.1.1.2.2.2.2.2 i hi).1.2
  have hm := C.lt W hch
  have e : m = clo (ndD Ds) dr n 16 (wnt ch dr om (hld g fv n)) := C.1
  refine ⟨fun q => ?_, fun q => ?_, fun o ho q1 q2 q3 => ?_⟩
  · rw [e]
    exact clo_sub 16 _ c (by rw [wnt_bit h7]; exact q)
  · rw [e] at q
    rcases clo_jst (n := n) 16 (wnt ch dr om (hld g fv n)) (fun i hi => Or.inl hi) c q with a | ⟨j, a1, a2⟩
    · left; rw [wnt_bit h7] at a; exact a
    · right
      rw [← e] at a1
      have hj := bit_lt hm a1
      rw [an_bit (p128 n7 (nl j hj)), Bool.and_eq_true] at a2
      refine ⟨j, hj, fun z => ?_, a1, a2.1, by simpa using a2.2⟩
      rw [z] at a2
      rw [W.ndb hc] at a2
      exact absurd a2.1 (by decide)
  · have := clo_closed (dr := dr) n7 nl wl o (by rw [← e]; exact q1) c (by rw [an_bit (p128 n7 (nl o ho)), q2, q3]; rfl)
    rw [← e] at this
    exact this
theorem FBN_0 : FBN m Ds c = 0 ↔ brD Ds c &&& m = 0 := by
  unfold FBN
  show _ ↔ msk (cl_B (Ds.getD c D0)) &&& m = 0
  rw [sumN_0, msk_and]
  constructor
  · intro h o ho
    have := h o ho
    by_cases z : m.testBit o = true
    · rw [if_pos z] at this; exact absurd this (by decide)
    · exact Bool.eq_false_iff.mpr z
  · intro h o ho
    rw [if_neg (by rw [h o ho]; decide)]
theorem CON.few (C : CON g n Ds om nt fv ch dr m ord KL TT) : (∀ j, j < n → m.testBit j = true → brD Ds j &&& m = 0) ↔ bnN (FBN m Ds) m n = 0 := by
  rw [bnN_0]
  exact ⟨fun h i hi hb => FBN_0.mpr (h i hi hb), fun h i hi hb => FBN_0.mp (h i hi hb)⟩
theorem CON.peace (W : LWK g nf n Ds om nt) (h1 : bnN (FBN m Ds) m n = 0) (h2 : bnN (FNN m Ds) m n = 0) : pcf (ndD Ds) (brD Ds) n m = true := by
  rw [bnN_0] at h1 h2
  refine pcf_of W.1.1 (fun j hj hb => ?_) (fun j hj hb => FBN_0.mp (h1 j hj hb))
  have := h2 j hj hb
  unfold FNN at this
  rw [sumN_0] at this
  show Sub (msk (cl_N (Ds.getD j D0))) m
  rw [msk_sub]
  intro o ho
  have := this o ho
  by_cases z : m.testBit o = true
  · exact z
  · rw [if_neg z] at this; exact absurd this (by decide)
/-- what is chosen is in -/
theorem would_1 (W : LWK g nf n Ds om nt) (hch : ch < 2 ^ n) (hc : c < n) : 1 ≤ (orM g n (ndD Ds) (afD Ds) om fv (set1 ch c 1) (set0 dr c 1)).length ∧ (orM g n (ndD Ds) (afD Ds) om fv (set1 ch c 1) (set0 dr c 1)).length ≤ 7 := by
  have n7 := W.n7
  have l1 : set1 ch c 1 < 2 ^ n := set1_lt hc hch
  have hm : inM g n (ndD Ds) om fv (set1 ch c 1) (set0 dr c 1) < 2 ^ n := inM_lt W.1.1 l1
  have h7 : hld g fv n < 128 := p128 n7 (hld_lt g fv n)
  have hb : (inM g n (ndD Ds) om fv (set1 ch c 1) (set0 dr c 1)).testBit c = true := by
    refine clo_sub 16 _ c ?_
    rw [wnt_bit h7]
    have : (set1 ch c 1).testBit c = true := by
      unfold set1
      rw [if_pos rfl, Nat.testBit_or, Nat.testBit_two_pow, decide_eq_true rfl, Bool.or_true]
    rw [this]; rfl
  have hmem : c ∈ orM g n (ndD Ds) (afD Ds) om fv (set1 ch c 1) (set0 dr c 1) := arr_all n7 16 _ hm (by have := pop_le7 (m := inM g n (ndD Ds) om fv (set1 ch c 1) (set0 dr c 1)); omega) c hb
  have hl : (orM g n (ndD Ds) (afD Ds) om fv (set1 ch c 1) (set0 dr c 1)).length ≤ 7 := Nat.le_trans (arr_len n7 16 _ hm) pop_le7
  exact ⟨List.length_pos_of_mem hmem, hl⟩
end KNOW2
/-! The desk is asked, in these words. -/
section ASKS
variable {d L nf n om nt ch dr sm p N x u m c : Nat} {xs : Nat → Int32} {g h h1 : PH} {Ds : List CLD} {fv : Nat → Int32} {ord KL : List Nat} {TT : (Nat → Nat) × (Nat → Nat) × (Nat → Int32)} {Q : Int32 → PH → Prop}
theorem lq0 (W : LWK g nf n Ds om nt) (S : ST L xs g nf n Ds om nt fv ch dr sm p N x u h) (hc : c < n) (K : Q (cho ch dr c) h) : CI (d + 8) 171 [.ref 1000, .int (Int32.ofNat c), .int 0] h Q := ac0 W.1 S.1 hc K
theorem lq1 (W : LWK g nf n Ds om nt) (S : ST L xs g nf n Ds om nt fv ch dr sm p N x u h) (hc : c < n) (K : Q (bi ((hld g fv n).testBit c)) h) : CI (d + 8) 171 [.ref 1000, .int (Int32.ofNat c), .int 1] h Q := ac1 W.1 S.1 hc K
theorem lq2 (W : LWK g nf n Ds om nt) (C : CON g n Ds om nt fv ch dr m ord KL TT) (S : ST L xs g nf n Ds om nt fv ch dr sm p N x u h) (hc : c < n) (K : Q (bi (m.testBit c)) h) : CI (d + 8) 171 [.ref 1000, .int (Int32.ofNat c), .int 2] h Q := ac2 W.1 S.1 hc (by rw [← C.1]; exact K)
theorem lq3 (W : LWK g nf n Ds om nt) (C : CON g n Ds om nt fv ch dr m ord KL TT) (S : ST L xs g nf n Ds om nt fv ch dr sm p N x u h) (hc : c < n) (K : Q (plI ord c) h) : CI (d + 8) 171 [.ref 1000, .int (Int32.ofNat c), .int 3] h Q := ac3 W.1 S.1 hc (by rw [← C.2.1]; exact K)
theorem lq4 (W : LWK g nf n Ds om nt) (S : ST L xs g nf n Ds om nt fv ch dr sm p N x u h) (hc : c < n) (K : Q (if Int32.ofNat (cl_o (Ds.getD c D0)) = 0 then 0 else 1) h) : CI (d + 8) 171 [.ref 1000, .int (Int32.ofNat c), .int 4] h Q := ac4 W.1 S.1 hc (by rw [(W.2.2.2.1 c hc).1]; exact K)
theorem lq5 (W : LWK g nf n Ds om nt) (S : ST L xs g nf n Ds om nt fv ch dr sm p N x u h) (hc : c < n) (K : Q (Int32.ofNat (ndD Ds c)) h) : CI (d + 8) 171 [.ref 1000, .int (Int32.ofNat c), .int 5] h Q := ac5 W.1 S.1 hc K
theorem lq8 (W : LWK g nf n Ds om nt) (C : CON g n Ds om nt fv ch dr m ord KL TT) (S : ST L xs g nf n Ds om nt fv ch dr sm p N x u h) (hc : c < n) (K : ∀ h1, ST L xs g nf n Ds om nt fv ch dr sm p N x u h1 → FR wA wAs h h1 → Q (itd g fv (plI ord) c) h1) : CI (d + 8) 171 [.ref 1000, .int (Int32.ofNat c), .int 8] h Q := ac8 W.1 S.1 hc (fun h1 D F => by rw [← C.2.1]; exact K h1 (S.fa D F) F)
theorem lc5 (C : CON g n Ds om nt fv ch dr m ord KL TT) (S : ST L xs g nf n Ds om nt fv ch dr sm p N x u h) (K : Q (Int32.ofNat ord.length) h) : CI (d + 8) 175 [.ref 1000, .int 5] h Q := aq5 (d := d + 4) S.1 (by rw [← C.2.1]; exact K)
theorem lc6 (C : CON g n Ds om nt fv ch dr m ord KL TT) (S : ST L xs g nf n Ds om nt fv ch dr sm p N x u h) (K : Q (Int32.ofNat (min KL.length 60)) h) : CI (d + 8) 175 [.ref 1000, .int 6] h Q := aq6 (d := d + 4) S.1 (by rw [← C.2.1, ← C.2.2.1]; exact K)
theorem lc7 (C : CON g n Ds om nt fv ch dr m ord KL TT) (S : ST L xs g nf n Ds om nt fv ch dr sm p N x u h) (K : Q (mnI (leM g fv ord) 6000) h) : CI (d + 8) 175 [.ref 1000, .int 7] h Q := aq7 (d := d + 4) S.1 (by rw [← C.2.1]; exact K)
theorem lc8 (W : LWK g nf n Ds om nt) (C : CON g n Ds om nt fv ch dr m ord KL TT) (S : ST L xs g nf n Ds om nt fv ch dr sm p N x u h) (K : Q (bsum (WFN Ds) m n) h) : CI (d + 8) 175 [.ref 1000, .int 8] h Q := aq8 (d := d + 4) W.1 S.1 (by rw [← C.1, W.worth n (Nat.le_refl _)]; exact K)
theorem lco {k : Nat} (C : CON g n Ds om nt fv ch dr m ord KL TT) (S : ST L xs g nf n Ds om nt fv ch dr sm p N x u h) (hk : k < KL.length) (h6 : k < 60) (K : Q (Int32.ofNat (KL.getD k 0)) h) : CI (d + 8) 177 [.ref 1000, .int (Int32.ofNat k), .int 0] h Q := by
  obtain ⟨c1, c2, c3, c4⟩ := C
  rw [c3, c2] at hk K
  exact aco (d := d + 6) S.1 hk h6 K
theorem lpl {q : Nat} (W : LWK g nf n Ds om nt) (C : CON g n Ds om nt fv ch dr m ord KL TT) (S : ST L xs g nf n Ds om nt fv ch dr sm p N x u h) (h1 : 1 ≤ q) (h2 : q ≤ ord.length) (K : Q (Int32.ofNat (ord.getD (q - 1) 0)) h) : CI (d + 8) 178 [.ref 1000, .int (Int32.ofNat q)] h Q := by
  have o7 := (C.plc W S.1.2.2.2.1.1 0).2.2
  obtain ⟨c1, c2, c3, c4⟩ := C
  rw [c2] at h2 K o7
  exact apl (d := d + 7) S.1 h1 h2 o7 K
theorem lt0 {t : Nat} (W : LWK g nf n Ds om nt) (C : CON g n Ds om nt fv ch dr m ord KL TT) (S : ST L xs g nf n Ds om nt fv ch dr sm p N x u h) (ht : t < nt) (K : Q (Int32.ofNat (TT.1 t)) h) : CI (d + 8) 180 [.ref 1000, .int (Int32.ofNat t), .int 0] h Q := by
  obtain ⟨c1, c2, c3, c4⟩ := C
  rw [c4, c2] at K
  exact atm0 (d := d + 6) W.1 S.1 ht K
theorem lt1 {t : Nat} (W : LWK g nf n Ds om nt) (C : CON g n Ds om nt fv ch dr m ord KL TT) (S : ST L xs g nf n Ds om nt fv ch dr sm p N x u h) (ht : t < nt) (K : Q (Int32.ofNat (TT.2.1 t)) h) : CI (d + 8) 180 [.ref 1000, .int (Int32.ofNat t), .int 1] h Q := by
  obtain ⟨c1, c2, c3, c4⟩ := C
  rw [c4, c2] at K
  exact atm1 (d := d + 6) W.1 S.1 ht K
theorem lt2 {t : Nat} (W : LWK g nf n Ds om nt) (C : CON g n Ds om nt fv ch dr m ord KL TT) (S : ST L xs g nf n Ds om nt fv ch dr sm p N x u h) (ht : t < nt) (K : Q (TT.2.2 t) h) : CI (d + 8) 180 [.ref 1000, .int (Int32.ofNat t), .int 2] h Q := by
  obtain ⟨c1, c2, c3, c4⟩ := C
  rw [c4, c2] at K
  exact atm2 (d := d + 6) W.1 S.1 ht K
theorem lcf {k : Nat} (W : LWK g nf n Ds om nt) (C : CON g n Ds om nt fv ch dr m ord KL TT) (S : ST L xs g nf n Ds om nt fv ch dr sm p N x u h) (k1 : 1 ≤ k) (k8 : k ≤ 8) (K : Q (Int32.ofNat (cK k (KL.take 60))) h) : CI (d + 8) 182 [.ref 1000, .int (Int32.ofNat k)] h Q := by
  have hK := (C.told W S.1.2.2.2.1.1).1
  obtain ⟨c1, c2, c3, c4⟩ := C
  rw [c3, c2] at K hK
  exact acf (d := d + 5) S.1 (fun z hz => by have := hK z hz; omega) k1 k8 K
theorem lfr {Q : UInt64 → PH → Prop} (W : LWK g nf n Ds om nt) (C : CON g n Ds om nt fv ch dr m ord KL TT) (S : ST L xs g nf n Ds om nt fv ch dr sm p N x u h) (K : Q (if Int32.ofNat ord.length = 0 then 0 else FP.ddiv (FP.i2d (Int32.ofNat (min KL.length 60))) (FP.i2d (Int32.ofNat ord.length))) h) : CD (d + 8) 183 [.ref 1000] h Q := by
  have o7 := (C.plc W S.1.2.2.2.1.1 0).2.2
  obtain ⟨c1, c2, c3, c4⟩ := C
  rw [c3, c2] at K
  rw [c2] at o7
  exact afr (d := d + 7) S.1 o7 K
theorem cho_in : ¬ cho ch dr c < -1 ∧ ¬ 1 < cho ch dr c := by
  unfold cho
  split
  · exact ⟨by decide, by decide⟩
  · split
    · exact ⟨by decide, by decide⟩
    · exact ⟨by decide, by decide⟩
theorem lwd {w : Int32} (W : LWK g nf n Ds om nt) (C : CON g n Ds om nt fv ch dr m ord KL TT) (S : ST L xs g nf n Ds om nt fv ch dr sm p N x u h) (hc : c < n) (hw : w = 0 ∨ w = 1 ∨ w = 2) (K : ∀ h1, ST L xs g nf n Ds om nt fv ch dr sm p N x u h1 → Q (if w = 0 then Int32.ofNat ord.length else if w = 1 then Int32.ofNat (min KL.length 60) else bsum (WFN Ds) m n) h1) :
    CI (d + 8) 184 [.ref 1000, .int (Int32.ofNat c), .int (cho ch dr c), .int w] h Q := by
  have n7 := W.n7
  obtain ⟨s1, s2⟩ := set_cho (c := c) (p128 n7 S.1.2.2.2.1.1) (p128 n7 S.1.2.2.2.1.2) S.1.2.2.2.2.1
  have wo := W.worth (m := m) n (Nat.le_refl _)
  obtain ⟨c1, c2, c3, c4⟩ := C
  refine s184 W.1 S.1 hc cho_in.1 cho_in.2 hw (fun h1 F D => ?_)
  rw [s1, s2]
  unfold wdR
  rw [← c2, ← c3, ← c1, wo]
  exact K h1 (S.fa D F)
theorem lw1 (W : LWK g nf n Ds om nt) (S : ST L xs g nf n Ds om nt fv ch dr sm p N x u h) (hc : c < n) (K : ∀ h1 v, ST L xs g nf n Ds om nt fv ch dr sm p N x u h1 → 1 ≤ v → v ≤ 7 → Q (Int32.ofNat v) h1) :
    CI (d + 8) 184 [.ref 1000, .int (Int32.ofNat c), .int 1, .int 0] h Q := by
  obtain ⟨s1, s2⟩ := would_1 (fv := fv) (dr := dr) W S.1.2.2.2.1.1 hc
  refine s184 W.1 S.1 hc (by decide) (by decide) (Or.inl rfl) (fun h1 F D => ?_)
  unfold wdR
  rw [if_pos rfl]
  exact K h1 _ (S.fa D F) s1 s2
theorem lad (W : LWK g nf n Ds om nt) (C : CON g n Ds om nt fv ch dr m ord KL TT) (S : ST L xs g nf n Ds om nt fv ch dr sm p N x u h) (K : ∀ v, (v = -1 ∧ pcf (ndD Ds) (brD Ds) n m = false) ∨ (∃ q, v = Int32.ofNat q ∧ q < 2 ^ n ∧ Sub q (fre om ch dr)) → Q v h) : CI (d + 8) 187 [.ref 1000] h Q :=
  s187 (d := d + 2) W.1 S.1 (fun v hv => K v (by rw [C.1]; exact hv))
theorem lfe (W : LWK g nf n Ds om nt) (C : CON g n Ds om nt fv ch dr m ord KL TT) (S : ST L xs g nf n Ds om nt fv ch dr sm p N x u h) (K : ∀ v, Sub v m → (v = 0 ↔ bnN (FBN m Ds) m n = 0) → Q (Int32.ofNat v) h) : CI (d + 8) 188 [.ref 1000] h Q := by
  refine s188 (d := d + 4) W.1 S.1 (fun v h1 h2 => ?_)
  rw [← C.1] at h1 h2
  exact K v h1 (h2.trans C.few)
end ASKS
