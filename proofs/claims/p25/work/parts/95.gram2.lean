/-! Sums, tests, items, blocks. -/
section G2
variable {d L : Nat} {xs : Nat → Int32} {X r : List Lx} {x : Lx} {h : PH} {x1 : Int32} {Q : Int32 → PH → Prop}
theorem s87 {k : Nat} (C : CO L xs h) (h1 : 1 ≤ k) (h2 : k ≤ 43) (K : Q (Int32.ofNat (k - 1)) h) : CI (d + 1) 87 [.ref k] h Q := by
  rw [e87, (C.en h1 h2).1, (C.en h1 h2).2]
  exact ⟨⟨rfl, by omega⟩, K⟩
theorem CO.sw {L : Nat} {xs : Nat → Int32} {h : PH} (C : CO L xs h) : p_kd h 45 = 101 ∧ p_ln h 45 = 43 ∧ ∀ j, p_im h 45 j = c_sw.getD j 0 := by
  obtain ⟨a, b, c, -⟩ := C.2 45 (by decide)
  exact ⟨a, b, fun j => c j⟩
theorem GQ.co {U : List Lx} (G : GQ L xs X U h) : CO L xs h := G.1.1
theorem GQ.g {U : List Lx} (G : GQ L xs X U h) : p_kd h 1035 = 3 ∧ ¬ 1035 = 0 := ⟨G.1.2.2.1, by decide⟩
theorem GQ.g1 {U : List Lx} (G : GQ L xs X U h) : p_kd h 1035 = 3 ∧ 1000 ≤ 1035 := ⟨G.1.2.2.1, by decide⟩
theorem GQ.c {U : List Lx} (G : GQ L xs X U h) : p_rm h 1035 1 = 1042 ∧ p_kd h 1042 = 5 ∧ ¬ 1042 = 0 := ⟨G.1.2.2.2.2.1, G.1.2.2.2.2.2.1, by decide⟩
theorem GQ.t {U : List Lx} (G : GQ L xs X U h) : p_rm h 1035 0 = 1036 ∧ p_kd h 1036 = 4 ∧ ¬ 1036 = 0 := ⟨G.1.2.2.2.1, G.1.2.1.1, by decide⟩
/-- a value: a name or a number -/
theorem s89 (kX : kOK X) (G : GQ L xs X (x :: r) h) (hk : x.1 = 38 ∨ x.1 = 39) (K : ∀ h1, GQ L xs X r h1 → GF h h1 → Q 1 h1) : CI (d + 3) 89 [.ref 1035, .int x1] h Q := by
  rw [e89]
  refine ⟨G.g, s86 kX G ?_⟩
  show (p_kd h x.1 = 16 ∧ ¬ x.1 = 0) ∧ CI (d + 2) 87 [.ref x.1] h _
  refine ⟨⟨(G.co.en (by omega) (by omega)).1, by omega⟩, s87 G.co (by omega) (by omega) ?_⟩
  obtain ⟨w1, w2, w3⟩ := G.co.sw
  rw [w1, w2, w3, i_nat (by omega)]
  refine ⟨⟨⟨by decide, by decide⟩, i_in (by omega) (by decide)⟩, ?_⟩
  have fin : wp (d + 2) 89 8 [.val (.ref 1035), .unset, .val (.ref x.1), .unset] [] h (fun v h1 => onI v (fun x => Q x h1)) := by
    rw [r89_8, G.c.1]
    refine ⟨G.g, G.g, G.c.2, s85 G (by omega) (fun z => by omega) (fun h1 s G1 F1 _ _ => ⟨G1.g, ?_⟩)⟩
    exact s81 kX G1 rfl (fun h2 G2 F2 => ⟨Or.inr rfl, K h2 G2 (F1.tr F2)⟩)
  rcases hk with e | e
  · rw [show c_sw.getD (x.1 - 1) 0 = 9 from by rw [e]; decide, if_neg (by decide), if_pos rfl]
    exact fin
  · rw [show c_sw.getD (x.1 - 1) 0 = 8 from by rw [e]; decide, if_pos rfl]
    exact fin
theorem l90 {n : Int32} {U : List Lx} {Q : Option Value → PH → Prop} (hn : n < 600) (kX : kOK X) (G : GQ L xs X U h) (h1 : knd U ≠ 31) (h2 : knd U ≠ 32) (K : Q (some (.int 1)) h) : wp (d + 2) 90 6 [.val (.ref 1035), .val (.int x1), .val (.int 1), .val (.int n), .unset] [] h Q := by
  rw [r90_6, if_pos hn, if_neg (by decide)]
  refine ⟨G.g, s80 kX G (by decide) (fun z => absurd z h1) (fun _ => ?_)⟩
  rw [if_pos rfl]
  refine ⟨G.g, s80 kX G (by decide) (fun z => absurd z h2) (fun _ => ?_)⟩
  rw [if_pos rfl]
  exact ⟨Or.inr rfl, K⟩
theorem s90 (kX : kOK X) (G : GQ L xs X (x :: r) h) (hk : x.1 = 38 ∨ x.1 = 39) (n1 : knd r ≠ 31) (n2 : knd r ≠ 32) (K : ∀ h1, GQ L xs X r h1 → GF h h1 → Q 1 h1) : CI (d + 4) 90 [.ref 1035, .int x1] h Q := by
  rw [e90]
  exact ⟨G.g, s89 kX G hk (fun h1 G1 F1 => l90 (Q := fun v h1 => onI v (fun x => Q x h1)) (by decide) kX G1 n1 n2 (K h1 G1 F1))⟩
theorem s90b {y z : Lx} (kX : kOK X) (G : GQ L xs X (x :: y :: z :: r) h) (hx : x.1 = 38 ∨ x.1 = 39) (hy : y.1 = 31) (hz : z.1 = 38 ∨ z.1 = 39) (n1 : knd r ≠ 31) (n2 : knd r ≠ 32) (K : ∀ h1, GQ L xs X r h1 → GF h h1 → Q 1 h1) : CI (d + 4) 90 [.ref 1035, .int x1] h Q := by
  rw [e90]
  refine ⟨G.g, s89 kX G hx (fun h1 G1 F1 => ?_)⟩
  rw [r90_6, if_pos (by decide), if_neg (by decide)]
  refine ⟨G1.g, s80 kX G1 (by decide) (fun _ => ?_) (fun q => absurd hy q)⟩
  rw [if_neg (by decide), r90_19]
  refine ⟨G1.g, s86 kX G1 ⟨G1.g, G1.g1, ?_⟩⟩
  obtain ⟨I1, I2⟩ := G1.inc
  refine ⟨I1.g, s89 kX I1 hz (fun h2 G2 F2 => ?_)⟩
  rw [G2.c.1]
  have ey : knd (y :: z :: r) = 31 := hy
  rw [ey]
  refine ⟨G2.g, G2.c.2, s85 G2 (by decide) (fun q => by omega) (fun h3 s G3 F3 _ _ => ?_)⟩
  exact l90 (Q := fun v h1 => onI v (fun x => Q x h1)) (by decide) kX G3 n1 n2 (K h3 G3 (((F1.tr I2).tr F2).tr F3))
theorem l91 {n : Int32} {U : List Lx} {Q : Option Value → PH → Prop} (hn : n < 600) (kX : kOK X) (G : GQ L xs X U h) (h1 : knd U ≠ 29) (h2 : knd U ≠ 30) (K : Q (some (.int 1)) h) : wp (d + 2) 91 6 [.val (.ref 1035), .val (.int x1), .val (.int 1), .val (.int n), .unset] [] h Q := by
  rw [r91_6, if_pos hn, if_neg (by decide)]
  refine ⟨G.g, s80 kX G (by decide) (fun z => absurd z h1) (fun _ => ?_)⟩
  rw [if_pos rfl]
  refine ⟨G.g, s80 kX G (by decide) (fun z => absurd z h2) (fun _ => ?_)⟩
  rw [if_pos rfl]
  exact ⟨Or.inr rfl, K⟩
theorem s91 (kX : kOK X) (G : GQ L xs X (x :: r) h) (hk : x.1 = 38 ∨ x.1 = 39) (n1 : knd r ≠ 29) (n2 : knd r ≠ 30) (n3 : knd r ≠ 31) (n4 : knd r ≠ 32) (K : ∀ h1, GQ L xs X r h1 → GF h h1 → Q 1 h1) : CI (d + 5) 91 [.ref 1035, .int x1] h Q := by
  rw [e91]
  exact ⟨G.g, s90 kX G hk n3 n4 (fun h1 G1 F1 => l91 (Q := fun v h1 => onI v (fun x => Q x h1)) (by decide) kX G1 n1 n2 (K h1 G1 F1))⟩
theorem s91b {y z m w : Lx} (kX : kOK X) (G : GQ L xs X (x :: y :: z :: m :: w :: r) h) (hx : x.1 = 38 ∨ x.1 = 39) (hy : y.1 = 31) (hz : z.1 = 38 ∨ z.1 = 39) (hm : m.1 = 30) (hw : w.1 = 38 ∨ w.1 = 39) (n1 : knd r ≠ 29) (n2 : knd r ≠ 30) (n3 : knd r ≠ 31) (n4 : knd r ≠ 32) (K : ∀ h1, GQ L xs X r h1 → GF h h1 → Q 1 h1) : CI (d + 5) 91 [.ref 1035, .int x1] h Q := by
  have em : knd (m :: w :: r) = 30 := hm
  rw [e91]
  refine ⟨G.g, s90b kX G hx hy hz (by rw [em]; decide) (by rw [em]; decide) (fun h1 G1 F1 => ?_)⟩
  rw [r91_6, if_pos (by decide), if_neg (by decide)]
  refine ⟨G1.g, s80 kX G1 (by decide) (fun q => by rw [em] at q; cases q) (fun _ => ?_)⟩
  rw [if_pos rfl]
  refine ⟨G1.g, s80 kX G1 (by decide) (fun _ => ?_) (fun q => absurd em q)⟩
  rw [if_neg (by decide), r91_19]
  refine ⟨G1.g, s86 kX G1 ⟨G1.g, G1.g1, ?_⟩⟩
  obtain ⟨I1, I2⟩ := G1.inc
  refine ⟨I1.g, s90 kX I1 hw n3 n4 (fun h2 G2 F2 => ?_)⟩
  rw [G2.c.1, em]
  refine ⟨G2.g, G2.c.2, s85 G2 (by decide) (fun q => by omega) (fun h3 s G3 F3 _ _ => ?_)⟩
  exact l91 (Q := fun v h1 => onI v (fun x => Q x h1)) (by decide) kX G3 n1 n2 (K h3 G3 (((F1.tr I2).tr F2).tr F3))
theorem s92 (C : CO L xs h) (K : Q 1 h) : CI (d + 1) 92 [.ref 34] h Q := by
  have e34 := (C.en (k := 34) (by decide) (by decide)).1
  have e33 := (C.en (k := 33) (by decide) (by decide)).1
  rw [e92, if_neg (by decide), if_pos rfl, r92_15]
  exact ⟨⟨Or.inr e34, Or.inr e33⟩, ⟨Or.inr e34, Or.inr e34⟩, Or.inr rfl, K⟩
/-- a test: a value is more than another one -/
theorem s95 {y z : Lx} (kX : kOK X) (G : GQ L xs X (x :: y :: z :: r) h) (hx : x.1 = 38 ∨ x.1 = 39) (hy : y.1 = 34) (hz : z.1 = 38 ∨ z.1 = 39) (n1 : knd r ≠ 29) (n2 : knd r ≠ 30) (n3 : knd r ≠ 31) (n4 : knd r ≠ 32) (n5 : knd r ≠ 16) (n6 : knd r ≠ 17) (K : ∀ h1, GQ L xs X r h1 → GF h h1 → Q 1 h1) : CI (d + 8) 95 [.ref 1035, .int x1] h Q := by
  have ex : knd (x :: y :: z :: r) = x.1 := rfl
  have ey : knd (y :: z :: r) = 34 := hy
  rw [e95]
  refine ⟨G.g, ?_⟩
  rw [e94]
  refine ⟨G.g, ?_⟩
  rw [e93]
  refine ⟨G.g, s80 kX G (by decide) (fun q => by rw [ex] at q; omega) (fun _ => ?_)⟩
  rw [if_pos rfl]
  refine ⟨G.g, s80 kX G (by decide) (fun q => by rw [ex] at q; omega) (fun _ => ?_)⟩
  rw [if_pos rfl]
  refine ⟨G.g, s91 kX G hx (by rw [ey]; decide) (by rw [ey]; decide) (by rw [ey]; decide) (by rw [ey]; decide) (fun h1 G1 F1 => ?_)⟩
  rw [if_neg (by decide)]
  refine ⟨G1.g, s86 kX G1 ?_⟩
  rw [ey]
  refine s92 G1.co ?_
  rw [if_neg (by decide)]
  refine ⟨G1.g, s86 kX G1 ⟨G1.g, G1.g1, ?_⟩⟩
  obtain ⟨I1, I2⟩ := G1.inc
  refine ⟨I1.g, s91 kX I1 hz n1 n2 n3 n4 (fun h2 G2 F2 => ?_)⟩
  rw [G2.c.1, ey]
  refine ⟨G2.g, G2.c.2, s85 G2 (by decide) (fun q => by omega) (fun h3 s G3 F3 _ _ => ⟨Or.inr rfl, ?_⟩)⟩
  show wp (d + 6) 94 6 [.val (.ref 1035), .val (.int x1), .val (.int 1), .val (.int 0)] [] h3 _
  rw [r94_6, if_pos (by decide), if_neg (by decide)]
  refine ⟨G3.g, s81n kX G3 (by decide) n5 ?_⟩
  rw [if_pos rfl]
  refine ⟨Or.inr rfl, ?_⟩
  show wp (d + 7) 95 6 [.val (.ref 1035), .val (.int x1), .val (.int 1), .val (.int 0)] [] h3 _
  rw [r95_6, if_pos (by decide), if_neg (by decide)]
  refine ⟨G3.g, s81n kX G3 (by decide) n6 ?_⟩
  rw [if_pos rfl]
  exact ⟨Or.inr rfl, K h3 G3 (((F1.tr I2).tr F2).tr F3)⟩
/-- what an item's reader does -/
def ITM (L : Nat) (xs : Nat → Int32) (X : List Lx) (d : Nat) (dp : Int32) (Y : List Lx) : Prop := knd Y ≠ 22 ∧ ∀ (R : List Lx) (h : PH) (Q : Int32 → PH → Prop), GQ L xs X (Y ++ R) h → (∀ h1, GQ L xs X R h1 → GF h h1 → Q 1 h1) → CI d 105 [.ref 1035, .int dp] h Q
theorem sw105 {U : List Lx} {j v : Nat} (kX : kOK X) (G : GQ L xs X U h) (hj : knd U = j) (h1 : 1 ≤ j) (h2 : j ≤ 43) (hv : c_sw.getD (j - 1) 0 = Int32.ofNat v)
    (K : (if Int32.ofNat v = 1 then ((p_kd h 1035 = 3 ∧ ¬ 1035 = 0) ∧ ((p_kd h 1035 = 3 ∧ ¬ 1035 = 0) ∧ ((p_kd h (p_rm h 1035 1) = 5 ∧ ¬ (p_rm h 1035 1) = 0) ∧ CI (d + 2) 85 [.ref (p_rm h 1035 1), .ref 40, .int (p_im h 1035 5)] h (fun z6 h6 => ((p_kd h6 1035 = 3 ∧ ¬ 1035 = 0) ∧ CI (d + 2) 81 [.ref 1035, .ref 40] h6 (fun z7 h7 => ((z7 = 0 ∨ z7 = 1) ∧ Q z7 h7))))))) else (if Int32.ofNat v = 2 then wp (d + 2) 105 17 [.val (.ref 1035), .unset] [] h (fun v h1 => onI v (fun x => Q x h1)) else (if Int32.ofNat v = 3 then wp (d + 2) 105 17 [.val (.ref 1035), .unset] [] h (fun v h1 => onI v (fun x => Q x h1)) else (if Int32.ofNat v = 4 then wp (d + 2) 105 17 [.val (.ref 1035), .unset] [] h (fun v h1 => onI v (fun x => Q x h1)) else (if Int32.ofNat v = 5 then ((p_kd h 1035 = 3 ∧ ¬ 1035 = 0) ∧ CI (d + 2) 101 [.ref 1035, .int x1] h (fun z5 h5 => ((z5 = 0 ∨ z5 = 1) ∧ Q z5 h5))) else (if Int32.ofNat v = 6 then ((p_kd h 1035 = 3 ∧ ¬ 1035 = 0) ∧ CI (d + 2) 103 [.ref 1035, .int x1] h (fun z4 h4 => ((z4 = 0 ∨ z4 = 1) ∧ Q z4 h4))) else (if Int32.ofNat v = 7 then ((p_kd h 1035 = 3 ∧ ¬ 1035 = 0) ∧ CI (d + 2) 104 [.ref 1035, .int x1] h (fun z3 h3 => ((z3 = 0 ∨ z3 = 1) ∧ Q z3 h3))) else (((0 : Int32) = 0 ∨ (0 : Int32) = 1) ∧ Q (0 : Int32) h))))))))) :
    CI (d + 3) 105 [.ref 1035, .int x1] h Q := by
  rw [e105]
  refine ⟨G.g, s86 kX G ?_⟩
  rw [hj]
  refine ⟨⟨(G.co.en h1 h2).1, by omega⟩, s87 G.co h1 h2 ?_⟩
  obtain ⟨w1, w2, w3⟩ := G.co.sw
  rw [w1, w2, w3, i_nat (by omega), hv]
  exact ⟨⟨⟨by decide, by decide⟩, i_in (by omega) (by decide)⟩, K⟩
/-- ref, def, use -/
theorem s100 {y : Lx} (kX : kOK X) (G : GQ L xs X (x :: y :: r) h) (hx : x.1 = 8 ∨ x.1 = 9 ∨ x.1 = 10) (hy : y.1 = 38) (K : ∀ h1, GQ L xs X r h1 → GF h h1 → Q 1 h1) : CI (d + 3) 100 [.ref 1035] h Q := by
  rw [e100]
  refine ⟨G.g, s86 kX G ⟨G.g, G.g1, ?_⟩⟩
  obtain ⟨I1, I2⟩ := G.inc
  obtain ⟨pre, e, p⟩ := I1.2.2.2
  rw [I1.c.1]
  refine ⟨I1.g, I1.g, I1.c.2, ?_⟩
  have ex : knd (x :: y :: r) = x.1 := rfl
  rw [ex]
  obtain ⟨pre0, e0, p0⟩ := G.2.2.2
  have lp : pre = pre0 ++ [x] := by
    have : pre ++ y :: r = (pre0 ++ [x]) ++ y :: r := by rw [← e, e0, List.append_assoc]; rfl
    exact List.append_cancel_right this
  refine s85 I1 (by omega) (fun q => ⟨pre.length, p, ?_⟩) (fun h2 s G2 F2 _ _ => ⟨G2.g, s81 kX G2 hy (fun h3 G3 F3 => ⟨Or.inr rfl, K h3 G3 ((I2.tr F2).tr F3)⟩)⟩)
  refine ⟨by rw [e, List.length_append, List.length_cons]; omega, by rw [lp, List.length_append]; show 1 ≤ pre0.length + 1; omega, ?_, ?_⟩
  · have := getD_app2 (l := pre) (r := y :: r) (d := ((0, 0, 0) : Lx)) (j := 0)
    rw [Nat.add_zero] at this
    rw [e, this]; exact hy
  · have l2 : pre.length - 1 = pre0.length := by rw [lp, List.length_append]; rfl
    have := getD_app2 (l := pre0) (r := x :: y :: r) (d := ((0, 0, 0) : Lx)) (j := 0)
    rw [Nat.add_zero] at this
    rw [l2, e0, this]; rfl
theorem ITM.i1 {n f c : Nat} {Y : List Lx} {dp : Int32} (kX : kOK X) (h1 : isI1 n f c Y) : ITM L xs X (d + 8) dp Y := by
  rcases h1 with ⟨m, hm, e⟩ | ⟨k, hk, hc, e⟩ | ⟨t, k, ht, hk, e⟩ | ⟨q, m, hq, hm, e⟩
  · refine ⟨by rw [e]; exact (by decide : 40 ≠ 22), fun R h Q G K => ?_⟩
    rw [e] at G
    have G : GQ L xs X ((40, m, 1) :: R) h := G
    refine sw105 (d := d + 5) (j := 40) (v := 1) kX G rfl (by decide) (by decide) (by decide) ?_
    rw [if_pos (by decide), G.c.1]
    exact ⟨G.g, G.g, G.c.2, s85 G (by decide) (fun q => by omega) (fun h1 s G1 F1 _ _ => ⟨G1.g, s81 kX G1 rfl (fun h2 G2 F2 => ⟨Or.inr rfl, K h2 G2 (F1.tr F2)⟩)⟩)⟩
  · refine ⟨by rw [e]; exact (by decide : 8 ≠ 22), fun R h Q G K => ?_⟩
    rw [e] at G
    have G : GQ L xs X ((8, 0, 1) :: (38, 99 * 32 + k, 1) :: R) h := G
    refine sw105 (d := d + 5) (j := 8) (v := 2) kX G rfl (by decide) (by decide) (by decide) ?_
    rw [if_neg (by decide), if_pos (by decide), r105_17]
    exact ⟨G.g, s100 kX G (Or.inl rfl) rfl (fun h1 G1 F1 => ⟨Or.inr rfl, K h1 G1 F1⟩)⟩
  · have ht2 : knd Y = t := by rw [e]; rfl
    refine ⟨by rw [ht2]; omega, fun R h Q G K => ?_⟩
    rw [e] at G
    have G : GQ L xs X ((t, 0, 1) :: (38, 116 * 32 + k, 1) :: R) h := G
    refine sw105 (d := d + 5) (j := t) (v := t - 6) kX G rfl (by omega) (by omega) (by rcases ht with rfl | rfl <;> decide) ?_
    have fin : wp (d + 5 + 2) 105 17 [.val (.ref 1035), .unset] [] h (fun v h1 => onI v (fun x => Q x h1)) := by
      rw [r105_17]
      exact ⟨G.g, s100 kX G (by omega) rfl (fun h1 G1 F1 => ⟨Or.inr rfl, K h1 G1 F1⟩)⟩
    rcases ht with rfl | rfl
    · rw [if_neg (by decide), if_neg (by decide), if_pos (by decide)]; exact fin
    · rw [if_neg (by decide), if_neg (by decide), if_neg (by decide), if_pos (by decide)]; exact fin
  · refine ⟨by rw [e]; exact (by decide : 11 ≠ 22), fun R h Q G K => ?_⟩
    rw [e] at G
    have G : GQ L xs X ((11, 0, 1) :: (38, 102 * 32 + q, 0) :: (31, 0, 0) :: (39, 2, 0) :: (30, 0, 0) :: (39, m, 0) :: (27, 0, 1) :: R) h := G
    refine sw105 (d := d + 5) (j := 11) (v := 5) kX G rfl (by decide) (by decide) (by decide) ?_
    rw [if_neg (by decide), if_neg (by decide), if_neg (by decide), if_neg (by decide), if_pos (by decide), e101]
    refine ⟨G.g, G.g, s81 kX G rfl (fun h1 G1 F1 => ?_)⟩
    rw [if_neg (by decide)]
    have k27 : knd ((27, 0, 1) :: R) = 27 := rfl
    refine ⟨G1.g, s91b kX G1 (Or.inl rfl) rfl (Or.inr rfl) rfl (Or.inr rfl) (by rw [k27]; decide) (by rw [k27]; decide) (by rw [k27]; decide) (by rw [k27]; decide) (fun h2 G2 F2 => ?_)⟩
    rw [if_neg (by decide), G2.c.1]
    refine ⟨G2.g, G2.c.2, s85 G2 (by decide) (fun q => by omega) (fun h3 s G3 F3 _ _ => ⟨G3.g, s81 kX G3 rfl (fun h4 G4 F4 => ⟨Or.inr rfl, Or.inr rfl, K h4 G4 (((F1.tr F2).tr F3).tr F4)⟩)⟩)⟩
/-- the loop over a block's items -/
theorem l106 {P : List Lx → Prop} {dp : Int32} {Q : Option Value → PH → Prop} (kX : kOK X) (hP : ∀ Y, P Y → ITM L xs X (d + 2) (dp + 1) Y) : ∀ (n k : Nat) (Z : List Lx) (h : PH), cat P n Z → k + n < 600 → GQ L xs X (Z ++ ((22, 0, 1) :: r)) h →
    (∀ h1, GQ L xs X r h1 → GF h h1 → Q (some (.int 1)) h1) → wp (d + 2) 106 7 [.val (.ref 1035), .val (.int dp), .val (.int 1), .val (.int (Int32.ofNat k))] [] h Q := by
  have cl : ∀ (k : Nat) (h : PH), k < 600 → GQ L xs X ((22, 0, 1) :: r) h → (∀ h1, GQ L xs X r h1 → GF h h1 → Q (some (.int 1)) h1) → wp (d + 2) 106 7 [.val (.ref 1035), .val (.int dp), .val (.int 1), .val (.int (Int32.ofNat k))] [] h Q := by
    intro k h hk G K
    rw [r106_7, if_pos (by rw [show (600 : Int32) = Int32.ofNat 600 from rfl, i_lt (by omega) (by decide)]; exact hk), if_neg (by decide)]
    refine ⟨G.g, s80 kX G (by decide) (fun _ => ?_) (fun q => absurd rfl q)⟩
    rw [if_neg (by decide), r106_24, if_neg (by decide)]
    refine ⟨G.g, s81 kX G rfl (fun h1 G1 F1 => ?_)⟩
    rw [if_neg (by decide)]
    exact ⟨Or.inr rfl, K h1 G1 F1⟩
  intro n
  induction n with
  | zero =>
    intro k Z h c hk G K
    have : Z = [] := c
    rw [this] at G
    exact cl k h (by omega) G K
  | succ n ih =>
    intro k Z h c hk G K
    rcases c with c | ⟨Y, W, e, p, c⟩
    · rw [c] at G
      exact cl k h (by omega) G K
    · rw [e, List.append_assoc] at G
      obtain ⟨q1, q2⟩ := hP Y p
      have kn : knd (Y ++ (W ++ (22, 0, 1) :: r)) ≠ 22 ∨ Y = [] := by
        cases Y with
        | nil => exact Or.inr rfl
        | cons y Y => exact Or.inl q1
      rcases kn with kn | kn
      · rw [r106_7, if_pos (by rw [show (600 : Int32) = Int32.ofNat 600 from rfl, i_lt (by omega) (by decide)]; omega), if_neg (by decide)]
        refine ⟨G.g, s80 kX G (by decide) (fun q => absurd q kn) (fun _ => ?_)⟩
        rw [if_pos rfl]
        refine ⟨G.g, q2 _ h _ G (fun h1 G1 F1 => ?_)⟩
        rw [i_ofNat1, i_add]
        exact ih (k + 1) W h1 c (by omega) G1 (fun h2 G2 F2 => K h2 G2 (F1.tr F2))
      · rw [kn] at G
        have q := ih k W h c (by omega) G K
        exact q
/-- what a block's reader does -/
def BLM (L : Nat) (xs : Nat → Int32) (X : List Lx) (d : Nat) (dp : Int32) (Y : List Lx) : Prop := ∀ (R : List Lx) (h : PH) (Q : Int32 → PH → Prop), GQ L xs X (Y ++ R) h → (∀ h1, GQ L xs X R h1 → GF h h1 → Q 1 h1) → CI d 106 [.ref 1035, .int dp] h Q
theorem BLM.of {P : List Lx → Prop} {n : Nat} {Y : List Lx} {dp : Int32} (kX : kOK X) (hd : dp < 8) (hn : n < 500) (hP : ∀ Y, P Y → ITM L xs X (d + 2) (dp + 1) Y) (b : isB P n Y) : BLM L xs X (d + 3) dp Y := by
  obtain ⟨Z, z, e⟩ := b
  intro R h Q G K
  rw [e] at G
  have G : GQ L xs X ((21, 0, 1) :: (Z ++ [(22, 0, 1)] ++ R)) h := G
  rw [List.append_assoc] at G
  rw [e106]
  refine ⟨G.g, s84 kX G rfl hd (fun h1 G1 F1 => ?_)⟩
  exact l106 (d := d) (P := P) (Q := fun v h1 => onI v (fun x => Q x h1)) kX hP n 0 Z h1 z (by omega) G1 (fun h2 G2 F2 => K h2 G2 (F1.tr F2))
theorem ITM.i0 {n f c : Nat} {Y : List Lx} (kX : kOK X) (h1 : isI0 n f c Y) : ITM L xs X (d + 11) 1 Y := by
  rcases h1 with h1 | ⟨q, m, B1, B2, hq, hm, b1, b2, e⟩ | ⟨B1, B2, b1, b2, e⟩
  · exact ITM.i1 (d := d + 3) kX h1
  · refine ⟨by rw [e]; exact (by decide : 12 ≠ 22), fun R h Q G K => ?_⟩
    have bl : ∀ B, isB1 n f c B → BLM L xs X (d + 9) 1 B := fun B b => BLM.of (d := d + 6) kX (by decide) (by decide) (fun Y hY => ITM.i1 (d := d) kX hY) b
    rw [e] at G
    have G : GQ L xs X ((12, 0, 1) :: (38, 102 * 32 + q, 0) :: (34, 0, 0) :: (39, m, 1) :: (B1 ++ (13, 0, 1) :: B2 ++ R)) h := G
    rw [List.append_assoc] at G
    have kb : ∀ B R, isB1 n f c B → knd (B ++ R) = 21 := fun B R b => by
      obtain ⟨Z, -, e⟩ := b
      rw [e]; rfl
    have kb1 := kb B1 ((13, 0, 1) :: B2 ++ R) b1
    refine sw105 (d := d + 8) (j := 12) (v := 6) kX G rfl (by decide) (by decide) (by decide) ?_
    rw [if_neg (by decide), if_neg (by decide), if_neg (by decide), if_neg (by decide), if_neg (by decide), if_pos (by decide), e103]
    refine ⟨G.g, G.g, s81 kX G rfl (fun h1 G1 F1 => ?_)⟩
    rw [if_neg (by decide)]
    refine ⟨G1.g, s95 kX G1 (Or.inl rfl) rfl (Or.inr rfl) (by rw [kb1]; decide) (by rw [kb1]; decide) (by rw [kb1]; decide) (by rw [kb1]; decide) (by rw [kb1]; decide) (by rw [kb1]; decide) (fun h2 G2 F2 => ?_)⟩
    rw [if_neg (by decide), G2.c.1]
    refine ⟨G2.g, G2.c.2, s85 G2 (by decide) (fun q => by omega) (fun h3 s1 G3 F3 l1 S1 => ⟨G3.g, ?_⟩)⟩
    have S1 := S1 (by decide) (by decide)
    refine bl B1 b1 _ h3 _ G3 (fun h4 G4 F4 => ?_)
    rw [if_neg (by decide)]
    refine ⟨G4.g, s81 kX G4 rfl (fun h5 G5 F5 => ?_)⟩
    rw [if_neg (by decide), G5.c.1]
    refine ⟨G5.g, G5.c.2, s85 G5 (by decide) (fun q => by omega) (fun h6 s2 G6 F6 l2 S2 => ?_)⟩
    have S2 := S2 (by decide) (by decide)
    rw [G6.c.1]
    refine ⟨G6.g, G6.c.2, s102 G6 (((S1.gf F4).gf F5).gf F6) l1 (fun h7 G7 F7 => ⟨G7.g, ?_⟩)⟩
    refine bl B2 b2 _ h7 _ G7 (fun h8 G8 F8 => ?_)
    rw [G8.c.1]
    refine ⟨G8.g, G8.c.2, s102 G8 ((S2.gf F7).gf F8) l2 (fun h9 G9 F9 => ⟨Or.inr rfl, Or.inr rfl, K h9 G9 ?_⟩)⟩
    exact (((((((F1.tr F2).tr F3).tr F4).tr F5).tr F6).tr F7).tr F8).tr F9
  · refine ⟨by rw [e]; exact (by decide : 14 ≠ 22), fun R h Q G K => ?_⟩
    have bl : ∀ B, isB1 n f c B → BLM L xs X (d + 9) 2 B := fun B b => BLM.of (d := d + 6) kX (by decide) (by decide) (fun Y hY => ITM.i1 (d := d) kX hY) b
    rw [e] at G
    have G : GQ L xs X ((14, 0, 1) :: (21, 0, 1) :: (15, 0, 1) :: (B1 ++ (15, 0, 1) :: (B2 ++ [(22, 0, 1)]) ++ R)) h := G
    rw [List.append_assoc] at G
    have G : GQ L xs X ((14, 0, 1) :: (21, 0, 1) :: (15, 0, 1) :: (B1 ++ ((15, 0, 1) :: (B2 ++ [(22, 0, 1)] ++ R)))) h := G
    rw [List.append_assoc] at G
    refine sw105 (d := d + 8) (j := 14) (v := 7) kX G rfl (by decide) (by decide) (by decide) ?_
    rw [if_neg (by decide), if_neg (by decide), if_neg (by decide), if_neg (by decide), if_neg (by decide), if_neg (by decide), if_pos (by decide), e104]
    refine ⟨G.g, G.g, s81 kX G rfl (fun h1 G1 F1 => ?_)⟩
    rw [if_neg (by decide)]
    refine ⟨G1.g, s84 kX G1 rfl (by decide) (fun h2 G2 F2 => ?_)⟩
    rw [if_neg (by decide), r104_12, r104_15, if_neg (by decide), if_neg (by decide)]
    refine ⟨G2.g, s81 kX G2 rfl (fun h3 G3 F3 => ?_)⟩
    rw [if_neg (by decide), G3.c.1]
    refine ⟨G3.g, G3.c.2, s85 G3 (by decide) (fun q => by omega) (fun h4 s1 G4 F4 _ _ => ⟨G4.g, ?_⟩)⟩
    refine bl B1 b1 _ h4 _ G4 (fun h5 G5 F5 => ?_)
    rw [r104_15, if_neg (by decide), if_neg (by decide)]
    refine ⟨G5.g, s81 kX G5 rfl (fun h6 G6 F6 => ?_)⟩
    rw [if_neg (by decide), G6.c.1]
    refine ⟨G6.g, G6.c.2, s85 G6 (by decide) (fun q => by omega) (fun h7 s2 G7 F7 _ _ => ⟨G7.g, ?_⟩)⟩
    refine bl B2 b2 _ h7 _ G7 (fun h8 G8 F8 => ?_)
    have G8 : GQ L xs X ((22, 0, 1) :: R) h8 := G8
    rw [r104_15, if_neg (by decide), if_neg (by decide)]
    refine ⟨G8.g, s81n kX G8 (by decide) (show 22 ≠ 15 from by decide) ?_⟩
    rw [if_pos rfl, r104_38, if_neg (by decide)]
    refine ⟨G8.g, s81 kX G8 rfl (fun h9 G9 F9 => ?_)⟩
    rw [if_neg (by decide)]
    refine ⟨Or.inr rfl, Or.inr rfl, K h9 G9 ?_⟩
    exact (((((((F1.tr F2).tr F3).tr F4).tr F5).tr F6).tr F7).tr F8).tr F9
theorem BLM.b0 {n f c : Nat} {Y : List Lx} (kX : kOK X) (b : isB0 n f c Y) : BLM L xs X (d + 12) 0 Y := BLM.of (d := d + 9) kX (by decide) (by decide) (fun _ hY => ITM.i0 (d := d) kX hY) b
end G2
