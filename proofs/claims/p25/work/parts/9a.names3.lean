section NS2
variable {d L i F C om : Nat} {s : List Nat} {mk : Nat → Nat × Nat × Nat} {xs : Nat → Int32} {X : List Lx} {h0 h : PH} {Q : Option Value → PH → Prop}
/-- what a link adds to a clause's links -/
def lkm (mk : Nat → Nat × Nat × Nat) (c t o : Nat) : Nat → Nat × Nat × Nat := fun x => if x = c then ((mk c).1 ||| (if t = 5 then 2 ^ o else 0), (mk c).2.1 ||| (if t = 6 then 2 ^ o else 0), (mk c).2.2 ||| (if t = 7 then 2 ^ o else 0)) else mk x
theorem s118 {a t v n1 n2 n3 : Nat} {Q : PH → Prop} (C0 : CO L xs h) (ka : p_kd h a = 6) (ha : 1000 ≤ a) (ht : 1 ≤ t ∧ t ≤ 43) (e2 : p_im h a 2 = Int32.ofNat n1) (e3 : p_im h a 3 = Int32.ofNat n2) (e4 : p_im h a 4 = Int32.ofNat n3)
    (K : Q (p_wi (p_wi (p_wi h a 2 (Int32.ofNat (n1 ||| (if t = 5 then v else 0)))) a 3 (Int32.ofNat (n2 ||| (if t = 6 then v else 0)))) a 4 (Int32.ofNat (n3 ||| (if t = 7 then v else 0))))) : CV (d + 1) 118 [.ref a, .ref t, .int (Int32.ofNat v)] h Q := by
  have ko := C0.en ht.1 ht.2
  have k5 := C0.en (k := 5) (by decide) (by decide)
  have k6 := C0.en (k := 6) (by decide) (by decide)
  have k7 := C0.en (k := 7) (by decide) (by decide)
  have a0 : ¬ a = 0 := by omega
  have g3 : ∀ y, y = (if t = 7 then v else 0) → wp d 118 31 [.unset, .unset, .unset] [.int (Int32.ofNat y), .int (Int32.ofNat n3), .ref a] (p_wi (p_wi h a 2 (Int32.ofNat (n1 ||| (if t = 5 then v else 0)))) a 3 (Int32.ofNat (n2 ||| (if t = 6 then v else 0)))) (fun v h1 => onV v (Q h1)) := fun y ey => by
    have k : p_kd (p_wi (p_wi h a 2 (Int32.ofNat (n1 ||| (if t = 5 then v else 0)))) a 3 (Int32.ofNat (n2 ||| (if t = 6 then v else 0)))) a = 6 := ka
    rw [r118_31, k, i_or, ey]
    exact ⟨⟨rfl, ha⟩, K⟩
  have g2 : ∀ y, y = (if t = 6 then v else 0) → wp d 118 20 [.val (.ref a), .val (.ref t), .val (.int (Int32.ofNat v))] [.int (Int32.ofNat y), .int (Int32.ofNat n2), .ref a] (p_wi h a 2 (Int32.ofNat (n1 ||| (if t = 5 then v else 0)))) (fun v h1 => onV v (Q h1)) := fun y ey => by
    rw [r118_20, i_or, ey]
    have k : p_kd (p_wi (p_wi h a 2 (Int32.ofNat (n1 ||| (if t = 5 then v else 0)))) a 3 (Int32.ofNat (n2 ||| (if t = 6 then v else 0)))) = p_kd h := rfl
    have k' : p_kd (p_wi h a 2 (Int32.ofNat (n1 ||| (if t = 5 then v else 0)))) = p_kd h := rfl
    have i4 : p_im (p_wi (p_wi h a 2 (Int32.ofNat (n1 ||| (if t = 5 then v else 0)))) a 3 (Int32.ofNat (n2 ||| (if t = 6 then v else 0)))) a 4 = Int32.ofNat n3 := by rw [wi_im, if_neg (by omega), wi_im, if_neg (by omega), e4]
    rw [k, k', ka, ko.1, k7.1, i4]
    refine ⟨⟨rfl, ha⟩, ⟨rfl, a0⟩, ⟨Or.inr rfl, Or.inr rfl⟩, ?_⟩
    split
    · rename_i z; exact g3 v (by rw [if_pos z])
    · rename_i z; exact g3 0 (by rw [if_neg z])
  have g1 : ∀ y, y = (if t = 5 then v else 0) → wp d 118 9 [.val (.ref a), .val (.ref t), .val (.int (Int32.ofNat v))] [.int (Int32.ofNat y), .int (Int32.ofNat n1), .ref a] h (fun v h1 => onV v (Q h1)) := fun y ey => by
    rw [r118_9, i_or, ey]
    have k : p_kd (p_wi h a 2 (Int32.ofNat (n1 ||| (if t = 5 then v else 0)))) = p_kd h := rfl
    have i3 : p_im (p_wi h a 2 (Int32.ofNat (n1 ||| (if t = 5 then v else 0)))) a 3 = Int32.ofNat n2 := by rw [wi_im, if_neg (by omega), e3]
    rw [k, ka, ko.1, k6.1, i3]
    refine ⟨⟨rfl, ha⟩, ⟨rfl, a0⟩, ⟨Or.inr rfl, Or.inr rfl⟩, ?_⟩
    split
    · rename_i z; exact g2 v (by rw [if_pos z])
    · rename_i z; exact g2 0 (by rw [if_neg z])
  rw [e118, ka, ko.1, k5.1, e2]
  refine ⟨⟨rfl, a0⟩, ⟨Or.inr rfl, Or.inr rfl⟩, ?_⟩
  split
  · rename_i z; exact g1 v (by rw [if_pos z])
  · rename_i z; exact g1 0 (by rw [if_neg z])
/-- a link's name, or a ref's -/
theorem st_link {t o : Nat} (kX : kOK X) (MC : NMC X) (B : NB L xs X h0) (N : NS X h0 i F (C + 1) s om mk h) (hi : i < X.length) (h1 : 1 ≤ i) (hn : isN (lx X i) 99 o) (hp : (lx X (i - 1)).1 = t) (ht : t = 5 ∨ t = 6 ∨ t = 7 ∨ t = 8) (ho : o < cn X X.length) (ho7 : o < 7) (hC : C < 16) (hoC : o ≠ C)
    (K : ∀ h1, NS X h0 (i + 1) F (C + 1) s om (lkm mk C t o) h1 → wp (d + 5) 123 4 [.val (.ref 1034), .val (.int 0), .val (.int (Int32.ofNat (i + 1)))] [] h1 Q) :
    wp (d + 5) 123 4 [.val (.ref 1034), .val (.int 0), .val (.int (Int32.ofNat i))] [] h Q := by
  refine stn kX B N (by omega) h1 hn.1 hp (fun h2 N2 => ?_)
  obtain ⟨C0, O, LB, GR, W⟩ := N2.b B
  obtain ⟨b1, b2, b3, b4, b5, b6, b7, b8, b9, b10, b11, b12⟩ := id LB
  obtain ⟨g1, g2, g3, g4⟩ := id GR
  obtain ⟨gc1, gc2⟩ := g4 C (by omega)
  obtain ⟨n1, n2, n3, n4, n5, n6, n7, n8, n9, n10, n11, n12, n13⟩ := N2
  have w4 := W.2.2.2.2
  have go : CI (d + 4) 119 [.ref 1034, .int (Int32.ofNat i), .ref t] h2 (fun z3 h3 => wp (d + 5) 123 30 [.val (.ref 1034), .val (.int z3), .val (.int (Int32.ofNat i))] [] h3 Q) := by
    rw [e119]
    refine ⟨⟨b1, by decide⟩, s114 kX C0 O LB W MC hi hn ho ?_⟩
    rw [if_neg (i_neg (by omega)), n6, i_ofNat1, i_sub (by omega), b2]
    refine ⟨⟨b1, by decide⟩, if_eqn (k := C) rfl (by omega) (by omega) (fun z => absurd z hoC) (fun _ => ⟨⟨b1, by decide⟩, ⟨O.1, by decide⟩, s117 O W (by omega) ?_⟩)⟩
    have F1 : FR wN w0 h2 (p_wi h2 1041 i (Int32.ofNat o)) := FR.wi (a := 1041) _ (Or.inr (Or.inl rfl))
    have C1 := C0.fr F1 (fun a ha q => by unfold wN at q; omega) (fun _ _ q => q)
    have i8 : p_im (p_wi h2 1041 i (Int32.ofNat o)) 1034 8 = Int32.ofNat (C + 1) := by rw [wi_im, if_neg (by omega), n6]
    have r3 : p_rm (p_wi h2 1041 i (Int32.ofNat o)) 1034 3 = 1045 := b3
    have kk : p_kd (p_wi h2 1041 i (Int32.ofNat o)) = p_kd h2 := rfl
    have ll : p_ln (p_wi h2 1041 i (Int32.ofNat o)) = p_ln h2 := rfl
    have rr : p_rm (p_wi h2 1041 i (Int32.ofNat o)) 1045 C = 1047 + C := gc1
    rw [i8, r3, kk, ll, b1, g2, g3, if_pos (by rw [i_ofNat0, i_lt (by omega) (by omega)]; omega), i_sub (by omega), i_nat (by omega), show C + 1 - 1 = C from by omega, rr, ← i_ofNat1, sh1 o (by omega)]
    refine ⟨⟨rfl, by decide⟩, ⟨rfl, by decide⟩, ⟨rfl, by decide⟩, ⟨⟨by decide, by decide⟩, i_in hC (by decide)⟩, ?_⟩
    obtain ⟨m1, m2, m3⟩ := n12 C hC
    refine s118 C1 gc2 (by omega) (by omega) (by rw [wi_im, if_neg (by omega), m1]) (by rw [wi_im, if_neg (by omega), m2]) (by rw [wi_im, if_neg (by omega), m3]) (nx123 (K _ ?_))
    have FF : FR wN w0 h2 (p_wi (p_wi (p_wi (p_wi h2 1041 i (Int32.ofNat o)) (1047 + C) 2 (Int32.ofNat ((mk C).1 ||| (if t = 5 then 2 ^ o else 0)))) (1047 + C) 3 (Int32.ofNat ((mk C).2.1 ||| (if t = 6 then 2 ^ o else 0)))) (1047 + C) 4 (Int32.ofNat ((mk C).2.2 ||| (if t = 7 then 2 ^ o else 0)))) := ((F1.tr (FR.wi (a := 1047 + C) _ (by unfold wN; omega))).tr (FR.wi (a := 1047 + C) _ (by unfold wN; omega))).tr (FR.wi (a := 1047 + C) _ (by unfold wN; omega))
    have e : ∀ a j, (a ≠ 1047 + C ∨ (j ≠ 2 ∧ j ≠ 3 ∧ j ≠ 4)) → (a ≠ 1041 ∨ j ≠ i) → p_im (p_wi (p_wi (p_wi (p_wi h2 1041 i (Int32.ofNat o)) (1047 + C) 2 (Int32.ofNat ((mk C).1 ||| (if t = 5 then 2 ^ o else 0)))) (1047 + C) 3 (Int32.ofNat ((mk C).2.1 ||| (if t = 6 then 2 ^ o else 0)))) (1047 + C) 4 (Int32.ofNat ((mk C).2.2 ||| (if t = 7 then 2 ^ o else 0)))) a j = p_im h2 a j := fun a j q1 q2 => by rw [wi_im, if_neg (by omega), wi_im, if_neg (by omega), wi_im, if_neg (by omega), wi_im, if_neg (by omega)]
    have f2 : p_im (p_wi (p_wi (p_wi (p_wi h2 1041 i (Int32.ofNat o)) (1047 + C) 2 (Int32.ofNat ((mk C).1 ||| (if t = 5 then 2 ^ o else 0)))) (1047 + C) 3 (Int32.ofNat ((mk C).2.1 ||| (if t = 6 then 2 ^ o else 0)))) (1047 + C) 4 (Int32.ofNat ((mk C).2.2 ||| (if t = 7 then 2 ^ o else 0)))) (1047 + C) 2 = Int32.ofNat ((mk C).1 ||| (if t = 5 then 2 ^ o else 0)) := by rw [wi_im, if_neg (by omega), wi_im, if_neg (by omega), wi_im, if_pos ⟨rfl, rfl⟩]
    have f3 : p_im (p_wi (p_wi (p_wi (p_wi h2 1041 i (Int32.ofNat o)) (1047 + C) 2 (Int32.ofNat ((mk C).1 ||| (if t = 5 then 2 ^ o else 0)))) (1047 + C) 3 (Int32.ofNat ((mk C).2.1 ||| (if t = 6 then 2 ^ o else 0)))) (1047 + C) 4 (Int32.ofNat ((mk C).2.2 ||| (if t = 7 then 2 ^ o else 0)))) (1047 + C) 3 = Int32.ofNat ((mk C).2.1 ||| (if t = 6 then 2 ^ o else 0)) := by rw [wi_im, if_neg (by omega), wi_im, if_pos ⟨rfl, rfl⟩]
    have f4 : p_im (p_wi (p_wi (p_wi (p_wi h2 1041 i (Int32.ofNat o)) (1047 + C) 2 (Int32.ofNat ((mk C).1 ||| (if t = 5 then 2 ^ o else 0)))) (1047 + C) 3 (Int32.ofNat ((mk C).2.1 ||| (if t = 6 then 2 ^ o else 0)))) (1047 + C) 4 (Int32.ofNat ((mk C).2.2 ||| (if t = 7 then 2 ^ o else 0)))) (1047 + C) 4 = Int32.ofNat ((mk C).2.2 ||| (if t = 7 then 2 ^ o else 0)) := by rw [wi_im, if_pos ⟨rfl, rfl⟩]
    have f1 : p_im (p_wi (p_wi (p_wi (p_wi h2 1041 i (Int32.ofNat o)) (1047 + C) 2 (Int32.ofNat ((mk C).1 ||| (if t = 5 then 2 ^ o else 0)))) (1047 + C) 3 (Int32.ofNat ((mk C).2.1 ||| (if t = 6 then 2 ^ o else 0)))) (1047 + C) 4 (Int32.ofNat ((mk C).2.2 ||| (if t = 7 then 2 ^ o else 0)))) 1041 i = Int32.ofNat o := by rw [wi_im, if_neg (by omega), wi_im, if_neg (by omega), wi_im, if_neg (by omega), wi_im, if_pos ⟨rfl, rfl⟩]
    generalize p_wi (p_wi (p_wi (p_wi h2 1041 i (Int32.ofNat o)) (1047 + C) 2 (Int32.ofNat ((mk C).1 ||| (if t = 5 then 2 ^ o else 0)))) (1047 + C) 3 (Int32.ofNat ((mk C).2.1 ||| (if t = 6 then 2 ^ o else 0)))) (1047 + C) 4 (Int32.ofNat ((mk C).2.2 ||| (if t = 7 then 2 ^ o else 0))) = h3 at *
    refine ⟨n1.tr FF, fun c hc j hj => by rw [e _ _ (by omega) (by omega), n2 c hc j hj], by rw [e _ _ (by omega) (by omega), n3], n4, fun t ht => by rw [e _ _ (by omega) (by omega)]; exact n5 t ht, by rw [e _ _ (by omega) (by omega), n6], n7, by rw [e _ _ (by omega) (by omega), n8], n9, fun t ht => by rw [e _ _ (by omega) (by omega)]; exact n10 t ht, by rw [e _ _ (by omega) (by omega), n11], fun c hc => ?_, fun j q1 q2 q3 q4 => ?_⟩
    · by_cases hz : c = C
      · unfold lkm
        rw [hz, if_pos rfl]
        exact ⟨f2, f3, f4⟩
      · unfold lkm
        rw [if_neg hz, e _ _ (by omega) (by omega), e _ _ (by omega) (by omega), e _ _ (by omega) (by omega)]
        exact n12 c hc
    · by_cases hz : j < i
      · rw [e _ _ (by omega) (by omega)]
        exact n13 j q1 hz q3 q4
      · obtain rfl : j = i := by omega
        rw [hp]
        refine ⟨fun _ => ?_, fun z => by omega⟩
        rw [f1, hn.2.1, show 99 * 32 + o - 99 * 32 = o from by omega]
  have sw : ∀ v : Int32, c_sw.getD (t - 1) 0 = v → (v = 2 ∨ v = 16 ∨ v = 17 ∨ v = 18) → CI (d + 5) 122 [.ref 1034, .int (Int32.ofNat i), .ref t] h2 (fun z3 h3 => wp (d + 5) 123 30 [.val (.ref 1034), .val (.int z3), .val (.int (Int32.ofNat i))] [] h3 Q) := fun v hv hv2 =>
    sw122 (v := v) C0 (by omega) (by omega) hv (fun z => by rw [z] at hv2; rcases hv2 with z | z | z | z <;> cases z) (fun z => by rw [z] at hv2; rcases hv2 with z | z | z | z <;> cases z) (fun _ => go) (fun z => by rcases z with z | z <;> (rw [z] at hv2; rcases hv2 with z | z | z | z <;> cases z)) (fun z => by rcases z with z | z | z <;> (rw [z] at hv2; rcases hv2 with z | z | z | z <;> cases z)) b1 (by rcases hv2 with z | z | z | z <;> (rw [z]; decide))
  rcases ht with rfl | rfl | rfl | rfl
  · exact sw 16 (by decide) (by decide)
  · exact sw 17 (by decide) (by decide)
  · exact sw 18 (by decide) (by decide)
  · exact sw 2 (by decide) (by decide)
/-- only the meaning of the token i is set -/
theorem NS.mean {h2 : PH} {v : Int32} {s1 : List Nat} (N : NS X h0 i F C s om mk h2) (hs : s.length ≤ s1.length) (n8 : p_im h2 1034 9 = Int32.ofNat s.length → s1 = s) (hv : (lx X i).1 = 38 → ((lx X (i - 1)).1 = 5 ∨ (lx X (i - 1)).1 = 6 ∨ (lx X (i - 1)).1 = 7 → v = Int32.ofNat ((lx X i).2.1 - 99 * 32)) ∧ ((lx X (i - 1)).1 = 9 ∨ (lx X (i - 1)).1 = 10 → ∃ t, t < s.length ∧ v = Int32.ofNat t)) : NS X h0 (i + 1) F C s om mk (p_wi h2 1041 i v) := by
  obtain ⟨n1, n2, n3, n4, n5, n6, n7, n8, n9, n10, n11, n12, n13⟩ := N
  have e : ∀ a j, (a ≠ 1041 ∨ j ≠ i) → p_im (p_wi h2 1041 i v) a j = p_im h2 a j := fun a j q => by rw [wi_im, if_neg (by omega)]
  refine ⟨n1.tr (FR.wi (a := 1041) _ (Or.inr (Or.inl rfl))), fun c hc j hj => by rw [e _ _ (by omega), n2 c hc j hj], by rw [e _ _ (by omega), n3], n4, fun t ht => by rw [e _ _ (by omega)]; exact n5 t ht, by rw [e _ _ (by omega), n6], n7, by rw [e _ _ (by omega), n8], n9, fun t ht => by rw [e _ _ (by omega)]; exact n10 t ht, by rw [e _ _ (by omega), n11], fun c hc => by rw [e _ _ (by omega), e _ _ (by omega), e _ _ (by omega)]; exact n12 c hc, fun j q1 q2 q3 q4 => ?_⟩
  by_cases hz : j < i
  · rw [e _ _ (by omega)]
    exact n13 j q1 hz q3 q4
  · obtain rfl : j = i := by omega
    rw [wi_im, if_pos ⟨rfl, rfl⟩]
    exact hv q4
/-- a fact's name within a clause -/
theorem st_ask {t k : Nat} (kX : kOK X) (B : NB L xs X h0) (N : NS X h0 i F C s om mk h) (hi : i < X.length) (h1 : 1 ≤ i) (hn : isN (lx X i) 102 k) (hp : (lx X (i - 1)).1 = t) (ht : t = 3 ∨ t = 11 ∨ t = 12) (hk : k < F)
    (K : ∀ h1, NS X h0 (i + 1) F C s om mk h1 → wp (d + 5) 123 4 [.val (.ref 1034), .val (.int 0), .val (.int (Int32.ofNat (i + 1)))] [] h1 Q) :
    wp (d + 5) 123 4 [.val (.ref 1034), .val (.int 0), .val (.int (Int32.ofNat i))] [] h Q := by
  refine stn kX B N (by omega) h1 hn.1 hp (fun h2 N2 => ?_)
  obtain ⟨C0, O, LB, GR, W⟩ := N2.b B
  obtain ⟨b1, b2, b3, b4, b5, b6, b7, b8, b9, b10, b11, b12⟩ := id LB
  have n3 := N2.2.2.1
  have n4 := N2.2.2.2.1
  have n5 := N2.2.2.2.2.1
  have go : CI (d + 4) 121 [.ref 1034, .int (Int32.ofNat i)] h2 (fun z3 h3 => wp (d + 5) 123 30 [.val (.ref 1034), .val (.int z3), .val (.int (Int32.ofNat i))] [] h3 Q) := by
    rw [e121, b5, n3]
    refine ⟨⟨b1, by decide⟩, ⟨b1, by decide⟩, ⟨b1, by decide⟩, s112 (c := 102) (g := fun t => t) O LB W (by omega) hn b9 (by decide) (by omega) (by omega) n5 (fun q hq e _ => ?_) (fun z => absurd rfl (z k hk))⟩
    rw [b2]
    refine ⟨⟨b1, by decide⟩, ⟨O.1, by decide⟩, s117 O W (by omega) ?_⟩
    rw [if_neg (i_neg (by omega))]
    refine nx123 (K _ (N2.mean (s1 := s) (Nat.le_refl _) (fun _ => rfl) (fun _ => ?_)))
    rw [hp]
    exact ⟨fun z => by omega, fun z => by omega⟩
  have sw : ∀ v : Int32, c_sw.getD (t - 1) 0 = v → (v = 0 ∨ v = 5 ∨ v = 6) → CI (d + 5) 122 [.ref 1034, .int (Int32.ofNat i), .ref t] h2 (fun z3 h3 => wp (d + 5) 123 30 [.val (.ref 1034), .val (.int z3), .val (.int (Int32.ofNat i))] [] h3 Q) := fun v hv hv2 =>
    sw122 (v := v) C0 (by omega) (by omega) hv (fun z => by rw [z] at hv2; rcases hv2 with z | z | z <;> cases z) (fun z => by rw [z] at hv2; rcases hv2 with z | z | z <;> cases z) (fun z => by rcases z with z | z | z | z <;> (rw [z] at hv2; rcases hv2 with z | z | z <;> cases z)) (fun z => by rcases z with z | z <;> (rw [z] at hv2; rcases hv2 with z | z | z <;> cases z)) (fun _ => go) b1 (by rcases hv2 with z | z | z <;> (rw [z]; decide))
  rcases ht with rfl | rfl | rfl
  · exact sw 0 (by decide) (by decide)
  · exact sw 5 (by decide) (by decide)
  · exact sw 6 (by decide) (by decide)
theorem elem_getD {s : List Nat} {k : Nat} : s.elem k = true ↔ ∃ t, t < s.length ∧ s.getD t 0 = k := by
  rw [List.elem_eq_mem, decide_eq_true_eq, List.mem_iff_getElem]
  constructor
  · rintro ⟨t, ht, e⟩
    exact ⟨t, ht, by rw [List.getD_eq_getElem?_getD, List.getElem?_eq_getElem ht]; exact e⟩
  · rintro ⟨t, ht, e⟩
    exact ⟨t, ht, by rw [List.getD_eq_getElem?_getD, List.getElem?_eq_getElem ht] at e; exact e⟩
/-- a term's name -/
theorem st_term {t k : Nat} (kX : kOK X) (B : NB L xs X h0) (N : NS X h0 i F C s om mk h) (hi : i < X.length) (h1 : 1 ≤ i) (hn : isN (lx X i) 116 k) (hp : (lx X (i - 1)).1 = t) (ht : t = 9 ∨ t = 10) (hs : s.length < 24)
    (K : ∀ h1, NS X h0 (i + 1) F C (ins s k) om mk h1 → wp (d + 5) 123 4 [.val (.ref 1034), .val (.int 0), .val (.int (Int32.ofNat (i + 1)))] [] h1 Q) :
    wp (d + 5) 123 4 [.val (.ref 1034), .val (.int 0), .val (.int (Int32.ofNat i))] [] h Q := by
  refine stn kX B N (by omega) h1 hn.1 hp (fun h2 N2 => ?_)
  obtain ⟨C0, O, LB, GR, W⟩ := N2.b B
  obtain ⟨b1, b2, b3, b4, b5, b6, b7, b8, b9, b10, b11, b12⟩ := id LB
  obtain ⟨n1, n2, n3, n4, n5, n6, n7, n8, n9, n10, n11, n12, n13⟩ := id N2
  have go : CI (d + 4) 120 [.ref 1034, .int (Int32.ofNat i)] h2 (fun z3 h3 => wp (d + 5) 123 30 [.val (.ref 1034), .val (.int z3), .val (.int (Int32.ofNat i))] [] h3 Q) := by
    rw [e120, b6, n8]
    refine ⟨⟨b1, by decide⟩, ⟨b1, by decide⟩, ⟨b1, by decide⟩, s112 (c := 116) (g := fun t => s.getD t 0) O LB W (by omega) hn b11 (by decide) (by omega) (by omega) n10 (fun q hq e _ => ?_) (fun z => ?_)⟩
    · have es : ins s k = s := by unfold ins; rw [elem_getD.mpr ⟨q, hq, e⟩]; rfl
      rw [es] at K
      rw [if_neg (i_neg (by omega)), r120_30, b2]
      refine ⟨⟨b1, by decide⟩, ⟨O.1, by decide⟩, s117 O W (by omega) (nx123 (K _ (N2.mean (s1 := s) (Nat.le_refl _) (fun _ => rfl) (fun _ => ?_))))⟩
      rw [hp]
      exact ⟨fun z => by omega, fun _ => ⟨q, hq, rfl⟩⟩
    · have es : ins s k = s ++ [k] := by
        unfold ins
        cases hb : s.elem k
        · rfl
        · obtain ⟨q, q1, q2⟩ := elem_getD.mp hb
          exact absurd q2 (z q q1)
      rw [if_pos (by decide), n8]
      refine ⟨⟨b1, by decide⟩, if_ltn (k := 24) rfl (by omega) (by decide) (fun _ => ⟨⟨b1, by decide⟩, ⟨b1, by decide⟩, ?_⟩) (fun z => absurd hs z)⟩
      have i9 : p_im (p_wi h2 1065 s.length (Int32.ofNat i)) 1034 9 = Int32.ofNat s.length := by rw [wi_im, if_neg (by omega), n8]
      have kk : p_kd (p_wi h2 1065 s.length (Int32.ofNat i)) = p_kd h2 := rfl
      rw [b6, b11, b12, i_nat (by omega), i9, kk, b1, i_ofNat1, i_add]
      refine ⟨⟨⟨rfl, by decide⟩, i_in (by omega) (by decide)⟩, ⟨rfl, by decide⟩, ⟨rfl, by decide⟩, ?_⟩
      have F2 : FR wN w0 h2 (p_wi (p_wi h2 1065 s.length (Int32.ofNat i)) 1034 9 (Int32.ofNat (s.length + 1))) := (FR.wi (a := 1065) _ (Or.inr (Or.inr (Or.inr (Or.inr (Or.inl rfl)))))).tr (FR.wi (a := 1034) _ (Or.inl rfl))
      have e : ∀ a j, (a ≠ 1065 ∨ j ≠ s.length) → (a ≠ 1034 ∨ j ≠ 9) → p_im (p_wi (p_wi h2 1065 s.length (Int32.ofNat i)) 1034 9 (Int32.ofNat (s.length + 1))) a j = p_im h2 a j := fun a j q1 q2 => by rw [wi_im, if_neg (by omega), wi_im, if_neg (by omega)]
      have f9 : p_im (p_wi (p_wi h2 1065 s.length (Int32.ofNat i)) 1034 9 (Int32.ofNat (s.length + 1))) 1034 9 = Int32.ofNat (s.length + 1) := by rw [wi_im, if_pos ⟨rfl, rfl⟩]
      have f65 : p_im (p_wi (p_wi h2 1065 s.length (Int32.ofNat i)) 1034 9 (Int32.ofNat (s.length + 1))) 1065 s.length = Int32.ofNat i := by rw [wi_im, if_neg (by omega), wi_im, if_pos ⟨rfl, rfl⟩]
      generalize p_wi (p_wi h2 1065 s.length (Int32.ofNat i)) 1034 9 (Int32.ofNat (s.length + 1)) = h3 at *
      have N3 : NS X h0 i F C (s ++ [k]) om mk h3 := by
        have ls : (s ++ [k]).length = s.length + 1 := by rw [List.length_append]; rfl
        refine ⟨n1.tr F2, fun c hc j hj => by rw [e _ _ (by omega) (by omega), n2 c hc j hj], by rw [e _ _ (by omega) (by omega), n3], n4, fun t ht => by rw [e _ _ (by omega) (by omega)]; exact n5 t ht, by rw [e _ _ (by omega) (by omega), n6], n7, by rw [f9, ls], by omega, fun t ht => ?_, by rw [e _ _ (by omega) (by omega), n11], fun c hc => by rw [e _ _ (by omega) (by omega), e _ _ (by omega) (by omega), e _ _ (by omega) (by omega)]; exact n12 c hc, fun j q1 q2 q3 q4 => ?_⟩
        · rw [ls] at ht
          by_cases hz : t < s.length
          · rw [e _ _ (by omega) (by omega), getD_snoc hz]
            exact n10 t hz
          · obtain rfl : t = s.length := by omega
            rw [f65, getD_last]
            exact ⟨i, by omega, rfl, hn⟩
        · rw [e _ _ (by omega) (by omega)]
          obtain ⟨u1, u2⟩ := n13 j q1 q2 q3 q4
          refine ⟨u1, fun z => ?_⟩
          obtain ⟨t, ht, et⟩ := u2 z
          exact ⟨t, by omega, et⟩
      obtain ⟨C3, O3, LB3, GR3, W3⟩ := N3.b B
      rw [es] at K
      rw [r120_30, LB3.2.1]
      refine ⟨⟨LB3.1, by decide⟩, ⟨O3.1, by decide⟩, s117 O3 W3 (by omega) (nx123 (K _ (N3.mean (s1 := s ++ [k]) (Nat.le_refl _) (fun _ => rfl) (fun _ => ?_))))⟩
      rw [hp]
      exact ⟨fun z => by omega, fun _ => ⟨s.length, by rw [List.length_append]; exact Nat.lt_succ_self _, rfl⟩⟩
  have sw : ∀ v : Int32, c_sw.getD (t - 1) 0 = v → (v = 3 ∨ v = 4) → CI (d + 5) 122 [.ref 1034, .int (Int32.ofNat i), .ref t] h2 (fun z3 h3 => wp (d + 5) 123 30 [.val (.ref 1034), .val (.int z3), .val (.int (Int32.ofNat i))] [] h3 Q) := fun v hv hv2 =>
    sw122 (v := v) C0 (by omega) (by omega) hv (fun z => by rw [z] at hv2; rcases hv2 with z | z <;> cases z) (fun z => by rw [z] at hv2; rcases hv2 with z | z <;> cases z) (fun z => by rcases z with z | z | z | z <;> (rw [z] at hv2; rcases hv2 with z | z <;> cases z)) (fun _ => go) (fun z => by rcases z with z | z | z <;> (rw [z] at hv2; rcases hv2 with z | z <;> cases z)) b1 (by rcases hv2 with z | z <;> (rw [z]; decide))
  rcases ht with rfl | rfl
  · exact sw 3 (by decide) (by decide)
  · exact sw 4 (by decide) (by decide)
end NS2
