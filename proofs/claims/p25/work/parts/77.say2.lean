/-! Items are said. -/
/-- what stays while items are said: all but texts, what is named, and the numbers of items, which stay right -/
def FS (sm nm lt : Nat) (h h1 : PH) : Prop := Ext h h1 (fun a => k2 (p_kd h a) ∨ p_kd h a = 15 ∨ a = nm ∨ a = lt ∨ a = sm) ∧ (sm < p_nx h → (∀ j, p_rm h1 sm j = p_rm h sm j) ∧ ∀ j, j ≠ 2 → p_im h1 sm j = p_im h sm j) ∧
  ∀ a, a < p_nx h → p_kd h a = 15 → (∀ j, p_rm h1 a j = p_rm h a j) ∧ p_im h1 a 0 = p_im h a 0 ∧ p_im h1 a 2 = p_im h a 2 ∧ (p_im h1 a 1 = p_im h a 1 ∨ (∃ m, m < 6 ∧ p_im h1 a 1 = Int32.ofNat m) ∧ (p_im h a 0 = 2 ∨ p_im h a 0 = 3))
theorem FS.ext {sm nm lt : Nat} {h h1 : PH} (F : FS sm nm lt h h1) : Ext h h1 (fun a => k2 (p_kd h a) ∨ p_kd h a = 15 ∨ a = nm ∨ a = lt ∨ a = sm) := F.1
theorem FS.rf {sm nm lt : Nat} {h : PH} : FS sm nm lt h h := ⟨Ext.rf, fun _ => ⟨fun _ => rfl, fun _ _ => rfl⟩, fun _ _ _ => ⟨fun _ => rfl, rfl, rfl, Or.inl rfl⟩⟩
theorem FS.tr {sm nm lt : Nat} {h h1 h2 : PH} (A : FS sm nm lt h h1) (B : FS sm nm lt h1 h2) : FS sm nm lt h h2 := by
  refine ⟨A.1.tr B.1 (fun a ha q => ?_), fun hs => ?_, fun a ha hk => ?_⟩
  · rw [A.1.kd ha] at q
    exact q
  · have a1 := A.2.1 hs
    have b1 := B.2.1 (A.1.lt hs)
    exact ⟨fun j => (b1.1 j).trans (a1.1 j), fun j hj => (b1.2 j hj).trans (a1.2 j hj)⟩
  · obtain ⟨a1, a2, a3, a4⟩ := A.2.2 a ha hk
    obtain ⟨b1, b2, b3, b4⟩ := B.2.2 a (A.1.lt ha) (by rw [A.1.kd ha, hk])
    refine ⟨fun j => (b1 j).trans (a1 j), b2.trans a2, b3.trans a3, ?_⟩
    rw [a2] at b4
    rcases b4 with b4 | b4
    · rw [b4]; exact a4
    · exact Or.inr b4
theorem FS.ek {sm nm lt : Nat} {h h1 : PH} (E : EK k2 h h1) (hs : p_kd h sm = 12) : FS sm nm lt h h1 := by
  refine ⟨Ext.up E (fun a _ q => Or.inl q), fun x => ?_, fun a ha hk => ?_⟩
  · have n1 : ¬ k2 (p_kd h sm) := fun q => by rw [hs] at q; rcases q with q | q <;> cases q
    exact ⟨fun j => Ext.rm E x n1 j, fun j _ => Ext.im E x n1 j⟩
  · have n1 : ¬ k2 (p_kd h a) := fun q => by rw [hk] at q; rcases q with q | q <;> cases q
    exact ⟨fun j => Ext.rm E ha n1 j, Ext.im E ha n1 0, Ext.im E ha n1 2, Or.inl (Ext.im E ha n1 1)⟩
section FSS
variable {n f c sm nm lt : Nat} {h h1 : PH}
theorem IT1.fs {a : Nat} (I : IT1 n f c h a) (F : FS sm nm lt h h1) : IT1 n f c h1 a := by
  obtain ⟨a1, a2, a3, s, m, q, a4, a5, a6, a7, a8, a9, a10, a11⟩ := I
  obtain ⟨f1, f2, f3, f4⟩ := F.2.2 a a3 a1
  rcases f4 with f4 | ⟨⟨m1, g1, g2⟩, g3⟩
  · exact ⟨by rw [F.1.kd a3, a1], a2, F.1.lt a3, s, m, q, by rw [f2, a4], by rw [f4, a5], by rw [f3, a6], a7, a8, a9, a10, a11⟩
  · refine ⟨by rw [F.1.kd a3, a1], a2, F.1.lt a3, s, m1, q, by rw [f2, a4], g2, by rw [f3, a6], a7, by omega, a9, fun z => ?_, fun _ => g1⟩
    rw [a4, z] at g3
    rcases g3 with g3 | g3 <;> exact absurd g3 (by decide)
theorem IL1.fs {a : Nat} (I : IL1 n f c h a) (F : FS sm nm lt h h1) : IL1 n f c h1 a := ⟨I.1.fs F, by rw [(F.2.2 a I.1.2.2.1 I.1.1).2.1]; exact I.2⟩
theorem BK1.fs {a : Nat} (I : BK1 n f c h a) (F : FS sm nm lt h h1) (hs : p_kd h nm = 100 ∧ p_kd h lt = 100 ∧ p_kd h sm = 12) : BK1 n f c h1 a := by
  refine BKx.ext I F.1 (fun q => ?_) (fun _ q => q.fs F)
  have k := I.1
  rcases q with q | q | q | q | q
  · rw [k] at q; rcases q with q | q <;> cases q
  · rw [k] at q; cases q
  · rw [q, hs.1] at k; cases k
  · rw [q, hs.2.1] at k; cases k
  · rw [q, hs.2.2] at k; cases k
theorem IT0.fs {B a : Nat} (I : IT0 n f c B h a) (F : FS sm nm lt h h1) (hs : p_kd h nm = 100 ∧ p_kd h lt = 100 ∧ p_kd h sm = 12) : IT0 n f c B h1 a := by
  obtain ⟨f1, f2, f3, f4⟩ := F.2.2 a I.1.2.2.1 I.1.1
  refine ⟨I.1.fs F, fun q => ?_⟩
  rw [f2] at q
  rw [f1, f1]
  obtain ⟨⟨p1, p2⟩, p3, p4⟩ := I.2 q
  exact ⟨⟨p1, p2.fs F hs⟩, p3, p4.fs F hs⟩
end FSS
theorem NM.kds {sm nm lt : Nat} {s : List Nat} {h : PH} (M : NM sm nm lt s h) : p_kd h nm = 100 ∧ p_kd h lt = 100 ∧ p_kd h sm = 12 := ⟨M.1, M.2.2.2.2.2.2.2.2.1, M.2.2.2.2.1⟩
theorem NM.ek {sm nm lt : Nat} {s : List Nat} {h h1 : PH} (M : NM sm nm lt s h) (E : EK k2 h h1) : NM sm nm lt s h1 := NM.ext M E (fun q => by rw [M.kds.1] at q; rcases q with q | q <;> cases q) (fun q => by rw [M.kds.2.2] at q; rcases q with q | q <;> cases q)
theorem IT1.ek {n f c a : Nat} {h h1 : PH} (I : IT1 n f c h a) (E : EK k2 h h1) : IT1 n f c h1 a := IT1.ext I E (fun q => by rw [I.1] at q; rcases q with q | q <;> cases q)
theorem BT.wr {L : Nat} {xs : Nat → Int32} {N U b : Nat} {l : List Int32} {h h1 : PH} {W : Nat → Prop} (B : BT L xs N U h b l) (E : Ext h h1 W) (x : p_nx h1 = p_nx h) (u : p_us h1 = p_us h) (hw : ∀ a, W a → 1000 ≤ a ∧ p_kd h a ≠ 13 ∧ p_kd h a ≠ 120) : BT L xs N U h1 b l := by
  obtain ⟨C, g, v, S, g1, g2⟩ := B
  refine ⟨C.ext E (fun a ha q => by have := (hw a q).1; omega), by rw [x]; exact g, v, S.ext E (fun q => (hw b q).2.1 S.1) (fun q => (hw v q).2.2 S.2.2.2.1), ?_, ?_⟩
  · rw [E.ln S.2.2.2.2.2.1]; exact g1
  · rw [E.ln S.2.2.2.2.2.1, u]; exact g2
/-- a letter is named -/
theorem n51 {d n f c L N U b sm nm lt a4 a7 m t : Nat} {xs : Nat → Int32} {x5 x6 : Int32} {l : List Int32} {s : List Nat} {h : PH} {Q : Option Value → PH → Prop} (B : BT L xs N U h b l) (M : NM sm nm lt s h) (I : IT1 n f c h a7) (h0 : p_im h a7 0 = Int32.ofNat t) (ht : t = 2 ∨ t = 3) (h1 : p_im h a7 1 = Int32.ofNat m) (hm : m < 6)
    (K : ∀ h1, BT L xs N U h1 b l → NM sm nm lt (ins s m) h1 → FS sm nm lt h h1 → wp d 51 63 [.val (.ref b), .val (.ref sm), .unset, .val (.ref nm), .val (.ref a4), .val (.int x5), .val (.int x6), .unset, .val (.int (Int32.ofNat m))] [.ref (110 + t), .ref b] h1 Q) :
    wp d 51 26 [.val (.ref b), .val (.ref sm), .unset, .val (.ref nm), .val (.ref a4), .val (.int x5), .val (.int x6), .val (.ref a7), .unset] [] h Q := by
  obtain ⟨a1, a2, a3, b4, a5, a6, c7, a8, a9, a10, a11, a12, a13, a14, a15, a16⟩ := id M
  have i1 := I.1
  have i2 := I.2.1
  have i3 := I.2.2.1
  have z7 : ¬ a7 = 0 := by omega
  have zn : ¬ nm = 0 := by omega
  have zs : ¬ sm = 0 := by omega
  have n1 : ¬ a7 = nm := fun e => by rw [e, a1] at i1; cases i1
  have n2 : ¬ a7 = lt := fun e => by rw [e, a9] at i1; cases i1
  have n3 : ¬ a7 = sm := fun e => by rw [e, a5] at i1; cases i1
  have n4 : ¬ sm = nm := fun e => by rw [e, a1] at a5; cases a5
  have n5 : ¬ sm = lt := fun e => by rw [e, a9] at a5; cases a5
  have hin : p_in (Int32.ofNat m) 6 := i_in hm (by decide)
  -- the last step: the item's number
  have fin : ∀ h2 : PH, BT L xs N U h2 b l → NM sm nm lt (ins s m) h2 → (∃ j, j < 6 ∧ p_im h2 nm m = Int32.ofNat j) → FS sm nm lt h h2 → p_im h2 a7 0 = Int32.ofNat t →
      wp d 51 50 [.val (.ref b), .val (.ref sm), .unset, .val (.ref nm), .val (.ref a4), .val (.int x5), .val (.int x6), .val (.ref a7), .val (.int (Int32.ofNat m))] [] h2 Q := by
    intro h2 B2 M2 hj F2 e0
    obtain ⟨j, hj, ej⟩ := hj
    have k7 : p_kd h2 a7 = 15 := by rw [F2.1.kd i3, i1]
    have E3 : Ext h2 (p_wi h2 a7 1 (Int32.ofNat j)) (fun a => a = a7) := Ext.wi _ (fun _ => rfl)
    have F3 : FS sm nm lt h2 (p_wi h2 a7 1 (Int32.ofNat j)) := by
      refine ⟨E3.up (fun a _ q => Or.inr (Or.inl (by rw [q]; exact k7))), fun _ => ⟨fun _ => rfl, fun i _ => ?_⟩, fun a ha hk => ⟨fun _ => rfl, ?_, ?_, ?_⟩⟩
      · rw [wi_im, if_neg (fun q => n3 q.1.symm)]
      · rw [wi_im, if_neg (by omega)]
      · rw [wi_im, if_neg (by omega)]
      · rw [wi_im]
        split
        · rename_i q
          refine Or.inr ⟨⟨j, hj, rfl⟩, ?_⟩
          rw [q.1, e0]
          rcases ht with rfl | rfl
          · exact Or.inl rfl
          · exact Or.inr rfl
        · exact Or.inl rfl
    have B3 : BT L xs N U (p_wi h2 a7 1 (Int32.ofNat j)) b l := B2.wr E3 rfl rfl (fun a q => by rw [q, k7]; exact ⟨i2, by decide, by decide⟩)
    have M3 : NM sm nm lt (ins s m) (p_wi h2 a7 1 (Int32.ofNat j)) := M2.ext E3 (fun q => n1 q.symm) (fun q => n3 q.symm)
    have eim : p_im (p_wi h2 a7 1 (Int32.ofNat j)) a7 0 = Int32.ofNat t := by rw [wi_im, if_neg (by omega), e0]
    rw [r51_50, M2.1, M2.2.2.2.1, i_nat (by omega), ej, wi_kd, k7, eim]
    refine ⟨⟨⟨rfl, zn⟩, hin⟩, ⟨rfl, i2⟩, ⟨rfl, z7⟩, ?_⟩
    have := K _ B3 M3 (F2.tr F3)
    rcases ht with rfl | rfl
    · rw [if_pos (by decide)]; exact this
    · rw [if_neg (by decide)]; exact this
  rw [r51_26, i1, a1, b4, h1, i_nat (by omega)]
  refine ⟨⟨rfl, z7⟩, ⟨⟨rfl, zn⟩, hin⟩, ?_⟩
  cases hs : s.elem m with
  | true =>
    obtain ⟨j, hj, ej⟩ := (a16 m hm).1 hs
    rw [ej, if_neg (i_neg (by omega))]
    refine fin h B ?_ ⟨j, hj, ej⟩ FS.rf h0
    unfold ins
    rw [hs]
    exact M
  | false =>
    have e1 := (a16 m hm).2 hs
    have e6 := n6_snoc hm hs
    have lt6 : s.length < 6 := by omega
    rw [e1, if_pos (by decide), a14]
    have w1 : p_kd (p_wi h nm m (Int32.ofNat s.length)) = p_kd h := rfl
    have w2 : p_rm (p_wi h nm m (Int32.ofNat s.length)) = p_rm h := rfl
    have w3 : p_ln (p_wi h nm m (Int32.ofNat s.length)) = p_ln h := rfl
    have w4 : p_im (p_wi h nm m (Int32.ofNat s.length)) sm 2 = Int32.ofNat s.length := by rw [wi_im, if_neg (fun q => n4 q.1), a14]
    rw [w1, w2, w3, w4, c7 |> fun _ => a8, a5, a9, a12, i_nat (by omega)]
    refine ⟨⟨rfl, zs⟩, ⟨⟨rfl, a2⟩, hin⟩, ⟨rfl, zs⟩, ⟨rfl, zs⟩, ⟨⟨rfl, a10⟩, i_in lt6 (by decide)⟩, ?_⟩
    rw [r51_44]
    have w5 : p_kd (p_wi (p_wi h nm m (Int32.ofNat s.length)) lt s.length (Int32.ofNat m)) = p_kd h := rfl
    have w6 : p_im (p_wi (p_wi h nm m (Int32.ofNat s.length)) lt s.length (Int32.ofNat m)) sm 2 = Int32.ofNat s.length := by rw [wi_im, if_neg (fun q => n5 q.1), w4]
    rw [w5, w6, a5, i_ofNat1, i_add]
    refine ⟨⟨rfl, zs⟩, ⟨rfl, a6⟩, ?_⟩
    have E3 : Ext h (p_wi (p_wi (p_wi h nm m (Int32.ofNat s.length)) lt s.length (Int32.ofNat m)) sm 2 (Int32.ofNat (s.length + 1))) (fun a => a = nm ∨ a = lt ∨ a = sm) :=
      ((Ext.wi _ (fun _ => Or.inl rfl)).tr (Ext.wi (W := fun a => a = nm ∨ a = lt ∨ a = sm) _ (fun _ => Or.inr (Or.inl rfl))) (fun _ _ q => q)).tr (Ext.wi (W := fun a => a = nm ∨ a = lt ∨ a = sm) _ (fun _ => Or.inr (Or.inr rfl))) (fun _ _ q => q)
    have im3 : ∀ a i, ¬ a = nm → ¬ a = lt → ¬ (a = sm ∧ i = 2) → p_im (p_wi (p_wi (p_wi h nm m (Int32.ofNat s.length)) lt s.length (Int32.ofNat m)) sm 2 (Int32.ofNat (s.length + 1))) a i = p_im h a i := fun a i q1 q2 q3 => by
      rw [wi_im, if_neg q3, wi_im, if_neg (fun q => q2 q.1), wi_im, if_neg (fun q => q1 q.1)]
    have imn : ∀ i, p_im (p_wi (p_wi (p_wi h nm m (Int32.ofNat s.length)) lt s.length (Int32.ofNat m)) sm 2 (Int32.ofNat (s.length + 1))) nm i = if i = m then Int32.ofNat s.length else p_im h nm i := fun i => by
      rw [wi_im, if_neg (fun q => n4 q.1.symm), wi_im, if_neg (fun q => a13 q.1), wi_im]
      by_cases hi : i = m
      · rw [if_pos ⟨rfl, hi⟩, if_pos hi]
      · rw [if_neg (fun q => hi q.2), if_neg hi]
    have ims : p_im (p_wi (p_wi (p_wi h nm m (Int32.ofNat s.length)) lt s.length (Int32.ofNat m)) sm 2 (Int32.ofNat (s.length + 1))) sm 2 = Int32.ofNat (s.length + 1) := by rw [wi_im, if_pos ⟨rfl, rfl⟩]
    have ie : ins s m = s ++ [m] := by unfold ins; rw [hs]; rfl
    have x3 : p_nx (p_wi (p_wi (p_wi h nm m (Int32.ofNat s.length)) lt s.length (Int32.ofNat m)) sm 2 (Int32.ofNat (s.length + 1))) = p_nx h := rfl
    have u3 : p_us (p_wi (p_wi (p_wi h nm m (Int32.ofNat s.length)) lt s.length (Int32.ofNat m)) sm 2 (Int32.ofNat (s.length + 1))) = p_us h := rfl
    have r3 : p_rm (p_wi (p_wi (p_wi h nm m (Int32.ofNat s.length)) lt s.length (Int32.ofNat m)) sm 2 (Int32.ofNat (s.length + 1))) = p_rm h := rfl
    have k3 : p_kd (p_wi (p_wi (p_wi h nm m (Int32.ofNat s.length)) lt s.length (Int32.ofNat m)) sm 2 (Int32.ofNat (s.length + 1))) = p_kd h := rfl
    have l3 : p_ln (p_wi (p_wi (p_wi h nm m (Int32.ofNat s.length)) lt s.length (Int32.ofNat m)) sm 2 (Int32.ofNat (s.length + 1))) = p_ln h := rfl
    generalize p_wi (p_wi (p_wi h nm m (Int32.ofNat s.length)) lt s.length (Int32.ofNat m)) sm 2 (Int32.ofNat (s.length + 1)) = h3 at *
    refine fin h3 (B.wr E3 x3 u3 (fun a q => ?_)) ?_ ⟨s.length, lt6, by rw [imn, if_pos rfl]⟩ ⟨E3.up (fun a _ q => Or.inr (Or.inr q)), fun _ => ⟨fun _ => by rw [r3], fun j hj => im3 sm j n4 n5 (fun q => hj q.2)⟩, fun a ha hk => ?_⟩ (by rw [im3 a7 0 n1 n2 (fun q => n3 q.1), h0])
    · rcases q with q | q | q
      · rw [q, a1]; exact ⟨a2, by decide, by decide⟩
      · rw [q, a9]; exact ⟨a10, by decide, by decide⟩
      · rw [q, a5]; exact ⟨a6, by decide, by decide⟩
    · rw [ie]
      refine ⟨by rw [k3, a1], a2, by rw [x3]; exact a3, by rw [l3, b4], by rw [k3, a5], a6, by rw [x3]; exact c7, by rw [r3, a8], by rw [k3, a9], a10, by rw [x3]; exact a11, by rw [l3, a12], a13, by rw [ims, List.length_append]; rfl, by rw [List.length_append]; show s.length + 1 + _ = 6; omega, fun x hx => ?_⟩
      rw [imn, elem_snoc]
      by_cases hxm : x = m
      · rw [if_pos hxm]
        refine ⟨fun _ => ⟨s.length, lt6, rfl⟩, fun q => ?_⟩
        rw [hxm, show Nat.beq m m = true from Nat.beq_refl m, Bool.or_true] at q
        cases q
      · rw [if_neg hxm, show Nat.beq x m = false from beq_no hxm, Bool.or_false]
        exact a16 x hx
    · have q1 : ¬ a = nm := fun e => by rw [e, a1] at hk; cases hk
      have q2 : ¬ a = lt := fun e => by rw [e, a9] at hk; cases hk
      have q3 : ¬ a = sm := fun e => by rw [e, a5] at hk; cases hk
      exact ⟨fun _ => by rw [r3], im3 a 0 q1 q2 (fun z => q3 z.1), im3 a 2 q1 q2 (fun z => q3 z.1), Or.inl (im3 a 1 q1 q2 (fun z => q3 z.1))⟩
