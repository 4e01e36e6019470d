/-! The text is fed to the desk. -/
def chr (tx : List Nat) (i : Nat) : Nat := if i < tx.length then tx.getD i 0 else 32
theorem chr_lt {tx : List Nat} (hc : ∀ c ∈ tx, c < 128) (i : Nat) : chr tx i < 128 := by
  unfold chr
  split
  · rename_i h
    refine hc _ ?_
    rw [List.getD_eq_getElem?_getD, List.getElem?_eq_getElem h]
    exact List.getElem_mem h
  · decide
/-- signs packed into a number, as they come -/
def pf (g : Nat → Nat) : Nat → Nat
  | 0 => 0
  | r + 1 => pf g r * 256 + g r
theorem pf4 (g : Nat → Nat) : pf g 4 = ((g 0 * 256 + g 1) * 256 + g 2) * 256 + g 3 := by
  simp only [pf, Nat.zero_mul, Nat.zero_add]
/-- the desk while it is fed -/
def FD (h h1 : PH) : Prop := Ext h h1 (fun a => a = 1000 ∨ a = 1001) ∧ (∀ j, p_rm h1 1000 j = p_rm h 1000 j) ∧ ∀ j, j ≠ 1 → p_im h1 1000 j = p_im h 1000 j
theorem FD.tr {h h1 h2 : PH} (A : FD h h1) (B : FD h1 h2) : FD h h2 := ⟨A.1.tr B.1 (fun _ _ q => q), fun j => (B.2.1 j).trans (A.2.1 j), fun j hj => (B.2.2 j hj).trans (A.2.2 j hj)⟩
theorem FD.nw {h h1 : PH} (E : Ext h h1 (fun _ => False)) (h0 : 1000 < p_nx h) : FD h h1 := ⟨E.up (fun _ _ q => q.elim), fun j => E.rm h0 (fun q => q) j, fun j _ => E.im h0 (fun q => q) j⟩
theorem FD.tp {h h1 : PH} (T : TPs h h1 1000 1001) : FD h h1 := by
  obtain ⟨t1, t2, t3, t4, t5, t6⟩ := T
  refine ⟨⟨by omega, by omega, fun a _ => by rw [t3, t4]; exact ⟨rfl, rfl⟩, fun a _ hn => ⟨fun j => t6 a j (fun q => hn (Or.inl q.1)) (fun q => hn (Or.inr q)), fun j => by rw [t5]⟩⟩, fun j => by rw [t5], fun j hj => t6 1000 j (fun q => hj q.2) (by decide)⟩
theorem TP.ext {h h1 : PH} {a t : Nat} {l : List Int32} {W : Nat → Prop} (T : TP h a t l) (E : Ext h h1 W) (w1 : ¬ W a) (w2 : ¬ W t) : TP h1 a t l := by
  obtain ⟨t1, t2, t3, t4, t5, t6, t7, t8, t9, t10, t11⟩ := T
  exact ⟨by rw [E.kd t3, t1], t2, E.lt t3, by rw [E.kd t6, t4], t5, E.lt t6, by rw [E.rm t3 w1, t7], by rw [E.ln t6, t8], by rw [E.im t3 w1, t9], t10, fun i hi => by rw [E.im t6 w2, t11 i hi]⟩
section TL
variable {d z w : Nat} {tx : List Nat} {Q : Option Value → PH → Prop}
/-- the loop over the signs of a row -/
theorem l163 {f a3 : Nat} (hc : ∀ c ∈ tx, c < 128) (hl : tx.length ≤ 3000) (hf : f ≤ 3000) (ha : 1000 ≤ a3) : ∀ (r k : Nat) (h : PH), k + r = 20 → TX h z w (tx.map Int32.ofNat) → p_kd h a3 = 100 → p_ln h a3 = 5 → a3 ≠ z → a3 ≠ w → (∀ j, j < 5 → p_im h a3 j = Int32.ofNat (pf (fun i => chr tx (f + (4 * j + i))) (min 4 (k - 4 * j)))) →
    (∀ h1, TX h1 z w (tx.map Int32.ofNat) → Ext h h1 (fun a => a = a3) → p_nx h1 = p_nx h → p_us h1 = p_us h → (∀ j, j < 5 → p_im h1 a3 j = Int32.ofNat (pf (fun i => chr tx (f + (4 * j + i))) 4)) → wp (d + 4) 163 11 [.val (.ref 1000), .val (.ref z), .val (.int (Int32.ofNat f)), .val (.ref a3), .val (.int 20)] [] h1 Q) →
    wp (d + 4) 163 11 [.val (.ref 1000), .val (.ref z), .val (.int (Int32.ofNat f)), .val (.ref a3), .val (.int (Int32.ofNat k))] [] h Q := by
  intro r
  induction r with
  | zero =>
    intro k h e T h1 h2 n1 n2 hv K
    obtain rfl : k = 20 := by omega
    refine K h T Ext.rf rfl rfl (fun j hj => ?_)
    rw [hv j hj, show min 4 (20 - 4 * j) = 4 from by omega]
  | succ r ih =>
    intro k h e T h1 h2 n1 n2 hv K
    have T0 := T
    obtain ⟨t1, t2, -⟩ := T0
    have a0 : ¬ a3 = 0 := by omega
    rw [r163_11, if_pos (by rw [show (20 : Int32) = Int32.ofNat 20 from rfl, i_lt (by omega) (by omega)]; omega), show (4 : Int32) = Int32.ofNat 4 from rfl, i_div (by omega) (by omega), i_nat (by omega), hv (k / 4) (by omega), pq_shl, i_add, h1, h2]
    have go : ∀ c h3, c = chr tx (f + k) → TX h3 z w (tx.map Int32.ofNat) → h3 = h → wp (d + 4) 163 38 [.val (.ref 1000), .val (.ref z), .val (.int (Int32.ofNat f)), .val (.ref a3), .val (.int (Int32.ofNat k))] [.int (Int32.ofNat c), .int (Int32.ofNat (pf (fun i => chr tx (f + (4 * (k / 4) + i))) (min 4 (k - 4 * (k / 4))) * 256)), .int (Int32.ofNat (k / 4)), .ref a3] h3 Q := by
      intro c h3 ec T3 eh
      subst eh
      have c128 : c < 128 := by rw [ec]; exact chr_lt hc _
      rw [r163_38, h1, h2, pq_or (by omega), i_nat (by omega), i_ofNat1, i_add]
      refine ⟨⟨⟨rfl, ha⟩, i_in (by omega) (by omega)⟩, ?_⟩
      have E : Ext h3 (p_wi h3 a3 (k / 4) (Int32.ofNat (pf (fun i => chr tx (f + (4 * (k / 4) + i))) (min 4 (k - 4 * (k / 4))) * 256 + c))) (fun a => a = a3) := Ext.wi _ (fun _ => rfl)
      refine ih (k + 1) _ (by omega) (T.ext E (fun q => n1 q.symm) (fun q => n2 q.symm)) (by rw [wi_kd, h1]) (by rw [wi_ln, h2]) n1 n2 (fun j hj => ?_) (fun h4 T4 E4 x4 u4 hv4 => K h4 T4 (E.tr E4 (fun _ _ q => q)) x4 u4 hv4)
      rw [wi_im]
      by_cases hz : j = k / 4
      · rw [if_pos ⟨rfl, hz⟩, hz, show min 4 (k - 4 * (k / 4)) = k % 4 from by omega, show min 4 (k + 1 - 4 * (k / 4)) = k % 4 + 1 from by omega]
        show Int32.ofNat _ = Int32.ofNat (pf _ (k % 4) * 256 + chr tx (f + (4 * (k / 4) + k % 4)))
        rw [show f + (4 * (k / 4) + k % 4) = f + k from by omega, ec]
      · rw [if_neg (fun q => hz q.2), hv j hj, show min 4 (k + 1 - 4 * j) = min 4 (k - 4 * j) from by omega]
    refine ⟨by decide, by decide, ⟨⟨by decide, a0⟩, i_in (by omega) (by omega)⟩, ⟨t1, t2⟩, s17 T ?_⟩
    rw [List.length_map]
    refine if_ltn (k := tx.length) rfl (by omega) (by omega) (fun q => ⟨⟨t1, t2⟩, ?_⟩) (fun q => ?_)
    · have e2 : chr tx (f + k) = tx.getD (f + k) 0 := by unfold chr; rw [if_pos q]
      have e3 : (tx.map Int32.ofNat).getD (f + k) 0 = Int32.ofNat (chr tx (f + k)) := by
        rw [e2, List.getD_eq_getElem?_getD, List.getElem?_map, List.getD_eq_getElem?_getD, List.getElem?_eq_getElem q]
        rfl
      exact s60 T (by rw [List.length_map]; exact q) (chr_lt hc _) e3 (go _ h rfl T rfl)
    · exact go 32 h (by unfold chr; rw [if_neg q]) T rfl
/-- what has been fed after i rows -/
def fed (tx : List Nat) (i : Nat) : List Int32 := (List.range (20 * i)).map (fun j => Int32.ofNat (chr tx j))
theorem fed_len (tx : List Nat) (i : Nat) : (fed tx i).length = 20 * i := by unfold fed; rw [List.length_map, List.length_range]
theorem fed_succ (tx : List Nat) (hc : ∀ c ∈ tx, c < 128) (i : Nat) : fed tx (i + 1) = fed tx i ++ (by4 (Int32.ofNat (pf (fun k => chr tx (20 * i + (4 * 0 + k))) 4)) ++ by4 (Int32.ofNat (pf (fun k => chr tx (20 * i + (4 * 1 + k))) 4)) ++ by4 (Int32.ofNat (pf (fun k => chr tx (20 * i + (4 * 2 + k))) 4)) ++ by4 (Int32.ofNat (pf (fun k => chr tx (20 * i + (4 * 3 + k))) 4)) ++ by4 (Int32.ofNat (pf (fun k => chr tx (20 * i + (4 * 4 + k))) 4))) := by
  have q := chr_lt hc
  rw [pf4, pf4, pf4, pf4, pf4, by4_of (q _) (q _) (q _) (q _), by4_of (q _) (q _) (q _) (q _), by4_of (q _) (q _) (q _) (q _), by4_of (q _) (q _) (q _) (q _), by4_of (q _) (q _) (q _) (q _)]
  unfold fed
  rw [show 20 * (i + 1) = 20 * i + 20 from by omega, List.range_add, List.map_append]
  congr 1
theorem fed_take {tx : List Nat} {i : Nat} (h : tx.length ≤ 20 * i) : (fed tx i).take tx.length = tx.map Int32.ofNat := by
  refine List.ext_getElem ?_ (fun j h1 h2 => ?_)
  · rw [List.length_take, fed_len, List.length_map]; omega
  · rw [List.length_map] at h2
    rw [List.getElem_take, List.getElem_map]
    unfold fed
    rw [List.getElem_map, List.getElem_range]
    unfold chr
    rw [if_pos h2, List.getD_eq_getElem?_getD, List.getElem?_eq_getElem h2]
    rfl
/-- the loop over rows -/
theorem k163 (hc : ∀ c ∈ tx, c < 128) (hl : tx.length ≤ 2980) : ∀ (r i : Nat) (h : PH), (tx.length + 19) / 20 = i + r → TX h z w (tx.map Int32.ofNat) → z ≠ 1000 → z ≠ 1001 → w ≠ 1000 → w ≠ 1001 → z < p_nx h → w < p_nx h → TP h 1000 1001 (fed tx i) → p_nx h + r ≤ 500000 → p_us h + 5 * r ≤ 7000000 →
    (∀ h1, TP h1 1000 1001 (tx.map Int32.ofNat) → FD h h1 → p_nx h1 ≤ p_nx h + r → p_us h1 ≤ p_us h + 5 * r → CI (d + 4) 162 [.ref 1000] h1 (fun z4 h4 => Q (some (.int z4)) h4)) →
    wp (d + 4) 163 2 [.val (.ref 1000), .val (.ref z), .val (.int (Int32.ofNat (20 * i))), .unset, .unset] [] h Q := by
  intro r
  induction r with
  | zero =>
    intro i h e T n1 n2 n3 n4 hz hw P c1 c2 K
    obtain ⟨t1, t2, -⟩ := id T
    rw [r163_2]
    refine ⟨⟨t1, t2⟩, s17 T ?_⟩
    rw [List.length_map, if_neg (by rw [i_lt (by omega) (by omega)]; omega)]
    refine ⟨⟨t1, t2⟩, s17 T ⟨⟨P.1, by decide⟩, ?_⟩⟩
    rw [List.length_map]
    refine s63 P (by rw [fed_len]; omega) (fun h1 P1 E1 => ⟨⟨P1.1, by decide⟩, ?_⟩)
    rw [fed_take (by omega)] at P1
    exact K h1 P1 (FD.tp E1) (by rw [E1.1]; omega) (by rw [E1.2.1]; omega)
  | succ r ih =>
    intro i h e T n1 n2 n3 n4 hz hw P c1 c2 K
    obtain ⟨t1, t2, -⟩ := id T
    have e1 : p_CN = 601086 := rfl
    have e2 : p_CS = 7301442 := rfl
    have px := P.2.2.1
    have px1 := P.2.2.2.2.2.1
    rw [r163_2]
    refine ⟨⟨t1, t2⟩, s17 T ?_⟩
    rw [List.length_map, if_pos (by rw [i_lt (by omega) (by omega)]; omega)]
    refine ⟨⟨by decide, by omega, by omega⟩, ?_⟩
    have E0 : Ext h (p_new h 100 5 5) (fun _ => False) := Ext.pn 100 5 5
    refine l163 (f := 20 * i) (a3 := p_nx h) (tx := tx) hc (by omega) (by omega) (by omega) 20 0 _ rfl (T.ext E0 (fun q => q) (fun q => q)) (by rw [pn_kd, if_pos rfl]) (by rw [pn_ln, if_pos rfl]) (by omega) (by omega) (fun j hj => ?_) (fun h1 T1 E1 x1 u1 hv => ?_)
    · rw [pn_im, if_pos rfl, show min 4 (0 - 4 * j) = 0 from by omega]; rfl
    · rw [pn_nx] at x1
      rw [pn_us] at u1
      have E2 : Ext h h1 (fun _ => False) := E0.tr E1 (fun a ha q => by omega)
      have P1 := P.ext E2 (fun q => q) (fun q => q)
      have k3 : p_kd h1 (p_nx h) = 100 := by rw [E1.kd (by rw [pn_nx]; omega), pn_kd, if_pos rfl]
      have l3 : p_ln h1 (p_nx h) = 5 := by rw [E1.ln (by rw [pn_nx]; omega), pn_ln, if_pos rfl]
      have x0 : ¬ p_nx h = 0 := by omega
      rw [r163_11, if_neg (by decide), k3, l3, hv 0 (by decide), hv 1 (by decide), hv 2 (by decide), hv 3 (by decide), hv 4 (by decide)]
      refine ⟨⟨⟨by decide, x0⟩, i_in (j := 0) (by decide) (by decide)⟩, ⟨⟨by decide, x0⟩, i_in (j := 1) (by decide) (by decide)⟩, ⟨⟨by decide, x0⟩, i_in (j := 2) (by decide) (by decide)⟩, ⟨⟨by decide, x0⟩, i_in (j := 3) (by decide) (by decide)⟩, ⟨⟨by decide, x0⟩, i_in (j := 4) (by decide) (by decide)⟩, ⟨P1.1, by decide⟩, ?_⟩
      refine s62 P1 (by rw [fed_len]; omega) (fun h2 P2 E3 => ?_)
      rw [← fed_succ tx hc i] at P2
      have F2 := (FD.nw E2 px).tr (FD.tp E3)
      rw [show (20 : Int32) = Int32.ofNat 20 from rfl, i_add, show 20 * i + 20 = 20 * (i + 1) from by omega]
      have x2 := E3.1
      have u2 := E3.2.1
      refine ih (i + 1) h2 (by omega) (T1.ext (FD.tp E3).1 (fun q => by omega) (fun q => by omega)) n1 n2 n3 n4 (by omega) (by omega) P2 (by omega) (by omega) (fun h4 P4 F4 x4 u4 => K h4 P4 (F2.tr F4) (by omega) (by omega))
end TL
/-- a text is told -/
theorem s163 {d z w : Nat} {tx : List Nat} {h : PH} {Q : Int32 → PH → Prop} (hc : ∀ c ∈ tx, c < 128) (hl : tx.length ≤ 2980) (T : TX h z w (tx.map Int32.ofNat)) (n1 : z ≠ 1000) (n2 : z ≠ 1001) (n3 : w ≠ 1000) (n4 : w ≠ 1001) (hw : w < p_nx h) (P : TP h 1000 1001 []) (c1 : p_nx h ≤ 400000) (c2 : p_us h ≤ 6000000)
    (K : ∀ h1, TP h1 1000 1001 (tx.map Int32.ofNat) → FD h h1 → p_nx h1 ≤ p_nx h + 150 → p_us h1 ≤ p_us h + 750 → CI (d + 4) 162 [.ref 1000] h1 Q) : CI (d + 5) 163 [.ref 1000, .ref z] h Q := by
  rw [e163]
  exact k163 (d := d) (Q := fun v h1 => onI v (fun x => Q x h1)) hc hl ((tx.length + 19) / 20) 0 h (by omega) T n1 n2 n3 n4 T.2.2.1 hw P (by omega) (by omega) (fun h1 P1 F1 x1 u1 => K h1 P1 F1 (by omega) (by omega))
