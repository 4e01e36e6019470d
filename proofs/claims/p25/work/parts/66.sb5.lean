/-- a new builder -/
theorem s12 {d : Nat} {h : PH} {Q : PH → Prop} (c1 : p_nx h + 2 ≤ p_CN) (c2 : p_us h + 20 ≤ p_CS) (hn : 1000 ≤ p_nx h)
    (K : ∀ h1, SB h1 (p_nx h) (p_nx h + 1) [] → p_ln h1 (p_nx h + 1) = 16 → Ext h h1 (fun _ => False) → p_nx h1 = p_nx h + 2 → p_us h1 = p_us h + 20 → Q h1) : CV (d + 2) 12 [.ref (p_nx h)] (p_new h 13 0 4) Q := by
  rw [e12]
  refine ⟨hn, ?_⟩
  rw [e11, if_neg (by decide), show ((16 : Int32)).toNatClampNeg = 16 from by decide, pn_nx, pn_us]
  have hk : p_kd (p_new (p_new h 13 0 4) 120 16 16) (p_nx h) = 13 := by rw [pn_kd, if_neg (by rw [pn_nx]; omega), pn_kd, if_pos rfl]
  have E : Ext h (p_wi (p_wr (p_new (p_new h 13 0 4) 120 16 16) (p_nx h) 0 (p_nx h + 1)) (p_nx h) 1 0) (fun _ => False) :=
    (((Ext.pn (W := fun _ => False) 13 0 4).tr (Ext.pn (W := fun _ => False) 120 16 16) (fun _ _ q => q)).tr (Ext.wr (W := fun a => a = p_nx h) _ (fun _ => rfl)) (fun a ha q => by omega)).tr (Ext.wi (W := fun a => a = p_nx h) _ (fun _ => rfl)) (fun a ha q => by omega)
  refine ⟨hn, ⟨by decide, by omega, by omega⟩, ⟨hk, hn⟩, ⟨⟨hk, hn⟩, by decide⟩, K _ ⟨?_, hn, ?_, ?_, by omega, ?_, ?_, ?_, ?_, ?_, ?_, ?_⟩ ?_ E rfl ?_⟩
  · rw [wi_kd, wr_kd, hk]
  · rw [wi_nx, wr_nx, pn_nx, pn_nx]; omega
  · rw [wi_kd, wr_kd, pn_kd, pn_nx, if_pos rfl]
  · rw [wi_nx, wr_nx, pn_nx, pn_nx]; omega
  · rw [wi_rm, wr_rm, if_pos ⟨rfl, rfl⟩]
  · rw [wi_im, if_pos ⟨rfl, rfl⟩]
  · rw [wi_im, if_neg (by omega), wr_im, pn_im, pn_nx, if_neg (by omega), pn_im, if_pos rfl]; rfl
  · rw [wi_ln, wr_ln, pn_ln, pn_nx, if_pos rfl]; exact Nat.zero_le _
  · rw [wi_ln, wr_ln, pn_ln, pn_nx, if_pos rfl]; omega
  · intro i hi; exact absurd hi (Nat.not_lt_zero _)
  · rw [wi_ln, wr_ln, pn_ln, pn_nx, if_pos rfl]
  · rw [wi_us, wr_us, pn_us, pn_us]
theorem cl_nx (h : PH) (d s : Nat) : p_nx (p_cl h d s) = p_nx h := rfl
theorem cl_us (h : PH) (d s : Nat) : p_us (p_cl h d s) = p_us h := rfl
theorem cl_kd (h : PH) (d s : Nat) : p_kd (p_cl h d s) = p_kd h := rfl
theorem cl_ln (h : PH) (d s : Nat) : p_ln (p_cl h d s) = p_ln h := rfl
theorem cl_rm (h : PH) (d s : Nat) : p_rm (p_cl h d s) = p_rm h := rfl
theorem cl_im (h : PH) (d s x j : Nat) : p_im (p_cl h d s) x j = if x = d then p_im h s j else p_im h x j := rfl
theorem Ext.cl {h : PH} {W : Nat → Prop} {d : Nat} (s : Nat) (hW : d < p_nx h → W d) : Ext h (p_cl h d s) W := by
  refine ⟨Nat.le_refl _, Nat.le_refl _, fun _ _ => ⟨rfl, rfl⟩, fun x hx hn => ⟨fun j => ?_, fun _ => rfl⟩⟩
  rw [cl_im]
  by_cases hz : x = d
  · exact absurd (hW (hz ▸ hx)) (hz ▸ hn)
  · rw [if_neg hz]
/-- a copy of the first n of a row of bytes -/
theorem s38 {d v n : Nat} {h : PH} {Q : Nat → PH → Prop} (hk : p_kd h v = 120) (hv : 1000 ≤ v) (hx : v < p_nx h) (hl : n ≤ p_ln h v) (hm : p_ln h v ≤ 1000000) (c1 : p_nx h + 1 ≤ p_CN) (c2 : p_us h + n ≤ p_CS)
    (K : ∀ h1, p_nx h1 = p_nx h + 1 → p_us h1 = p_us h + n → Ext h h1 (fun _ => False) → p_kd h1 (p_nx h) = 120 → p_ln h1 (p_nx h) = n → (∀ i, i < n → p_im h1 (p_nx h) i = p_im h v i) → Q (p_nx h) h1) : CR (d + 3) 38 [.ref v, .int 0, .int (Int32.ofNat n)] h Q := by
  have v0 : ¬ v = 0 := by omega
  have hn : 1000 ≤ p_nx h := by omega
  rw [e38, if_pos rfl]
  refine ⟨⟨by rw [hk]; rfl, v0⟩, ?_⟩
  by_cases he : n = p_ln h v
  · rw [if_pos (by rw [he])]
    refine ⟨⟨⟨hk, hv⟩, c1, by omega⟩, ⟨by rw [cl_kd, pn_kd, if_pos rfl], hn⟩, K _ ?_ ?_ ?_ ?_ ?_ (fun i hi => ?_)⟩
    · rw [cl_nx, pn_nx]
    · rw [cl_us, pn_us, he]
    · exact (Ext.pn (W := fun _ => False) _ _ _).tr (Ext.cl (W := fun a => a = p_nx h) _ (fun _ => rfl)) (fun a ha q => by omega)
    · rw [cl_kd, pn_kd, if_pos rfl]
    · rw [cl_ln, pn_ln, if_pos rfl, he]
    · rw [cl_im, if_pos rfl, pn_im, if_neg (by omega)]
  · rw [if_neg (by rw [i_eq (by omega) (by omega)]; exact he), r38_6, e37, e36, show (0 : Int32) = Int32.ofNat 0 from rfl, if_neg (by rw [i_lt (by omega) (by omega)]; omega), i_sub (Nat.zero_le _), Nat.sub_zero, i_nat (by omega), pn_ln, if_neg (by omega), i_sub (Nat.zero_le _), Nat.sub_zero]
    refine ⟨⟨i_neg (by omega), c1, c2⟩, ⟨by rw [pn_kd, if_neg (by omega), hk]; rfl, v0⟩, ?_⟩
    rw [e21, if_pos (by rw [i_lt (by omega) (by omega)]; omega), i_nat (n := 0) (by omega), i_int (n := 0) (by omega), i_nat (n := n) (by omega), i_int (n := n) (by omega)]
    refine ⟨⟨⟨⟨by rw [pn_kd, if_neg (by omega), hk]; rfl, v0⟩, by rw [pn_kd, if_pos rfl], hn⟩, ⟨by omega, by omega, by omega⟩, ?_, ?_⟩, K _ ?_ ?_ ?_ ?_ ?_ (fun i hi => ?_)⟩
    · rw [pn_ln, if_neg (by omega)]; omega
    · rw [pn_ln, if_pos rfl]; omega
    · rw [cp_nx, pn_nx]
    · rw [cp_us, pn_us]
    · exact (Ext.pn (W := fun _ => False) _ _ _).tr (Ext.cp (W := fun a => a = p_nx h) _ _ _ _ (fun _ => rfl)) (fun a ha q => by omega)
    · rw [cp_kd, pn_kd, if_pos rfl]
    · rw [cp_ln, pn_ln, if_pos rfl]
    · rw [cp_im, if_pos ⟨rfl, by omega, by omega⟩, pn_im, if_neg (by omega)]
      congr 1
      omega
/-- a builder's text -/
theorem s41 {d b v : Nat} {l : List Int32} {h : PH} {Q : Nat → PH → Prop} (S : SB h b v l) (c1 : p_nx h + 2 ≤ p_CN) (c2 : p_us h + 4 + l.length ≤ p_CS)
    (K : ∀ h1, TX h1 (p_nx h) (p_nx h + 1) l → Ext h h1 (fun _ => False) → p_nx h1 = p_nx h + 2 → p_us h1 = p_us h + 4 + l.length → Q (p_nx h) h1) : CR (d + 6) 41 [.ref b] h Q := by
  obtain ⟨s1, s2, s3, s4, s5, s6, s7, s8, s9, s10, s11, s12⟩ := id S
  have b0 : ¬ b = 0 := by omega
  have hn : 1000 ≤ p_nx h := by omega
  have E0 : Ext h (p_new h 14 0 4) (fun _ => False) := Ext.pn 14 0 4
  have S0 := S.ext E0 (fun q => q) (fun q => q)
  have hk0 : p_kd (p_new h 14 0 4) b = 13 := S0.1
  have hkn : p_kd (p_new h 14 0 4) (p_nx h) = 14 := by rw [pn_kd, if_pos rfl]
  rw [e41]
  refine ⟨⟨by omega, by omega⟩, hn, ?_⟩
  rw [e40]
  refine ⟨hn, ?_⟩
  rw [e39]
  refine ⟨hn, ⟨hk0, b0⟩, ?_⟩
  rw [e33]
  refine ⟨⟨hk0, b0⟩, ⟨hk0, b0⟩, s35 S0 ⟨⟨hk0, b0⟩, s29 S0 ?_⟩⟩
  rw [if_neg (by decide)]
  refine ⟨⟨⟨hkn, hn⟩, by decide⟩, ?_⟩
  have E1 : Ext h (p_wi (p_new h 14 0 4) (p_nx h) 1 0) (fun _ => False) := E0.tr (Ext.wi (W := fun a => a = p_nx h) _ (fun _ => rfl)) (fun a ha q => by omega)
  have hv : p_rm (p_new h 14 0 4) b 0 = v := S0.2.2.2.2.2.2.1
  rw [hv]
  refine s38 (by rw [E1.kd s6, s4]) s5 (E1.lt s6) (by rw [E1.ln s6]; exact s10) (by rw [E1.ln s6]; exact s11) (by rw [wi_nx, pn_nx]; omega) (by rw [wi_us, pn_us]; omega) (fun h1 g1 g2 E2 g3 g4 g5 => ?_)
  rw [wi_nx, pn_nx] at *
  rw [wi_us, pn_us] at g2
  have hx : p_nx h < p_nx (p_wi (p_new h 14 0 4) (p_nx h) 1 0) := by rw [wi_nx, pn_nx]; omega
  have hk1 : p_kd h1 (p_nx h) = 14 := by rw [E2.kd hx, wi_kd, hkn]
  have E3 : Ext h (p_wr h1 (p_nx h) 0 (p_nx h + 1)) (fun _ => False) := (E1.tr E2 (fun _ _ q => q)).tr (Ext.wr (W := fun a => a = p_nx h) _ (fun _ => rfl)) (fun a ha q => by omega)
  refine ⟨⟨hk1, hn⟩, K _ ⟨?_, by omega, ?_, ?_, by omega, ?_, ?_, ?_, ?_, by omega, fun i hi => ?_⟩ E3 ?_ ?_⟩
  · rw [wr_kd, hk1]
  · rw [wr_nx, g1]; omega
  · rw [wr_kd, g3]; rfl
  · rw [wr_nx, g1]; omega
  · rw [wr_rm, if_pos ⟨rfl, rfl⟩]
  · rw [wr_im, E2.im hx (fun q => q), wi_im, if_pos ⟨rfl, rfl⟩]
  · rw [wr_ln, g4]
  · rw [wr_im, g5 i hi, E1.im s6 (fun q => q), s12 i hi]
  · rw [wr_nx, g1]
  · rw [wr_us, g2]
