/-- the constants are as at the start -/
def CO (L : Nat) (xs : Nat → Int32) (h : PH) : Prop := 1000 ≤ p_nx h ∧ ∀ a, a < 1000 → p_kd h a = c_kd a ∧ p_ln h a = c_ln L a ∧ (∀ j, p_im h a j = c_im xs a j) ∧ ∀ j, p_rm h a j = c_rm a j
theorem CO.start (L : Nat) (xs : Nat → Int32) : CO L xs (c_w L xs) := ⟨Nat.le_refl _, fun _ _ => ⟨rfl, rfl, fun _ => rfl, fun _ => rfl⟩⟩
theorem CO.ext {L : Nat} {xs : Nat → Int32} {h h1 : PH} {W : Nat → Prop} (C : CO L xs h) (E : Ext h h1 W) (hw : ∀ a, a < 1000 → ¬ W a) : CO L xs h1 := by
  obtain ⟨c1, c2⟩ := C
  refine ⟨Nat.le_trans c1 E.1, fun a ha => ?_⟩
  obtain ⟨g1, g2, g3, g4⟩ := c2 a ha
  have hx : a < p_nx h := Nat.lt_of_lt_of_le ha c1
  exact ⟨by rw [E.kd hx, g1], by rw [E.ln hx, g2], fun j => by rw [E.im hx (hw a ha), g3], fun j => by rw [E.rm hx (hw a ha), g4]⟩
set_option maxRecDepth 100000 in
theorem c_tx : ∀ j, j < 58 → c_kd (100 + j) = 14 ∧ p_kB (c_kd (200 + j)) = true ∧ c_sl j ≤ 1000000 := by decide +kernel
theorem TX.const {L : Nat} {xs : Nat → Int32} {h : PH} (C : CO L xs h) {j : Nat} (hj : j < 58) : TX h (100 + j) (200 + j) (c_sb.getD j []) := by
  obtain ⟨c1, c2⟩ := C
  obtain ⟨g1, g2, g3, g4⟩ := c2 (100 + j) (by omega)
  obtain ⟨k1, k2, k3, k4⟩ := c2 (200 + j) (by omega)
  obtain ⟨z1, z2, z3⟩ := c_tx j hj
  exact ⟨by rw [g1, z1], by omega, by omega, by rw [k1, z2], by omega, by omega, by rw [g4, c_rm_s], by rw [g3, c_im_s hj], by rw [k2, c_ln_v]; rfl, z3, fun i _ => by rw [k3, c_im_v]⟩
/-- a name: a sign and a letter -/
theorem s42 {d c k L : Nat} {xs : Nat → Int32} {h : PH} {Q : Nat → PH → Prop} (C : CO L xs h) (hc : c < 128) (hk : k < 26) (c1 : p_nx h + 7 ≤ p_CN) (c2 : p_us h + 80 ≤ p_CS)
    (K : ∀ h1 a v, TX h1 a v [Int32.ofNat c, Int32.ofNat (97 + k)] → Ext h h1 (fun _ => False) → p_nx h1 ≤ p_nx h + 7 → p_us h1 ≤ p_us h + 26 → p_nx h ≤ a → p_nx h ≤ v → Q a h1) : CR (d + 7) 42 [.int (Int32.ofNat c), .int (Int32.ofNat k)] h Q := by
  have hn := C.1
  rw [e42]
  refine ⟨⟨by omega, by omega⟩, hn, s12 (by omega) (by omega) hn (fun h1 S1 g1 E1 g2 g3 => ⟨⟨S1.1, by omega⟩, ?_⟩)⟩
  have T0 : TX h1 101 201 [] := TX.const (C.ext E1 (fun _ _ q => q)) (j := 1) (by decide)
  refine s28 S1 T0 (by omega) (by decide) (by omega) (by simp only [List.length_nil]; omega) (fun h2 v2 S2 b1 E2 b2 b3 b4 => ⟨⟨S2.1, by omega⟩, ?_⟩)
  have S2 : SB h2 (p_nx h) v2 [] := S2
  rw [g1] at b1 b3
  simp only [List.length_nil] at b1
  refine s32 S2 hc (by decide) (by omega) (by simp only [List.length_nil]; omega) (fun h3 v3 S3 d1 E3 d2 d3 d4 => ⟨⟨S3.1, by omega⟩, ?_⟩)
  have S3 : SB h3 (p_nx h) v3 [Int32.ofNat c] := S3
  simp only [List.length_nil] at d1
  rw [show (97 : Int32) = Int32.ofNat 97 from rfl, i_add, (c8 (97 + k) (by omega)).2.2]
  refine s32 S3 (by omega) (by simp only [List.length_cons, List.length_nil]; omega) (by omega) (by simp only [List.length_cons, List.length_nil]; omega) (fun h4 v4 S4 f1 E4 f2 f3 f4 => ⟨⟨S4.1, by omega⟩, ?_⟩)
  have S4 : SB h4 (p_nx h) v4 [Int32.ofNat c, Int32.ofNat (97 + k)] := S4
  simp only [List.length_nil, List.length_cons] at f1
  refine s41 S4 (by omega) (by simp only [List.length_nil, List.length_cons]; omega) (fun h5 T5 E5 m1 m2 => ?_)
  simp only [List.length_nil, List.length_cons] at m2
  have q1 := E1.1
  have q2 := E2.1
  have q3 := E3.1
  have q4 := E4.1
  refine K h5 _ _ T5 ?_ (by omega) (by omega) (by omega) (by omega)
  exact (((E1.tr E2 (fun a ha q => by rcases q with e | e <;> omega)).tr E3 (fun a ha q => by rcases q with e | e <;> omega)).tr E4 (fun a ha q => by rcases q with e | e <;> omega)).tr E5 (fun a ha q => q)
