/-! PURE FROM HERE ON: what the methods do to a picture. First: what stays. -/
/-- h2 comes after h; of what stood there, only what W names has been written; kinds and lengths stay -/
def Ext (h h2 : PH) (W : Nat → Prop) : Prop := p_nx h ≤ p_nx h2 ∧ p_us h ≤ p_us h2 ∧ (∀ a, a < p_nx h → p_kd h2 a = p_kd h a ∧ p_ln h2 a = p_ln h a) ∧ ∀ a, a < p_nx h → ¬ W a → (∀ j, p_im h2 a j = p_im h a j) ∧ ∀ j, p_rm h2 a j = p_rm h a j
theorem Ext.rf {h : PH} {W : Nat → Prop} : Ext h h W := ⟨Nat.le_refl _, Nat.le_refl _, fun _ _ => ⟨rfl, rfl⟩, fun _ _ _ => ⟨fun _ => rfl, fun _ => rfl⟩⟩
theorem Ext.tr {h h1 h2 : PH} {W W1 : Nat → Prop} (A : Ext h h1 W) (B : Ext h1 h2 W1) (hw : ∀ a, a < p_nx h → W1 a → W a) : Ext h h2 W := by
  obtain ⟨a1, a2, a3, a4⟩ := A
  obtain ⟨b1, b2, b3, b4⟩ := B
  refine ⟨Nat.le_trans a1 b1, Nat.le_trans a2 b2, fun a ha => ?_, fun a ha hn => ?_⟩
  · have h1 := b3 a (by omega)
    have h2 := a3 a ha
    exact ⟨h1.1.trans h2.1, h1.2.trans h2.2⟩
  · have h1 := b4 a (by omega) (fun q => hn (hw a ha q))
    have h2 := a4 a ha hn
    exact ⟨fun j => (h1.1 j).trans (h2.1 j), fun j => (h1.2 j).trans (h2.2 j)⟩
theorem Ext.up {h h2 : PH} {W W1 : Nat → Prop} (A : Ext h h2 W) (hw : ∀ a, a < p_nx h → W a → W1 a) : Ext h h2 W1 := ⟨A.1, A.2.1, A.2.2.1, fun a ha hn => A.2.2.2 a ha (fun q => hn (hw a ha q))⟩
theorem Ext.kd {h h2 : PH} {W : Nat → Prop} (A : Ext h h2 W) {a : Nat} (ha : a < p_nx h) : p_kd h2 a = p_kd h a := (A.2.2.1 a ha).1
theorem Ext.ln {h h2 : PH} {W : Nat → Prop} (A : Ext h h2 W) {a : Nat} (ha : a < p_nx h) : p_ln h2 a = p_ln h a := (A.2.2.1 a ha).2
theorem Ext.im {h h2 : PH} {W : Nat → Prop} (A : Ext h h2 W) {a : Nat} (ha : a < p_nx h) (hn : ¬ W a) (j : Nat) : p_im h2 a j = p_im h a j := (A.2.2.2 a ha hn).1 j
theorem Ext.rm {h h2 : PH} {W : Nat → Prop} (A : Ext h h2 W) {a : Nat} (ha : a < p_nx h) (hn : ¬ W a) (j : Nat) : p_rm h2 a j = p_rm h a j := (A.2.2.2 a ha hn).2 j
theorem Ext.lt {h h2 : PH} {W : Nat → Prop} (A : Ext h h2 W) {a : Nat} (ha : a < p_nx h) : a < p_nx h2 := Nat.lt_of_lt_of_le ha A.1
section PS
variable {h : PH} {a i : Nat}
theorem wi_nx (v : Int32) : p_nx (p_wi h a i v) = p_nx h := rfl
theorem wi_us (v : Int32) : p_us (p_wi h a i v) = p_us h := rfl
theorem wi_kd (v : Int32) : p_kd (p_wi h a i v) = p_kd h := rfl
theorem wi_ln (v : Int32) : p_ln (p_wi h a i v) = p_ln h := rfl
theorem wi_rm (v : Int32) : p_rm (p_wi h a i v) = p_rm h := rfl
theorem wi_im (v : Int32) (x j : Nat) : p_im (p_wi h a i v) x j = if x = a ∧ j = i then v else p_im h x j := rfl
theorem wr_nx (v : Nat) : p_nx (p_wr h a i v) = p_nx h := rfl
theorem wr_us (v : Nat) : p_us (p_wr h a i v) = p_us h := rfl
theorem wr_kd (v : Nat) : p_kd (p_wr h a i v) = p_kd h := rfl
theorem wr_ln (v : Nat) : p_ln (p_wr h a i v) = p_ln h := rfl
theorem wr_im (v : Nat) : p_im (p_wr h a i v) = p_im h := rfl
theorem wr_rm (v : Nat) (x j : Nat) : p_rm (p_wr h a i v) x j = if x = a ∧ j = i then v else p_rm h x j := rfl
theorem pn_nx (k n u : Nat) : p_nx (p_new h k n u) = p_nx h + 1 := rfl
theorem pn_us (k n u : Nat) : p_us (p_new h k n u) = p_us h + u := rfl
theorem pn_kd (k n u x : Nat) : p_kd (p_new h k n u) x = if x = p_nx h then k else p_kd h x := rfl
theorem pn_ln (k n u x : Nat) : p_ln (p_new h k n u) x = if x = p_nx h then n else p_ln h x := rfl
theorem pn_im (k n u x j : Nat) : p_im (p_new h k n u) x j = if x = p_nx h then 0 else p_im h x j := rfl
theorem pn_rm (k n u x j : Nat) : p_rm (p_new h k n u) x j = if x = p_nx h then 0 else p_rm h x j := rfl
theorem Ext.wi {W : Nat → Prop} (v : Int32) (hW : a < p_nx h → W a) : Ext h (p_wi h a i v) W := by
  refine ⟨Nat.le_refl _, Nat.le_refl _, fun _ _ => ⟨rfl, rfl⟩, fun x hx hn => ⟨fun j => ?_, fun _ => rfl⟩⟩
  rw [wi_im]
  by_cases hz : x = a ∧ j = i
  · exact absurd (hW (hz.1 ▸ hx)) (hz.1 ▸ hn)
  · rw [if_neg hz]
theorem Ext.wr {W : Nat → Prop} (v : Nat) (hW : a < p_nx h → W a) : Ext h (p_wr h a i v) W := by
  refine ⟨Nat.le_refl _, Nat.le_refl _, fun _ _ => ⟨rfl, rfl⟩, fun x hx hn => ⟨fun _ => rfl, fun j => ?_⟩⟩
  rw [wr_rm]
  by_cases hz : x = a ∧ j = i
  · exact absurd (hW (hz.1 ▸ hx)) (hz.1 ▸ hn)
  · rw [if_neg hz]
theorem Ext.pn {W : Nat → Prop} (k n u : Nat) : Ext h (p_new h k n u) W := by
  refine ⟨by show p_nx h ≤ p_nx h + 1; omega, by show p_us h ≤ p_us h + u; omega, fun x hx => ?_, fun x hx _ => ⟨fun j => ?_, fun j => ?_⟩⟩
  · rw [pn_kd, pn_ln, if_neg (by omega), if_neg (by omega)]
    exact ⟨rfl, rfl⟩
  · rw [pn_im, if_neg (by omega)]
  · rw [pn_rm, if_neg (by omega)]
theorem Ext.cp {W : Nat → Prop} (s sp dp n : Nat) (hW : a < p_nx h → W a) : Ext h (p_cp h s sp a dp n) W := by
  refine ⟨Nat.le_refl _, Nat.le_refl _, fun _ _ => ⟨rfl, rfl⟩, fun x hx hn => ⟨fun j => ?_, fun _ => rfl⟩⟩
  show (if x = a ∧ dp ≤ j ∧ j < dp + n then _ else _) = _
  by_cases hz : x = a ∧ dp ≤ j ∧ j < dp + n
  · exact absurd (hW (hz.1 ▸ hx)) (hz.1 ▸ hn)
  · rw [if_neg hz]
end PS
theorem CI_mono {d k : Nat} {as : List Value} {h : PH} {Q Q1 : Int32 → PH → Prop} (hq : ∀ v h1, Q v h1 → Q1 v h1) (H : CI d k as h Q) : CI d k as h Q1 := wpc_mono (fun _ h1 => onI_mono (fun x => hq x h1)) H
theorem CR_mono {d k : Nat} {as : List Value} {h : PH} {Q Q1 : Nat → PH → Prop} (hq : ∀ v h1, Q v h1 → Q1 v h1) (H : CR d k as h Q) : CR d k as h Q1 := wpc_mono (fun _ h1 => onR_mono (fun x => hq x h1)) H
theorem CD_mono {d k : Nat} {as : List Value} {h : PH} {Q Q1 : UInt64 → PH → Prop} (hq : ∀ v h1, Q v h1 → Q1 v h1) (H : CD d k as h Q) : CD d k as h Q1 := wpc_mono (fun _ h1 => onD_mono (fun x => hq x h1)) H
theorem CV_mono {d k : Nat} {as : List Value} {h : PH} {Q Q1 : PH → Prop} (hq : ∀ h1, Q h1 → Q1 h1) (H : CV d k as h Q) : CV d k as h Q1 := wpc_mono (fun _ h1 => onV_mono (hq h1)) H
