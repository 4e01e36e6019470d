/-! The machine's world, seen through a picture: which cells stand for what. -/
/-- where the run's own cells begin; the machine's addresses; what a reference is; classes and places of fields; classes of rows; the constants' picture -/
abbrev GG : Type := Nat × (Nat → Nat) × (Nat → Option Nat) × va_G × (Nat → ClassId) × PH
def g_sz (G : GG) : Nat := G.1
def g_ad (G : GG) : Nat → Nat := G.2.1
def g_op (G : GG) : Nat → Option Nat := G.2.2.1
def g_D (G : GG) : va_G := G.2.2.2.1
def g_A (G : GG) : Nat → ClassId := G.2.2.2.2.1
def g_c (G : GG) : PH := G.2.2.2.2.2
/-- what may be written -/
def g_F (G : GG) : Nat → Prop := fun q => g_sz G ≤ q
def g_rv (G : GG) (x : Nat) : Value := va_rf (g_op G x)
def g_v (G : GG) (v : Value) : Value := match v with
  | .ref x => g_rv G x
  | v => v
def g_e (G : GG) (h : PH) (a j : Nat) : Value := match p_kR (p_kd h a) with
  | true => g_rv G (p_rm h a j)
  | false => .int (p_im h a j)
def g_f (G : GG) (h : PH) (a j : Nat) : Value := g_v G (f_get (z_ft (100 * p_kd h a + j)) h a j)
/-- what stands at a's address -/
def g_at (G : GG) (h : PH) (a : Nat) (H : Heap) : Prop := match Nat.ble 100 (p_kd h a) with
  | false => t_OB (g_ad G a) ((g_D G).1 (p_kd h a - 1)) (z_nf (p_kd h a)) ((g_D G).2 (p_kd h a - 1)) H (g_f G h a)
  | true => H[g_ad G a]? = some (arrV (g_A G (p_kd h a)) (p_ln h a) (g_e G h a))
def g_same (h h1 : PH) (a : Nat) : Prop := p_kd h1 a = p_kd h a ∧ p_ln h1 a = p_ln h a ∧ (∀ j, p_im h1 a j = p_im h a j) ∧ ∀ j, p_rm h1 a j = p_rm h a j
/-- the kinds of what the run makes -/
def k_new (k : Nat) : Bool := (Nat.ble 1 k && Nat.ble k 15) || Nat.beq k 100 || Nat.beq k 120 || Nat.beq k 300 || Nat.beq k 310 || Nat.beq k 312 || Nat.beq k 313 || Nat.beq k 314 || Nat.beq k 315
/-- the heap is as the picture -/
def Rep (G : GG) (h : PH) (H : Heap) : Prop :=
  H.size + 1000 = g_sz G + p_nx h ∧ 1000 ≤ p_nx h ∧ (∀ a, p_nx h ≤ a → p_kd h a = 0) ∧ (∀ a, 1000 ≤ a → a < p_nx h → p_kd h a ≠ 0 → g_at G h a H) ∧
  (∀ a j, p_kB (p_kd h a) = true → j < p_ln h a → fits .byte (.int (p_im h a j)) = true) ∧ (∀ a, a < 1000 → g_same (g_c G) h a) ∧ ∀ a, 1000 ≤ a → p_kd h a ≠ 0 → k_new (p_kd h a) = true
def GOK (G : GG) : Prop := g_op G 0 = none ∧ (∀ x, x ≠ 0 → x ≠ 70 → g_op G x = some (g_ad G x)) ∧ (∀ a, 1000 ≤ a → g_ad G a + 1000 = g_sz G + a) ∧ p_kd (g_c G) 0 = 0 ∧ p_kd (g_c G) 70 = 0 ∧
  (∀ a b, a < 1000 → b < 1000 → p_kd (g_c G) a = 16 → p_kd (g_c G) b = 16 → g_ad G a = g_ad G b → a = b)
/-- the types of the rows that the run makes -/
def z_ety (k : Nat) : Option FieldType := match k with
  | 100 => some .int
  | 120 => some .byte
  | 300 => some .boolean
  | 310 => some (.object "ClauseDesk$Kind")
  | 312 => some (.object "ClauseDesk$Clause")
  | 313 => some (.object "ClauseDeskLaw$Item")
  | 314 => some (.array .int)
  | 315 => some (.array (.object "ClauseDeskLaw$Item"))
  | _ => none
/-- the types of the constants' rows -/
def z_cty (k : Nat) : FieldType := match p_kI k with
  | true => .int
  | false => match p_kB k with
    | true => .byte
    | false => .object "ClauseDesk$Kind"
/-- the words that go another way into a callee -/
def z_nw : List Cond := [.fieldLinkNest "ClauseDesk$Tokens" 112 "ClauseDesk" "KINDS" "[LClauseDesk$Kind;" "ClauseDesk", .castable "[B" "java/lang/Cloneable"]
/-- what is true of every state: the classes, the constants -/
def EnvG (G : GG) (U : State) : Prop :=
  (∀ k, 1 ≤ k → k ≤ 15 → u_Kn U (z_kn k) (z_T k) (z_nf k) ((g_D G).1 (k - 1)) ((g_D G).2 (k - 1))) ∧
  (∀ k t, z_ety k = some t → ArrOfT U (g_A G k) t ∧ va_RA U (g_A G k) t ∧ (t.isReference = true → ∃ (kA : Class) (comp : ClassId), U.vm.classes[g_A G k]? = some kA ∧ kA.kind = .array comp t ∧ (k ≤ 313 → U.vm.findClass (z_kn (p_el k)) = some comp) ∧ (314 ≤ k → comp = g_A G (p_el k)))) ∧
  (∀ w ∈ z_nw, va_Nw w U) ∧ (∀ q ∈ z_lm, q.2.2.2.1 = 2 ∨ q.2.2.2.1 = 4 ∨ q.2.2.2.1 = 6 → ∃ host, va_Nw (.methodLinkNest (z_cn q.1) q.2.1 (z_y q.2.2.1) host) U) ∧
  (∀ q ∈ z_la, va_Nw (.arrayOver (match z_ety q.2.2.1 with | some t => t | none => .int)) U) ∧
  (∀ q ∈ z_lg, va_Z q.2.2.2.1.1 q.2.2.2.1.2.1 q.2.2.2.1.2.2 (g_rv G q.2.2.1) (g_F G) U U.heap) ∧ (∀ q ∈ z_lgi, va_Z q.2.2.2.1.1 q.2.2.2.1.2.1 q.2.2.2.1.2.2 (.int (Int32.ofInt q.2.2.1)) (g_F G) U U.heap) ∧
  (∀ q ∈ z_lgn, va_Z q.2.2.2.1 q.2.2.2.2.1 q.2.2.2.2.2 (g_rv G q.2.2.1) (g_F G) U U.heap) ∧
  (∀ q ∈ z_ls, vk_R (z_cn q.1) q.2.1 q.2.2.2 (g_ad G q.2.2.1) U) ∧
  (∀ a, a < 1000 → p_kd (g_c G) a = 14 ∨ p_kd (g_c G) a = 16 → va_O (z_kn (p_kd (g_c G) a)) (g_ad G a) (g_F G) U U.heap ∧ ∀ j, j < z_nf (p_kd (g_c G) a) → va_OF (z_T (p_kd (g_c G) a) j).1 (z_T (p_kd (g_c G) a) j).2.1 (z_T (p_kd (g_c G) a) j).2.2.1 (g_f G (g_c G) a j) (g_ad G a) (g_F G) U U.heap) ∧
  (∀ a, a < 1000 → p_kd (g_c G) a ≠ 0 → p_kd (g_c G) a = 14 ∨ p_kd (g_c G) a = 16 ∨ 100 ≤ p_kd (g_c G) a) ∧
  (∀ a, a < 1000 → 100 ≤ p_kd (g_c G) a → va_T (z_cty (p_kd (g_c G) a)) (g_ad G a) (p_ln (g_c G) a) (g_e G (g_c G) a) (g_F G) U U.heap) ∧ g_sz G ≤ U.heap.size ∧ ∀ a, a < 1000 → 100 ≤ p_kd (g_c G) a → k_new (p_kd (g_c G) a) = false
/-- the places of a frame -/
def LOC (G : GG) (ls : List Slot) (lsm : Array Slot) (n : Nat) : Prop := lsm.size = n ∧ lv_wf lsm ∧ ls.length ≤ n ∧ ∀ (i : Nat) (v : Value), ls[i]? = some (.val v) → lsm[i]? = some (.val (g_v G v))
theorem g_rv_or (G : GG) (x : Nat) : g_rv G x = .null ∨ ∃ a, g_rv G x = .ref a := va_rf_or _
theorem g_cat (G : GG) (v : Value) : (g_v G v).category = v.category := by
  cases v <;> try rfl
  rename_i x
  show (g_rv G x).category = 1
  rcases g_rv_or G x with h | ⟨a, h⟩ <;> rw [h] <;> rfl
theorem g_csum (G : GG) (st : List Value) : ((st.map (g_v G)).map fun v => v.category).sum = c_sum st := by
  unfold c_sum
  rw [List.map_map]
  congr 1
  exact List.map_congr_left (fun v _ => g_cat G v)
theorem g_rv0 {G : GG} (hG : GOK G) : g_rv G 0 = .null := by unfold g_rv; rw [hG.1]; rfl
theorem g_rvr {G : GG} (hG : GOK G) {x : Nat} (h0 : x ≠ 0) (h1 : x ≠ 70) : g_rv G x = .ref (g_ad G x) := by unfold g_rv; rw [hG.2.1 x h0 h1]; rfl
theorem Rep.enum {G : GG} {h : PH} {H : Heap} (R : Rep G h H) (a : Nat) (ha : p_kd h a = 16) : a < 1000 := by
  rcases Nat.lt_or_ge a 1000 with q | q
  · exact q
  · have := R.2.2.2.2.2.2 a q (by omega)
    rw [ha] at this
    cases this
theorem Rep.k70 {G : GG} {h : PH} {H : Heap} (hG : GOK G) (R : Rep G h H) {x : Nat} (hk : p_kd h x ≠ 0) : x ≠ 0 ∧ x ≠ 70 := by
  refine ⟨fun e => ?_, fun e => ?_⟩
  · subst e; exact hk ((R.2.2.2.2.2.1 0 (by omega)).1.trans hG.2.2.2.1)
  · subst e; exact hk ((R.2.2.2.2.2.1 70 (by omega)).1.trans hG.2.2.2.2.1)
theorem Rep.rv {G : GG} {h : PH} {H : Heap} (hG : GOK G) (R : Rep G h H) {x : Nat} (hk : p_kd h x ≠ 0) : g_rv G x = .ref (g_ad G x) := g_rvr hG (R.k70 hG hk).1 (R.k70 hG hk).2
theorem Rep.lt {G : GG} {h : PH} {H : Heap} (R : Rep G h H) {x : Nat} (hk : p_kd h x ≠ 0) : x < p_nx h := by
  rcases Nat.lt_or_ge x (p_nx h) with q | q
  · exact q
  · exact absurd (R.2.2.1 x q) hk
theorem Rep.cell {G : GG} {h : PH} {H : Heap} (R : Rep G h H) {x : Nat} (hk : p_kd h x ≠ 0) (hx : 1000 ≤ x) : g_at G h x H := R.2.2.2.1 x hx (R.lt hk) hk
theorem LOC.keep {G : GG} {ls : List Slot} {lsm : Array Slot} {n : Nat} (L : LOC G ls lsm n) (m : List Bool) : LOC G (l_keep m ls) lsm n := by
  have h : ∀ (m : List Bool) (ls : List Slot), (l_keep m ls).length ≤ ls.length ∧ ∀ (i : Nat) (v : Value), (l_keep m ls)[i]? = some (.val v) → ls[i]? = some (.val v) := by
    intro m
    induction m with
    | nil => intro ls; exact ⟨Nat.zero_le _, fun i v h => by simp [l_keep] at h⟩
    | cons b m ih =>
      intro ls
      cases ls with
      | nil => cases b <;> exact ⟨Nat.zero_le _, fun i v h => by simp [l_keep] at h⟩
      | cons x ls =>
        obtain ⟨h1, h2⟩ := ih ls
        cases b
        · refine ⟨by simp [l_keep]; exact h1, fun i v h => ?_⟩
          cases i with
          | zero => simp [l_keep] at h
          | succ i => simp [l_keep] at h ⊢; exact h2 i v h
        · refine ⟨by simp [l_keep]; exact h1, fun i v h => ?_⟩
          cases i with
          | zero => simp [l_keep] at h ⊢; exact h
          | succ i => simp [l_keep] at h ⊢; exact h2 i v h
  exact ⟨L.1, L.2.1, Nat.le_trans (h m ls).1 L.2.2.1, fun i v q => L.2.2.2 i v ((h m ls).2 i v q)⟩
theorem LOC.kl {G : GG} {ls : List Slot} {lsm : Array Slot} {n : Nat} (L : LOC G ls lsm n) (k pc : Nat) : LOC G (l_kl k pc ls) lsm n := by
  unfold l_kl
  generalize z_lv k = t
  induction t with
  | nil => exact L
  | cons q r ih =>
    obtain ⟨a, m⟩ := q
    simp only [l_look]
    cases Nat.beq a pc
    · exact ih
    · exact L.keep m
