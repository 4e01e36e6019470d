/-! The instructions that touch neither the heap nor other methods. -/
theorem Cx {G : GG} {k d : Nat} {p : Program} {R : Room} {s : State} {m : MethodId} {args : Array Value} {meth : Method} {c : Code} {h0 : PH} (C : KC G k d p R s m args meth c h0) : k < 190 := C.2.2.2.2.2.2.2.2.2.2
section S2
variable {G : GG} {l : Launch} {k pc : Nat} {ls : List Slot} {r : List Value} {h : PH}
theorem S_iadd {x y : Int32} (hi : (z_code k)[pc]? = some .iadd)  : STEP G l k pc ls (.int y :: .int x :: r) h (pc + 1) ls (.int (x + y) :: r) h := by
  intro d p e R s m args below meth c H locs lsm h0 Z C hR hS hL n0 u0 nc uc kk
  obtain ⟨d1, d2⟩ := at1 (Cx C) hi rfl (fun _ _ => rel1)
  have K := kk H locs lsm hR hS hL
  rw [d2] at K
  exact lv_iadd C.1 C.2.1 d1 K
theorem S_isub {x y : Int32} (hi : (z_code k)[pc]? = some .isub)  : STEP G l k pc ls (.int y :: .int x :: r) h (pc + 1) ls (.int (x - y) :: r) h := by
  intro d p e R s m args below meth c H locs lsm h0 Z C hR hS hL n0 u0 nc uc kk
  obtain ⟨d1, d2⟩ := at1 (Cx C) hi rfl (fun _ _ => rel1)
  have K := kk H locs lsm hR hS hL
  rw [d2] at K
  exact lv_isub C.1 C.2.1 d1 K
theorem S_imul {x y : Int32} (hi : (z_code k)[pc]? = some .imul)  : STEP G l k pc ls (.int y :: .int x :: r) h (pc + 1) ls (.int (x * y) :: r) h := by
  intro d p e R s m args below meth c H locs lsm h0 Z C hR hS hL n0 u0 nc uc kk
  obtain ⟨d1, d2⟩ := at1 (Cx C) hi rfl (fun _ _ => rel1)
  have K := kk H locs lsm hR hS hL
  rw [d2] at K
  exact lv_imul C.1 C.2.1 d1 K
theorem S_iand {x y : Int32} (hi : (z_code k)[pc]? = some .iand)  : STEP G l k pc ls (.int y :: .int x :: r) h (pc + 1) ls (.int (x &&& y) :: r) h := by
  intro d p e R s m args below meth c H locs lsm h0 Z C hR hS hL n0 u0 nc uc kk
  obtain ⟨d1, d2⟩ := at1 (Cx C) hi rfl (fun _ _ => rel1)
  have K := kk H locs lsm hR hS hL
  rw [d2] at K
  exact lv_iand C.1 C.2.1 d1 K
theorem S_ior {x y : Int32} (hi : (z_code k)[pc]? = some .ior)  : STEP G l k pc ls (.int y :: .int x :: r) h (pc + 1) ls (.int (x ||| y) :: r) h := by
  intro d p e R s m args below meth c H locs lsm h0 Z C hR hS hL n0 u0 nc uc kk
  obtain ⟨d1, d2⟩ := at1 (Cx C) hi rfl (fun _ _ => rel1)
  have K := kk H locs lsm hR hS hL
  rw [d2] at K
  exact lv_ior C.1 C.2.1 d1 K
theorem S_ixor {x y : Int32} (hi : (z_code k)[pc]? = some .ixor)  : STEP G l k pc ls (.int y :: .int x :: r) h (pc + 1) ls (.int (x ^^^ y) :: r) h := by
  intro d p e R s m args below meth c H locs lsm h0 Z C hR hS hL n0 u0 nc uc kk
  obtain ⟨d1, d2⟩ := at1 (Cx C) hi rfl (fun _ _ => rel1)
  have K := kk H locs lsm hR hS hL
  rw [d2] at K
  exact lv_ixor C.1 C.2.1 d1 K
theorem S_ishl {x y : Int32} (hi : (z_code k)[pc]? = some .ishl)  : STEP G l k pc ls (.int y :: .int x :: r) h (pc + 1) ls (.int (x <<< (y &&& 31)) :: r) h := by
  intro d p e R s m args below meth c H locs lsm h0 Z C hR hS hL n0 u0 nc uc kk
  obtain ⟨d1, d2⟩ := at1 (Cx C) hi rfl (fun _ _ => rel1)
  have K := kk H locs lsm hR hS hL
  rw [d2] at K
  exact lv_ishl C.1 C.2.1 d1 K
theorem S_ishr {x y : Int32} (hi : (z_code k)[pc]? = some .ishr)  : STEP G l k pc ls (.int y :: .int x :: r) h (pc + 1) ls (.int (x >>> (y &&& 31)) :: r) h := by
  intro d p e R s m args below meth c H locs lsm h0 Z C hR hS hL n0 u0 nc uc kk
  obtain ⟨d1, d2⟩ := at1 (Cx C) hi rfl (fun _ _ => rel1)
  have K := kk H locs lsm hR hS hL
  rw [d2] at K
  exact lv_ishr C.1 C.2.1 d1 K
theorem S_iushr {x y : Int32} (hi : (z_code k)[pc]? = some .iushr)  : STEP G l k pc ls (.int y :: .int x :: r) h (pc + 1) ls (.int ((x.toUInt32 >>> (y.toUInt32 &&& Int32.toUInt32 31)).toInt32) :: r) h := by
  intro d p e R s m args below meth c H locs lsm h0 Z C hR hS hL n0 u0 nc uc kk
  obtain ⟨d1, d2⟩ := at1 (Cx C) hi rfl (fun _ _ => rel1)
  have K := kk H locs lsm hR hS hL
  rw [d2] at K
  exact lv_iushr C.1 C.2.1 d1 rfl K
theorem S_idiv {x y : Int32} (hi : (z_code k)[pc]? = some .idiv) (hne : ¬ y = 0) : STEP G l k pc ls (.int y :: .int x :: r) h (pc + 1) ls (.int (x / y) :: r) h := by
  intro d p e R s m args below meth c H locs lsm h0 Z C hR hS hL n0 u0 nc uc kk
  obtain ⟨d1, d2⟩ := at1 (Cx C) hi rfl (fun _ _ => rel1)
  have K := kk H locs lsm hR hS hL
  rw [d2] at K
  exact lv_idiv C.1 C.2.1 d1 hne K
theorem S_irem {x y : Int32} (hi : (z_code k)[pc]? = some .irem) (hne : ¬ y = 0) : STEP G l k pc ls (.int y :: .int x :: r) h (pc + 1) ls (.int (x - x / y * y) :: r) h := by
  intro d p e R s m args below meth c H locs lsm h0 Z C hR hS hL n0 u0 nc uc kk
  obtain ⟨d1, d2⟩ := at1 (Cx C) hi rfl (fun _ _ => rel1)
  have K := kk H locs lsm hR hS hL
  rw [d2] at K
  exact lv_irem C.1 C.2.1 d1 hne K
theorem S_ineg {x : Int32} (hi : (z_code k)[pc]? = some .ineg)  : STEP G l k pc ls (.int x :: r) h (pc + 1) ls (.int (-x) :: r) h := by
  intro d p e R s m args below meth c H locs lsm h0 Z C hR hS hL n0 u0 nc uc kk
  obtain ⟨d1, d2⟩ := at1 (Cx C) hi rfl (fun _ _ => rel1)
  have K := kk H locs lsm hR hS hL
  rw [d2] at K
  exact lv_ineg C.1 C.2.1 d1 K
theorem S_i2b {x : Int32} (hi : (z_code k)[pc]? = some .i2b)  : STEP G l k pc ls (.int x :: r) h (pc + 1) ls (.int x.toInt8.toInt32 :: r) h := by
  intro d p e R s m args below meth c H locs lsm h0 Z C hR hS hL n0 u0 nc uc kk
  obtain ⟨d1, d2⟩ := at1 (Cx C) hi rfl (fun _ _ => rel1)
  have K := kk H locs lsm hR hS hL
  rw [d2] at K
  exact lv_i2b C.1 C.2.1 d1 rfl K
theorem S_i2c {x : Int32} (hi : (z_code k)[pc]? = some .i2c)  : STEP G l k pc ls (.int x :: r) h (pc + 1) ls (.int (x.toUInt32 % 65536).toInt32 :: r) h := by
  intro d p e R s m args below meth c H locs lsm h0 Z C hR hS hL n0 u0 nc uc kk
  obtain ⟨d1, d2⟩ := at1 (Cx C) hi rfl (fun _ _ => rel1)
  have K := kk H locs lsm hR hS hL
  rw [d2] at K
  exact lv_i2c C.1 C.2.1 d1 rfl K
theorem S_i2l {x : Int32} (hi : (z_code k)[pc]? = some .i2l)  : STEP G l k pc ls (.int x :: r) h (pc + 1) ls (.long x.toInt64 :: r) h := by
  intro d p e R s m args below meth c H locs lsm h0 Z C hR hS hL n0 u0 nc uc kk
  obtain ⟨d1, d2⟩ := at1 (Cx C) hi rfl (fun _ _ => rel1)
  have K := kk H locs lsm hR hS hL
  rw [d2] at K
  exact lv_i2l C.1 C.2.1 d1 rfl K
theorem S_i2d {x : Int32} (hi : (z_code k)[pc]? = some .i2d)  : STEP G l k pc ls (.int x :: r) h (pc + 1) ls (.double (FP.i2d x) :: r) h := by
  intro d p e R s m args below meth c H locs lsm h0 Z C hR hS hL n0 u0 nc uc kk
  obtain ⟨d1, d2⟩ := at1 (Cx C) hi rfl (fun _ _ => rel1)
  have K := kk H locs lsm hR hS hL
  rw [d2] at K
  exact lv_i2d C.1 C.2.1 d1 K
theorem S_l2i {x : Int64} (hi : (z_code k)[pc]? = some .l2i)  : STEP G l k pc ls (.long x :: r) h (pc + 1) ls (.int x.toInt32 :: r) h := by
  intro d p e R s m args below meth c H locs lsm h0 Z C hR hS hL n0 u0 nc uc kk
  obtain ⟨d1, d2⟩ := at1 (Cx C) hi rfl (fun _ _ => rel1)
  have K := kk H locs lsm hR hS hL
  rw [d2] at K
  exact lv_l2i C.1 C.2.1 d1 rfl K
theorem S_lneg {x : Int64} (hi : (z_code k)[pc]? = some .lneg)  : STEP G l k pc ls (.long x :: r) h (pc + 1) ls (.long (-x) :: r) h := by
  intro d p e R s m args below meth c H locs lsm h0 Z C hR hS hL n0 u0 nc uc kk
  obtain ⟨d1, d2⟩ := at1 (Cx C) hi rfl (fun _ _ => rel1)
  have K := kk H locs lsm hR hS hL
  rw [d2] at K
  exact lv_lneg C.1 C.2.1 d1 K
theorem S_ladd {x y : Int64} (hi : (z_code k)[pc]? = some .ladd)  : STEP G l k pc ls (.long y :: .long x :: r) h (pc + 1) ls (.long (x + y) :: r) h := by
  intro d p e R s m args below meth c H locs lsm h0 Z C hR hS hL n0 u0 nc uc kk
  obtain ⟨d1, d2⟩ := at1 (Cx C) hi rfl (fun _ _ => rel1)
  have K := kk H locs lsm hR hS hL
  rw [d2] at K
  exact lv_ladd C.1 C.2.1 d1 K
theorem S_ldiv {x y : Int64} (hi : (z_code k)[pc]? = some .ldiv) (hne : ¬ y = 0) : STEP G l k pc ls (.long y :: .long x :: r) h (pc + 1) ls (.long (x / y) :: r) h := by
  intro d p e R s m args below meth c H locs lsm h0 Z C hR hS hL n0 u0 nc uc kk
  obtain ⟨d1, d2⟩ := at1 (Cx C) hi rfl (fun _ _ => rel1)
  have K := kk H locs lsm hR hS hL
  rw [d2] at K
  exact lv_ldiv C.1 C.2.1 d1 hne K
theorem S_lrem {x y : Int64} (hi : (z_code k)[pc]? = some .lrem) (hne : ¬ y = 0) : STEP G l k pc ls (.long y :: .long x :: r) h (pc + 1) ls (.long (x - x / y * y) :: r) h := by
  intro d p e R s m args below meth c H locs lsm h0 Z C hR hS hL n0 u0 nc uc kk
  obtain ⟨d1, d2⟩ := at1 (Cx C) hi rfl (fun _ _ => rel1)
  have K := kk H locs lsm hR hS hL
  rw [d2] at K
  exact lv_lrem C.1 C.2.1 d1 hne K
theorem S_lcmp {x y : Int64} (hi : (z_code k)[pc]? = some .lcmp)  : STEP G l k pc ls (.long y :: .long x :: r) h (pc + 1) ls (.int (lg_cmp x y) :: r) h := by
  intro d p e R s m args below meth c H locs lsm h0 Z C hR hS hL n0 u0 nc uc kk
  obtain ⟨d1, d2⟩ := at1 (Cx C) hi rfl (fun _ _ => rel1)
  have K := kk H locs lsm hR hS hL
  rw [d2] at K
  exact W.lcmp C.1 C.2.1 d1 K
theorem S_ddiv {x y : UInt64} (hi : (z_code k)[pc]? = some .ddiv) (hne : vf_n64 (FP.ddiv x y)) : STEP G l k pc ls (.double y :: .double x :: r) h (pc + 1) ls (.double (FP.ddiv x y) :: r) h := by
  intro d p e R s m args below meth c H locs lsm h0 Z C hR hS hL n0 u0 nc uc kk
  obtain ⟨d1, d2⟩ := at1 (Cx C) hi rfl (fun _ _ => rel1)
  have K := kk H locs lsm hR hS hL
  rw [d2] at K
  exact lv_ddiv C.1 C.2.1 d1 hne K
theorem S_dcmp {x y : UInt64} {op : Jvm.ClassFile.CmpOp} (hi : (z_code k)[pc]? = some (.dcmp op))  : STEP G l k pc ls (.double y :: .double x :: r) h (pc + 1) ls (.int (Op.cmpValue (FP.dcmp x y) op) :: r) h := by
  intro d p e R s m args below meth c H locs lsm h0 Z C hR hS hL n0 u0 nc uc kk
  obtain ⟨d1, d2⟩ := at1 (Cx C) hi rfl (fun _ _ => rel1)
  have K := kk H locs lsm hR hS hL
  rw [d2] at K
  exact lv_dcmp C.1 C.2.1 d1 K
theorem S_dup {v : Value} (hi : (z_code k)[pc]? = some .dup) (hv : v.category = 1) : STEP G l k pc ls (v :: r) h (pc + 1) ls (v :: v :: r) h := by
  intro d p e R s m args below meth c H locs lsm h0 Z C hR hS hL n0 u0 nc uc kk
  obtain ⟨d1, d2⟩ := at1 (Cx C) hi rfl (fun _ _ => rel1)
  have K := kk H locs lsm hR hS hL
  rw [d2] at K
  exact lv_dup C.1 C.2.1 d1 ((g_cat G v).trans hv) K
theorem S_pop {v : Value} (hi : (z_code k)[pc]? = some .pop) (hv : v.category = 1) : STEP G l k pc ls (v :: r) h (pc + 1) ls (r) h := by
  intro d p e R s m args below meth c H locs lsm h0 Z C hR hS hL n0 u0 nc uc kk
  obtain ⟨d1, d2⟩ := at1 (Cx C) hi rfl (fun _ _ => rel1)
  have K := kk H locs lsm hR hS hL
  rw [d2] at K
  exact lv_pop C.1 C.2.1 d1 ((g_cat G v).trans hv) K
theorem S_dup_x1 {v w : Value} (hi : (z_code k)[pc]? = some .dup_x1) (hv : v.category = 1) (hw : w.category = 1) : STEP G l k pc ls (v :: w :: r) h (pc + 1) ls (v :: w :: v :: r) h := by
  intro d p e R s m args below meth c H locs lsm h0 Z C hR hS hL n0 u0 nc uc kk
  obtain ⟨d1, d2⟩ := at1 (Cx C) hi rfl (fun _ _ => rel1)
  have K := kk H locs lsm hR hS hL
  rw [d2] at K
  exact lv_dup_x1 C.1 C.2.1 d1 ((g_cat G v).trans hv) ((g_cat G w).trans hw) K
theorem S_dup2 {v w : Value} (hi : (z_code k)[pc]? = some .dup2) (hv : v.category = 1) (hw : w.category = 1) : STEP G l k pc ls (v :: w :: r) h (pc + 1) ls (v :: w :: v :: w :: r) h := by
  intro d p e R s m args below meth c H locs lsm h0 Z C hR hS hL n0 u0 nc uc kk
  obtain ⟨d1, d2⟩ := at1 (Cx C) hi rfl (fun _ _ => rel1)
  have K := kk H locs lsm hR hS hL
  rw [d2] at K
  exact lv_dup2_11 C.1 C.2.1 d1 ((g_cat G v).trans hv) ((g_cat G w).trans hw) K
theorem S_null (hG : GOK G) (hi : (z_code k)[pc]? = some .aconst_null) : STEP G l k pc ls r h (pc + 1) ls (.ref 0 :: r) h := by
  intro d p e R s m args below meth c H locs lsm h0 Z C hR hS hL n0 u0 nc uc kk
  obtain ⟨d1, d2⟩ := at1 (Cx C) hi rfl (fun _ _ => rel1)
  have K := kk H locs lsm hR hS hL
  rw [d2] at K
  rw [List.map_cons, show g_v G (.ref 0) = .null from g_rv0 hG] at K
  exact lv_null C.1 C.2.1 d1 K
theorem ld_iload {j len : Nat} {i : Instr} (h : e_ld (.iload j) i len = true) : (i = .iload j ∧ len = 2) ∨ ∃ f : Fin 4, i = .iload_n f ∧ (f : Nat) = j ∧ len = 1 := by
  cases i <;> first
    | exact absurd h (by intro h; cases h)
    | (have h := Bool.and_eq_true_iff.mp h; exact Or.inl ⟨by rw [Nat.eq_of_beq_eq_true h.1], Nat.eq_of_beq_eq_true h.2⟩)
    | (have h := Bool.and_eq_true_iff.mp h; exact Or.inr ⟨_, rfl, Nat.eq_of_beq_eq_true h.1, Nat.eq_of_beq_eq_true h.2⟩)
theorem ld_istore {j len : Nat} {i : Instr} (h : e_ld (.istore j) i len = true) : (i = .istore j ∧ len = 2) ∨ ∃ f : Fin 4, i = .istore_n f ∧ (f : Nat) = j ∧ len = 1 := by
  cases i <;> first
    | exact absurd h (by intro h; cases h)
    | (have h := Bool.and_eq_true_iff.mp h; exact Or.inl ⟨by rw [Nat.eq_of_beq_eq_true h.1], Nat.eq_of_beq_eq_true h.2⟩)
    | (have h := Bool.and_eq_true_iff.mp h; exact Or.inr ⟨_, rfl, Nat.eq_of_beq_eq_true h.1, Nat.eq_of_beq_eq_true h.2⟩)
theorem ld_lload {j len : Nat} {i : Instr} (h : e_ld (.lload j) i len = true) : (i = .lload j ∧ len = 2) ∨ ∃ f : Fin 4, i = .lload_n f ∧ (f : Nat) = j ∧ len = 1 := by
  cases i <;> first
    | exact absurd h (by intro h; cases h)
    | (have h := Bool.and_eq_true_iff.mp h; exact Or.inl ⟨by rw [Nat.eq_of_beq_eq_true h.1], Nat.eq_of_beq_eq_true h.2⟩)
    | (have h := Bool.and_eq_true_iff.mp h; exact Or.inr ⟨_, rfl, Nat.eq_of_beq_eq_true h.1, Nat.eq_of_beq_eq_true h.2⟩)
theorem ld_lstore {j len : Nat} {i : Instr} (h : e_ld (.lstore j) i len = true) : (i = .lstore j ∧ len = 2) ∨ ∃ f : Fin 4, i = .lstore_n f ∧ (f : Nat) = j ∧ len = 1 := by
  cases i <;> first
    | exact absurd h (by intro h; cases h)
    | (have h := Bool.and_eq_true_iff.mp h; exact Or.inl ⟨by rw [Nat.eq_of_beq_eq_true h.1], Nat.eq_of_beq_eq_true h.2⟩)
    | (have h := Bool.and_eq_true_iff.mp h; exact Or.inr ⟨_, rfl, Nat.eq_of_beq_eq_true h.1, Nat.eq_of_beq_eq_true h.2⟩)
theorem ld_aload {j len : Nat} {i : Instr} (h : e_ld (.aload j) i len = true) : (i = .aload j ∧ len = 2) ∨ ∃ f : Fin 4, i = .aload_n f ∧ (f : Nat) = j ∧ len = 1 := by
  cases i <;> first
    | exact absurd h (by intro h; cases h)
    | (have h := Bool.and_eq_true_iff.mp h; exact Or.inl ⟨by rw [Nat.eq_of_beq_eq_true h.1], Nat.eq_of_beq_eq_true h.2⟩)
    | (have h := Bool.and_eq_true_iff.mp h; exact Or.inr ⟨_, rfl, Nat.eq_of_beq_eq_true h.1, Nat.eq_of_beq_eq_true h.2⟩)
theorem ld_astore {j len : Nat} {i : Instr} (h : e_ld (.astore j) i len = true) : (i = .astore j ∧ len = 2) ∨ ∃ f : Fin 4, i = .astore_n f ∧ (f : Nat) = j ∧ len = 1 := by
  cases i <;> first
    | exact absurd h (by intro h; cases h)
    | (have h := Bool.and_eq_true_iff.mp h; exact Or.inl ⟨by rw [Nat.eq_of_beq_eq_true h.1], Nat.eq_of_beq_eq_true h.2⟩)
    | (have h := Bool.and_eq_true_iff.mp h; exact Or.inr ⟨_, rfl, Nat.eq_of_beq_eq_true h.1, Nat.eq_of_beq_eq_true h.2⟩)
theorem S_iload {x : Int32} {j : Nat} (hi : (z_code k)[pc]? = some (.iload j)) (hl : ls[j]? = some (.val (.int x))) : STEP G l k pc ls r h (pc + 1) ls (.int x :: r) h := by
  intro d p e R s m args below meth c H locs lsm h0 Z C hR hS hL n0 u0 nc uc kk
  obtain ⟨q, len, d1, d2, d3⟩ := at_pc (Cx C) hi
  have d3 := d3.resolve_left (by intro h; cases h)
  have K := kk H locs lsm hR hS hL
  have L := hL.2.2.2 j _ hl
  rcases ld_iload (j := j) d2 with ⟨rfl, rfl⟩ | ⟨f, rfl, hf, rfl⟩
  · rw [d3] at K
    exact lv_iload C.1 C.2.1 d1 L K
  · rw [d3] at K
    exact lv_iload_n C.1 C.2.1 d1 hf L K
theorem S_lload {x : Int64} {j : Nat} (hi : (z_code k)[pc]? = some (.lload j)) (hl : ls[j]? = some (.val (.long x))) : STEP G l k pc ls r h (pc + 1) ls (.long x :: r) h := by
  intro d p e R s m args below meth c H locs lsm h0 Z C hR hS hL n0 u0 nc uc kk
  obtain ⟨q, len, d1, d2, d3⟩ := at_pc (Cx C) hi
  have d3 := d3.resolve_left (by intro h; cases h)
  have K := kk H locs lsm hR hS hL
  have L := hL.2.2.2 j _ hl
  rcases ld_lload (j := j) d2 with ⟨rfl, rfl⟩ | ⟨f, rfl, hf, rfl⟩
  · rw [d3] at K
    exact lv_lload C.1 C.2.1 d1 L K
  · rw [d3] at K
    exact lv_lload_n C.1 C.2.1 d1 hf L K
theorem S_aload {x : Nat} {j : Nat} (hi : (z_code k)[pc]? = some (.aload j)) (hl : ls[j]? = some (.val (.ref x))) : STEP G l k pc ls r h (pc + 1) ls (.ref x :: r) h := by
  intro d p e R s m args below meth c H locs lsm h0 Z C hR hS hL n0 u0 nc uc kk
  obtain ⟨q, len, d1, d2, d3⟩ := at_pc (Cx C) hi
  have d3 := d3.resolve_left (by intro h; cases h)
  have K := kk H locs lsm hR hS hL
  have L := hL.2.2.2 j _ hl
  rw [List.map_cons] at K
  rw [show g_v G (.ref x) = g_rv G x from rfl] at K L
  rcases ld_aload (j := j) d2 with ⟨rfl, rfl⟩ | ⟨f, rfl, hf, rfl⟩
  · rw [d3] at K
    rcases g_rv_or G x with q | ⟨a, q⟩
    · rw [q] at K L; exact lv_aloadN C.1 C.2.1 d1 L K
    · rw [q] at K L; exact lv_aload C.1 C.2.1 d1 L K
  · rw [d3] at K
    rcases g_rv_or G x with q | ⟨a, q⟩
    · rw [q] at K L; exact lv_aload_nN C.1 C.2.1 d1 hf L K
    · rw [q] at K L; exact lv_aload_n C.1 C.2.1 d1 hf L K
def lvl (G : GG) (ls : List Slot) : List (Nat × Value) := (List.range ls.length).filterMap (fun i : Nat => match ls[i]? with
  | some (.val v) => some (i, g_v G v)
  | _ => none)
theorem lvl_in {ls : List Slot} {i : Nat} {v : Value} (h : ls[i]? = some (.val v)) : (i, g_v G v) ∈ lvl G ls := by
  refine List.mem_filterMap.mpr ⟨i, List.mem_range.mpr (List.getElem?_eq_some_iff.mp h).1, ?_⟩
  rw [h]
theorem LOC.has {lsm : Array Slot} {n : Nat} (L : LOC G ls lsm n) : lv_has lsm n (lvl G ls) := by
  refine ⟨L.1, L.2.1, fun q hq => ?_⟩
  obtain ⟨i, -, hi⟩ := List.mem_filterMap.mp hq
  split at hi
  next v hv => cases hi; exact L.2.2.2 i v hv
  next => cases hi
theorem LOC.set1 {lsm : Array Slot} {n j : Nat} {v : Value} (hl : ls.length ≤ n) (hj : j < ls.length) (h1 : l_1 ls j = true) (L : lv_has lsm n ((j, g_v G v) :: (lvl G ls).filter (fun q => !(q.1 == j) && !(q.1 + 1 == j && q.2.category == 2)))) : LOC G (l_s1 ls j v) lsm n := by
  refine ⟨L.1, L.2.1, by simpa [l_s1] using hl, fun i w hw => ?_⟩
  unfold l_s1 at hw
  by_cases hij : i = j
  · subst hij
    rw [List.getElem?_set_self hj] at hw
    cases hw
    exact L.2.2 _ List.mem_cons_self
  · rw [List.getElem?_set_ne (Ne.symm hij)] at hw
    refine L.2.2 (i, g_v G w) (List.mem_cons_of_mem _ (List.mem_filter.mpr ⟨lvl_in hw, ?_⟩))
    have hc : ¬ (i + 1 = j ∧ (g_v G w).category = 2) := by
      rintro ⟨rfl, hc⟩
      rw [g_cat] at hc
      simp only [l_1, hw] at h1
      cases w <;> simp_all [Value.category]
    simp only [Bool.and_eq_true, Bool.not_eq_true', beq_eq_false_iff_ne, Bool.and_eq_false_iff]
    refine ⟨hij, ?_⟩
    by_cases z : i + 1 = j
    · exact Or.inr (fun z2 => hc ⟨z, z2⟩)
    · exact Or.inl z
theorem LOC.set2 {lsm : Array Slot} {n j : Nat} {v : Value} (hl : ls.length ≤ n) (hj : j + 1 < ls.length) (h1 : l_1 ls j = true) (L : lv_has lsm n ((j, g_v G v) :: (lvl G ls).filter (fun q => !(q.1 == j) && (!(q.1 == j + 1) && !(q.1 + 1 == j && q.2.category == 2))))) : LOC G (l_s2 ls j v) lsm n := by
  refine ⟨L.1, L.2.1, by simpa [l_s2] using hl, fun i w hw => ?_⟩
  unfold l_s2 at hw
  by_cases hij : i = j + 1
  · subst hij
    rw [List.getElem?_set_self (by simpa using hj)] at hw
    cases hw
  rw [List.getElem?_set_ne (Ne.symm hij)] at hw
  by_cases hij2 : i = j
  · subst hij2
    rw [List.getElem?_set_self (by omega)] at hw
    cases hw
    exact L.2.2 _ List.mem_cons_self
  · rw [List.getElem?_set_ne (Ne.symm hij2)] at hw
    refine L.2.2 (i, g_v G w) (List.mem_cons_of_mem _ (List.mem_filter.mpr ⟨lvl_in hw, ?_⟩))
    have hc : ¬ (i + 1 = j ∧ (g_v G w).category = 2) := by
      rintro ⟨rfl, hc⟩
      rw [g_cat] at hc
      simp only [l_1, hw] at h1
      cases w <;> simp_all [Value.category]
    simp only [Bool.and_eq_true, Bool.not_eq_true', beq_eq_false_iff_ne, Bool.and_eq_false_iff]
    refine ⟨hij2, hij, ?_⟩
    by_cases z : i + 1 = j
    · exact Or.inr (fun z2 => hc ⟨z, z2⟩)
    · exact Or.inl z
theorem S_istore {x : Int32} {j : Nat} (hi : (z_code k)[pc]? = some (.istore j)) (hj : j < ls.length) (h1 : l_1 ls j = true) : STEP G l k pc ls (.int x :: r) h (pc + 1) (l_s1 ls j (.int x)) r h := by
  intro d p e R s m args below meth c H locs lsm h0 Z C hR hS hL n0 u0 nc uc kk
  obtain ⟨q, len, d1, d2, d3⟩ := at_pc (Cx C) hi
  have d3 := d3.resolve_left (by intro h; cases h)
  rcases ld_istore (j := j) d2 with ⟨rfl, rfl⟩ | ⟨f, rfl, hf, rfl⟩
  · refine lv_istore C.1 C.2.1 d1 hL.has (Nat.lt_of_lt_of_le hj hL.2.2.1) rfl (fun lsm1 h2 => ?_)
    have K := kk H locs lsm1 hR hS (LOC.set1 (v := .int x) hL.2.2.1 hj h1 h2)
    rw [d3] at K
    exact K
  · refine lv_istore_n C.1 C.2.1 d1 hf hL.has (Nat.lt_of_lt_of_le hj hL.2.2.1) rfl (fun lsm1 h2 => ?_)
    have K := kk H locs lsm1 hR hS (LOC.set1 (v := .int x) hL.2.2.1 hj h1 h2)
    rw [d3] at K
    exact K
theorem S_lstore {x : Int64} {j : Nat} (hi : (z_code k)[pc]? = some (.lstore j)) (hj : j + 1 < ls.length) (h1 : l_1 ls j = true) : STEP G l k pc ls (.long x :: r) h (pc + 1) (l_s2 ls j (.long x)) r h := by
  intro d p e R s m args below meth c H locs lsm h0 Z C hR hS hL n0 u0 nc uc kk
  obtain ⟨q, len, d1, d2, d3⟩ := at_pc (Cx C) hi
  have d3 := d3.resolve_left (by intro h; cases h)
  rcases ld_lstore (j := j) d2 with ⟨rfl, rfl⟩ | ⟨f, rfl, hf, rfl⟩
  · refine lv_lstore C.1 C.2.1 d1 hL.has (Nat.lt_of_lt_of_le hj hL.2.2.1) rfl (fun lsm1 h2 => ?_)
    have K := kk H locs lsm1 hR hS (LOC.set2 (v := .long x) hL.2.2.1 hj h1 h2)
    rw [d3] at K
    exact K
  · refine lv_lstore_n C.1 C.2.1 d1 hf hL.has (Nat.lt_of_lt_of_le hj hL.2.2.1) rfl (fun lsm1 h2 => ?_)
    have K := kk H locs lsm1 hR hS (LOC.set2 (v := .long x) hL.2.2.1 hj h1 h2)
    rw [d3] at K
    exact K
theorem S_astore {x : Nat} {j : Nat} (hi : (z_code k)[pc]? = some (.astore j)) (hj : j < ls.length) (h1 : l_1 ls j = true) : STEP G l k pc ls (.ref x :: r) h (pc + 1) (l_s1 ls j (.ref x)) r h := by
  intro d p e R s m args below meth c H locs lsm h0 Z C hR hS hL n0 u0 nc uc kk
  obtain ⟨q, len, d1, d2, d3⟩ := at_pc (Cx C) hi
  have d3 := d3.resolve_left (by intro h; cases h)
  have hs : ∀ lsm1, lv_has lsm1 (z_ml k) ((j, g_v G (.ref x)) :: (lvl G ls).filter (fun q => !(q.1 == j) && !(q.1 + 1 == j && q.2.category == 2))) → W p l e R s m args below meth c H locs (p_nx h - p_nx h0) (p_us h - p_us h0) Z (F0 m (n_pc (z_raw k) pc + len) lsm1 (r.map (g_v G))) := by
    intro lsm1 h2
    have K := kk H locs lsm1 hR hS (LOC.set1 (v := .ref x) hL.2.2.1 hj h1 h2)
    rw [d3] at K
    exact K
  rw [List.map_cons]
  rw [show g_v G (.ref x) = g_rv G x from rfl] at hs ⊢
  rcases ld_astore (j := j) d2 with ⟨rfl, rfl⟩ | ⟨f, rfl, hf, rfl⟩
  · rcases g_rv_or G x with q | ⟨a, q⟩
    · rw [q] at hs ⊢; exact lv_astoreN C.1 C.2.1 d1 hL.has (Nat.lt_of_lt_of_le hj hL.2.2.1) rfl hs
    · rw [q] at hs ⊢; exact lv_astore C.1 C.2.1 d1 hL.has (Nat.lt_of_lt_of_le hj hL.2.2.1) rfl hs
  · rcases g_rv_or G x with q | ⟨a, q⟩
    · rw [q] at hs ⊢; exact lv_astore_nN C.1 C.2.1 d1 hf hL.has (Nat.lt_of_lt_of_le hj hL.2.2.1) rfl hs
    · rw [q] at hs ⊢; exact lv_astore_n C.1 C.2.1 d1 hf hL.has (Nat.lt_of_lt_of_le hj hL.2.2.1) rfl hs
theorem S_iinc {x : Int32} {j : Nat} {n : Int} (hi : (z_code k)[pc]? = some (.iinc j n)) (hl : ls[j]? = some (.val (.int x))) (h1 : l_1 ls j = true) : STEP G l k pc ls r h (pc + 1) (l_s1 ls j (.int (x + Int32.ofInt n))) r h := by
  intro d p e R s m args below meth c H locs lsm h0 Z C hR hS hL n0 u0 nc uc kk
  obtain ⟨q, len, d1, d2, d3⟩ := at_pc (Cx C) hi
  have d4 := d3.resolve_left (by intro h; cases h)
  have hj : j < ls.length := (List.getElem?_eq_some_iff.mp hl).1
  cases q <;> first
    | exact absurd d2 (by intro h; cases h)
    | skip
  rename_i j2 n2
  simp only [e_rel, Bool.and_eq_true, decide_eq_true_eq] at d2
  obtain ⟨⟨e1, rfl⟩, e3⟩ := d2
  have e1 := Nat.eq_of_beq_eq_true e1
  have e3 := Nat.eq_of_beq_eq_true e3
  subst e1; subst e3
  obtain ⟨kx, hk⟩ := List.getElem?_of_mem (lvl_in (G := G) hl)
  refine lv_iinc C.1 C.2.1 d1 hL.has hk rfl (Nat.lt_of_lt_of_le hj hL.2.2.1) rfl (fun lsm1 h2 => ?_)
  have K := kk H locs lsm1 hR hS (LOC.set1 (v := .int (x + Int32.ofInt n2)) hL.2.2.1 hj h1 h2)
  rw [d4] at K
  exact K
end S2
