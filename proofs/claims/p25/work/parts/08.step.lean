/-! A step of the picture is a step of the machine. -/
/-- a frame of method k, at depth d, entered with the picture h0 -/
def KC (G : GG) (k d : Nat) (p : Program) (R : Room) (s : State) (m : MethodId) (args : Array Value) (meth : Method) (c : Code) (h0 : PH) : Prop :=
  p.tables.exec = Jvm.exec ∧ c.code = z_b k ∧ meth.locks = false ∧ c.maxLocals = z_ml k ∧ s.vm.findClass (z_cn (z_ow k)) = some m.cls ∧ (∀ w ∈ w_g, w.before args s = true) ∧ EnvG G s ∧ (z_ini k = true → meth.name = "<init>") ∧ d + 1 ≤ R.frames ∧ 60 * (d + 1) ≤ R.locals ∧ k < 190
/-- from the next place the machine goes on to Z: then from this one too -/
def STEP (G : GG) (l : Launch) (k pc : Nat) (ls : List Slot) (st : List Value) (h : PH) (pc1 : Nat) (ls1 : List Slot) (st1 : List Value) (h1 : PH) : Prop :=
  ∀ (d : Nat) (p : Program) (e : Env) (R : Room) (s : State) (m : MethodId) (args : Array Value) (below : List Frame) (meth : Method) (c : Code) (H : Heap) (locs : List Loc) (lsm : Array Slot) (h0 : PH) (Z : State → Prop),
    KC G k d p R s m args meth c h0 → Rep G h H → va_S (g_F G) s.heap H locs → LOC G ls lsm (z_ml k) → p_nx h0 ≤ p_nx h → p_us h0 ≤ p_us h → p_nx h1 - p_nx h0 ≤ R.cells → p_us h1 - p_us h0 ≤ R.slots →
    (∀ (H1 : Heap) (locs1 : List Loc) (lsm1 : Array Slot), Rep G h1 H1 → va_S (g_F G) s.heap H1 locs1 → LOC G ls1 lsm1 (z_ml k) → W p l e R s m args below meth c H1 locs1 (p_nx h1 - p_nx h0) (p_us h1 - p_us h0) Z (F0 m (n_pc (z_raw k) pc1) lsm1 (st1.map (g_v G)))) →
    W p l e R s m args below meth c H locs (p_nx h - p_nx h0) (p_us h - p_us h0) Z (F0 m (n_pc (z_raw k) pc) lsm (st.map (g_v G)))
def retI (v : Option Value) : Instr := match v with
  | none => .return_
  | some (.int _) => .ireturn
  | some (.ref _) => .areturn
  | _ => .dreturn
/-- the run from here, at the machine -/
def MOK (G : GG) (l : Launch) : Wp := fun d k pc ls st h Q => ∃ (v : Option Value) (h2 : PH), Q v h2 ∧ p_nx h ≤ p_nx h2 ∧ p_us h ≤ p_us h2 ∧
  ∀ (p : Program) (e : Env) (R : Room) (s : State) (m : MethodId) (args : Array Value) (below : List Frame) (meth : Method) (c : Code) (H : Heap) (locs : List Loc) (lsm : Array Slot) (h0 : PH) (Z : State → Prop),
    KC G k d p R s m args meth c h0 → Rep G h H → va_S (g_F G) s.heap H locs → LOC G ls lsm (z_ml k) → p_nx h0 ≤ p_nx h → p_us h0 ≤ p_us h → p_nx h2 - p_nx h0 ≤ R.cells → p_us h2 - p_us h0 ≤ R.slots →
    (∀ (H1 : Heap) (locs1 : List Loc) (lsm1 : Array Slot) (pc1 : Nat), Rep G h2 H1 → va_S (g_F G) s.heap H1 locs1 → r_ok (z_nr k) v True → decode (z_b k) pc1 = .ok (retI v, 1) → W p l e R s m args below meth c H1 locs1 (p_nx h2 - p_nx h0) (p_us h2 - p_us h0) Z (F0 m pc1 lsm1 (v.toList.map (g_v G)))) →
    W p l e R s m args below meth c H locs (p_nx h - p_nx h0) (p_us h - p_us h0) Z (F0 m (n_pc (z_raw k) pc) lsm (st.map (g_v G)))
theorem MOK.step {G : GG} {l : Launch} {d k pc : Nat} {ls : List Slot} {st : List Value} {h : PH} {pc1 : Nat} {ls1 : List Slot} {st1 : List Value} {h1 : PH} {Q : Option Value → PH → Prop}
    (K : MOK G l d k pc1 (l_kl k pc1 ls1) st1 h1 Q) (S : STEP G l k pc ls st h pc1 ls1 st1 h1) (hn : p_nx h ≤ p_nx h1) (hu : p_us h ≤ p_us h1) : MOK G l d k pc ls st h Q := by
  obtain ⟨v, h2, hQ, n2, u2, K⟩ := K
  refine ⟨v, h2, hQ, Nat.le_trans hn n2, Nat.le_trans hu u2, ?_⟩
  intro p e R s m args below meth c H locs lsm h0 Z C hR hS hL n0 u0 nc uc hret
  exact S d p e R s m args below meth c H locs lsm h0 Z C hR hS hL n0 u0 (by omega) (by omega) (fun H1 locs1 lsm1 hR1 hS1 hL1 => K p e R s m args below meth c H1 locs1 lsm1 h0 Z C hR1 hS1 (hL1.kl k pc1) (by omega) (by omega) nc uc hret)
/-- what the code shows at a place -/
theorem at_pc {k pc : Nat} {i : Instr} (hk : k < 190) (hi : (z_code k)[pc]? = some i) : ∃ (r : Instr) (len : Nat), decode (z_b k) (n_pc (z_raw k) pc) = .ok (r, len) ∧ e_rel (z_ow k) (z_raw k) (n_pc (z_raw k) pc) len r i = true ∧ (e_end i = true ∨ n_pc (z_raw k) (pc + 1) = n_pc (z_raw k) pc + len) := by
  have hlt : pc < (z_code k).length := (List.getElem?_eq_some_iff.mp hi).1
  have h1 := e_m_all k hk
  simp only [e_m, Bool.and_eq_true] at h1
  obtain ⟨h1, h2⟩ := h1
  have h3 := List.all_eq_true.mp h2 pc (List.mem_range.mpr hlt)
  unfold e_at at h3
  rw [hi] at h3
  cases hq : (z_raw k)[pc]? with
  | none => rw [hq] at h3; cases h3
  | some q =>
    obtain ⟨q1, q2, q3⟩ := q
    rw [hq] at h3
    simp only [Bool.and_eq_true, Bool.or_eq_true] at h3
    have hp : n_pc (z_raw k) pc = q1 := by unfold n_pc; rw [List.getD_eq_getElem?_getD, hq]; rfl
    have h4 := List.all_eq_true.mp (e_d_all k hk) _ (List.mem_of_getElem? hq)
    refine ⟨q2, q3, ?_, ?_, ?_⟩
    · rw [hp]; exact of_decide_eq_true h4
    · rw [hp]; exact h3.1
    · rcases h3.2 with h5 | h5
      · exact Or.inl h5
      · right; rw [hp]; exact Nat.eq_of_beq_eq_true h5
theorem code_at {k pc : Nat} {i : Instr} (h : (z_code k).getD pc .athrow = i) (hi : i ≠ .athrow) : (z_code k)[pc]? = some i := by
  rw [List.getD_eq_getElem?_getD] at h
  cases hq : (z_code k)[pc]? with
  | none => rw [hq] at h; exact absurd h.symm hi
  | some j => rw [hq] at h; rw [← h]; rfl
/-- a plain instruction of one byte -/
theorem at1 {k pc : Nat} {i : Instr} (hk : k < 190) (hi : (z_code k)[pc]? = some i) (he : e_end i = false) (hr : ∀ r len, e_rel (z_ow k) (z_raw k) (n_pc (z_raw k) pc) len r i = true → r = i ∧ len = 1) : decode (z_b k) (n_pc (z_raw k) pc) = .ok (i, 1) ∧ n_pc (z_raw k) (pc + 1) = n_pc (z_raw k) pc + 1 := by
  obtain ⟨r, len, h1, h2, h3⟩ := at_pc hk hi
  obtain ⟨rfl, rfl⟩ := hr r len h2
  exact ⟨h1, h3.resolve_left (by rw [he]; decide)⟩
theorem rel1 {i r : Instr} {len : Nat} (h : (decide (i = r) && Nat.beq len 1) = true) : r = i ∧ len = 1 := by
  simp only [Bool.and_eq_true, decide_eq_true_eq] at h
  exact ⟨h.1.symm, Nat.eq_of_beq_eq_true h.2⟩
theorem t_II_inv {st : List Value} {f : Int32 → Int32 → List Value → Prop} (h : t_II st f) : ∃ x y r, st = .int y :: .int x :: r ∧ f x y r := by
  unfold t_II at h
  split at h
  · exact ⟨_, _, _, rfl, h⟩
  · exact h.elim
theorem t_I_inv {st : List Value} {f : Int32 → List Value → Prop} (h : t_I st f) : ∃ x r, st = .int x :: r ∧ f x r := by
  unfold t_I at h
  split at h
  · exact ⟨_, _, rfl, h⟩
  · exact h.elim
theorem t_L_inv {st : List Value} {f : Int64 → List Value → Prop} (h : t_L st f) : ∃ x r, st = .long x :: r ∧ f x r := by
  unfold t_L at h
  split at h
  · exact ⟨_, _, rfl, h⟩
  · exact h.elim
theorem t_LL_inv {st : List Value} {f : Int64 → Int64 → List Value → Prop} (h : t_LL st f) : ∃ x y r, st = .long y :: .long x :: r ∧ f x y r := by
  unfold t_LL at h
  split at h
  · exact ⟨_, _, _, rfl, h⟩
  · exact h.elim
theorem t_D_inv {st : List Value} {f : UInt64 → List Value → Prop} (h : t_D st f) : ∃ x r, st = .double x :: r ∧ f x r := by
  unfold t_D at h
  split at h
  · exact ⟨_, _, rfl, h⟩
  · exact h.elim
theorem t_DD_inv {st : List Value} {f : UInt64 → UInt64 → List Value → Prop} (h : t_DD st f) : ∃ x y r, st = .double y :: .double x :: r ∧ f x y r := by
  unfold t_DD at h
  split at h
  · exact ⟨_, _, _, rfl, h⟩
  · exact h.elim
theorem t_R_inv {st : List Value} {f : Nat → List Value → Prop} (h : t_R st f) : ∃ x r, st = .ref x :: r ∧ f x r := by
  unfold t_R at h
  split at h
  · exact ⟨_, _, rfl, h⟩
  · exact h.elim
theorem t_RR_inv {st : List Value} {f : Nat → Nat → List Value → Prop} (h : t_RR st f) : ∃ x y r, st = .ref y :: .ref x :: r ∧ f x y r := by
  unfold t_RR at h
  split at h
  · exact ⟨_, _, _, rfl, h⟩
  · exact h.elim
theorem t_RI_inv {st : List Value} {f : Nat → Int32 → List Value → Prop} (h : t_RI st f) : ∃ a j r, st = .int j :: .ref a :: r ∧ f a j r := by
  unfold t_RI at h
  split at h
  · exact ⟨_, _, _, rfl, h⟩
  · exact h.elim
theorem t_RII_inv {st : List Value} {f : Nat → Int32 → Int32 → List Value → Prop} (h : t_RII st f) : ∃ a j v r, st = .int v :: .int j :: .ref a :: r ∧ f a j v r := by
  unfold t_RII at h
  split at h
  · exact ⟨_, _, _, _, rfl, h⟩
  · exact h.elim
theorem t_RIR_inv {st : List Value} {f : Nat → Int32 → Nat → List Value → Prop} (h : t_RIR st f) : ∃ a j v r, st = .ref v :: .int j :: .ref a :: r ∧ f a j v r := by
  unfold t_RIR at h
  split at h
  · exact ⟨_, _, _, _, rfl, h⟩
  · exact h.elim
theorem t_V1_inv {st : List Value} {f : Value → List Value → Prop} (h : t_V1 st f) : ∃ v r, st = v :: r ∧ v.category = 1 ∧ f v r := by
  unfold t_V1 at h
  split at h
  · exact ⟨_, _, rfl, rfl, h⟩
  · exact ⟨_, _, rfl, rfl, h⟩
  · exact h.elim
theorem l_ok_inv {b : Bool} {P : Prop} (h : l_ok b P) : b = true ∧ P := by cases b; exact h.elim; exact ⟨rfl, h⟩
