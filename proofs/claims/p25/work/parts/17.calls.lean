/-! Calls: from the run of the one that is called, its contract; from that, the caller goes on. -/
def e_shape (ret : Option FieldType) (v : Option Value) : Prop := match v with
  | none => ret = none
  | some (.int x) => ∃ t, ret = some t ∧ narrow t (.int x) = .int x
  | some (.ref _) => ∃ t, ret = some t ∧ ((∃ n, t = .object n) ∨ ∃ u, t = .array u)
  | some (.double _) => ret = some .double
  | _ => False
def z_ws (k : Nat) : List Cond := Cond.code (z_y k) (z_b k) (z_ml k) (z_ret k) :: w_g
def ow_chk (k : Nat) : Bool := decide (z_cn (z_ow k) = (z_y k).cls) && plainFor (z_y k) && (!z_ini k || decide ((z_y k).name = "<init>")) && decide ((z_y k).cls ≠ "java/lang/invoke/MethodHandle") && decide ((z_y k).cls ≠ "java/lang/invoke/VarHandle") && Nat.ble (z_ml k) 30 && Nat.ble (z_na k) (z_ml k)
set_option maxRecDepth 100000 in
theorem ow_all : (List.range 190).all ow_chk = true := by decide +kernel
theorem ow_at {k : Nat} (hk : k < 190) : z_cn (z_ow k) = (z_y k).cls ∧ plainFor (z_y k) = true ∧ (z_ini k = true → (z_y k).name = "<init>") ∧ ((z_y k).cls ≠ "java/lang/invoke/MethodHandle" ∧ (z_y k).cls ≠ "java/lang/invoke/VarHandle") ∧ z_ml k ≤ 30 ∧ z_na k ≤ z_ml k := by
  have h := List.all_eq_true.mp ow_all k (List.mem_range.mpr hk)
  simp only [ow_chk, Bool.and_eq_true, Bool.or_eq_true, decide_eq_true_eq, Bool.not_eq_true'] at h
  obtain ⟨⟨⟨⟨⟨⟨h1, h2⟩, h3⟩, h4⟩, h5⟩, h6⟩, h7⟩ := h
  exact ⟨h1, h2, fun q => h3.resolve_left (by rw [q]; decide), ⟨h4, h5⟩, Nat.le_of_ble_eq_true h6, Nat.le_of_ble_eq_true h7⟩
theorem EnvG.to {G : GG} {s U : State} (E : EnvG G s) (hW : s.WarmedH U.vm) (hz : g_sz G ≤ U.heap.size) (hq : ∀ a : Nat, a < s.heap.size → ¬ g_F G a → U.heap[a]? = s.heap[a]?) : EnvG G U := by
  have hA := hW.alike
  obtain ⟨E1, E2, E3, E4, E5, E6, E7, E8, E9, E10, E11, E12, E13, E14⟩ := E
  refine ⟨fun k h1 h2 => u_Kn_moved hA (E1 k h1 h2), fun k t ht => ?_, fun w hw => ?_, fun q hq1 hq2 => ?_, fun q hq1 => ?_, fun q hq1 => ((E6 q hq1).moved hA).kept hq, fun q hq1 => ((E7 q hq1).moved hA).kept hq, fun q hq1 => ((E8 q hq1).moved hA).kept hq, fun q hq1 => (E9 q hq1).warm hW, fun a h1 h2 => ?_, E11, fun a h1 h2 => ((E12 a h1 h2).moved hA).kept hq, hz, E14⟩
  · obtain ⟨h1, h2, h3⟩ := E2 k t ht
    refine ⟨arrOfT_moved hA h1, h2.moved hA, fun hr => ?_⟩
    obtain ⟨kA, comp, g1, g2, g3, g4⟩ := h3 hr
    obtain ⟨k', hk', he⟩ := hA.2.2 _ _ g1
    exact ⟨k', comp, hk', by rw [he]; exact g2, fun z => by rw [hA.findClass]; exact g3 z, g4⟩
  · have h := E3 w hw
    simp only [z_nw, List.mem_cons, List.not_mem_nil, or_false] at hw
    rcases hw with rfl | rfl
    · exact va_Nw.warmF hW h
    · exact va_Nw.warmC hW h
  · obtain ⟨host, h⟩ := E4 q hq1 hq2
    exact ⟨host, va_Nw.warmM hW h⟩
  · have h := E5 q hq1
    have h2 := List.all_eq_true.mp la_all q hq1
    simp only [la_chk, Bool.and_eq_true] at h2
    have h2 := h2.2
    cases hz1 : z_ety q.2.2.1 with
    | none => rw [hz1] at h2; cases h2
    | some t =>
      rw [hz1] at h2 h
      cases t <;> first
        | exact absurd (show false = true from h2) Bool.false_ne_true
        | skip
      · exact va_AO.moved hA h
      · exact over_moved hA h
  · obtain ⟨h3, h4⟩ := E10 a h1 h2
    exact ⟨(h3.moved hA).kept hq, fun j hj => ((h4 j hj).moved hA).kept hq⟩
def PcK (G : GG) (a : List Value) (h : PH) : Array Value → State → Prop := va_Pc (a.map (g_v G)) (fun U => Rep G h U.heap ∧ EnvG G U)
def QcK (G : GG) (v : Option Value) (h : PH) : Array Value → State → Outcome → State → Prop := fun _ st o t => o = .returned (v.map (g_v G)) ∧ Rep G h t.heap ∧ va_F (g_F G) st t
theorem PcK.blind {G : GG} {a : List Value} {h : PH} : FrameBlind (PcK G a h) := by
  intro av U g mk q
  obtain ⟨q1, q2, q3⟩ := q
  exact ⟨q1, q2, q3.to (U := U.calling g mk av) (State.WarmedH.refl U) q3.2.2.2.2.2.2.2.2.2.2.2.2.1 (fun _ _ _ => rfl)⟩
/-- what MOK says of the machine, for one result -/
def MRun (G : GG) (l : Launch) (d k pc : Nat) (ls : List Slot) (st : List Value) (h : PH) (v : Option Value) (h2 : PH) : Prop :=
  ∀ (p : Program) (e : Env) (R : Room) (s : State) (m : MethodId) (args : Array Value) (below : List Frame) (meth : Method) (c : Code) (H : Heap) (locs : List Loc) (lsm : Array Slot) (h0 : PH) (Z : State → Prop),
    KC G k d p R s m args meth c h0 → Rep G h H → va_S (g_F G) s.heap H locs → LOC G ls lsm (z_ml k) → p_nx h0 ≤ p_nx h → p_us h0 ≤ p_us h → p_nx h2 - p_nx h0 ≤ R.cells → p_us h2 - p_us h0 ≤ R.slots →
    (∀ (H1 : Heap) (locs1 : List Loc) (lsm1 : Array Slot) (pc1 : Nat), Rep G h2 H1 → va_S (g_F G) s.heap H1 locs1 → e_shape (z_ret k) v → decode (z_b k) pc1 = .ok (retI v, 1) → W p l e R s m args below meth c H1 locs1 (p_nx h2 - p_nx h0) (p_us h2 - p_us h0) Z (F0 m pc1 lsm1 (v.toList.map (g_v G)))) →
    W p l e R s m args below meth c H locs (p_nx h - p_nx h0) (p_us h - p_us h0) Z (F0 m (n_pc (z_raw k) pc) lsm (st.map (g_v G)))
theorem lg_sl_len (G : GG) (a : List Value) (hc : ∀ v ∈ a, v.category = 1) : lv_args 0 (a.map (g_v G)) = lv_args 0 (a.map (g_v G)) := rfl
theorem LOC.ent {G : GG} {a : List Value} {n : Nat} (hn : a.length ≤ n) (hc : ∀ v ∈ a, v.category = 1) : LOC G (l_ent n a) ((lg_sl (a.map (g_v G)) ++ List.replicate (n - (lg_sl (a.map (g_v G))).length) Slot.unset).toArray) n := by
  have hsl : ∀ (b : List Value), (∀ v ∈ b, v.category = 1) → lg_sl (b.map (g_v G)) = b.map (fun v => Slot.val (g_v G v)) := by
    intro b
    induction b with
    | nil => intro _; rfl
    | cons v b ih =>
      intro hb
      have h1 : (g_v G v).category = 1 := (g_cat G v).trans (hb v List.mem_cons_self)
      have h2 := ih (fun w hw => hb w (List.mem_cons_of_mem _ hw))
      rw [List.map_cons, List.map_cons, ← h2]
      cases hv : g_v G v <;> first
        | rfl
        | (rw [hv] at h1; cases h1)
  have hargs : ∀ (b : List Value) (i : Nat), (∀ v ∈ b, v.category = 1) → ∀ (j : Nat) (v : Value), b[j]? = some v → (i + j, g_v G v) ∈ lv_args i (b.map (g_v G)) := by
    intro b
    induction b with
    | nil => intro i _ j v hj; simp at hj
    | cons w b ih =>
      intro i hb j v hj
      have h1 : (g_v G w).category = 1 := (g_cat G w).trans (hb w List.mem_cons_self)
      have h2 : ¬ (g_v G w).category = 2 := by rw [h1]; decide
      rw [List.map_cons]
      unfold lv_args
      rw [if_neg h2]
      cases j with
      | zero =>
        simp at hj
        subst hj
        exact List.mem_cons_self
      | succ j =>
        simp at hj
        have := ih (i + 1) (fun w hw => hb w (List.mem_cons_of_mem _ hw)) j v hj
        rw [show i + 1 + j = i + (j + 1) by omega] at this
        exact List.mem_cons_of_mem _ this
  have hlen : (lg_sl (a.map (g_v G))).length = a.length := by rw [hsl a hc]; simp
  have h := lv_entry (a.map (g_v G)) (n := n) (by rw [hlen]; exact hn)
  refine ⟨h.1, h.2.1, by simp [l_ent]; omega, fun i v hv => ?_⟩
  have hi : a[i]? = some v := by
    unfold l_ent at hv
    rcases Nat.lt_or_ge i a.length with q | q
    · rw [List.getElem?_append_left (by simpa using q), List.getElem?_map] at hv
      cases hz : a[i]? with
      | none => rw [hz] at hv; cases hv
      | some w => rw [hz] at hv; cases hv; rfl
    · rw [List.getElem?_append_right (by simpa using q)] at hv
      have := (List.mem_replicate.mp (List.mem_of_getElem? hv)).2
      cases this
  have := h.2.2 _ (hargs a 0 hc i v hi)
  rwa [Nat.zero_add] at this
/-- the contract of the one that is called -/
theorem met_of {G : GG} {l : Launch} {d k : Nat} {a : List Value} {h h2 : PH} {v : Option Value} (hk : k < 190) (hn : a.length ≤ z_ml k) (hc : ∀ v ∈ a, v.category = 1) (K : MRun G l d k 0 (l_ent (z_ml k) a) [] h v h2) (h00 : n_pc (z_raw k) 0 = 0) :
    Met l (z_y k) (z_ws k) ({ frames := d + 1, cells := p_nx h2 - p_nx h, slots := p_us h2 - p_us h, locals := 60 * (d + 1) }) (PcK G a h) (QcK G v h2) (p_nx h2 - p_nx h) (p_us h2 - p_us h) (g_F G) := by
  obtain ⟨o1, o2, o3, o4, o5, o6⟩ := ow_at hk
  refine va_MetF (cc := z_b k) (maxL := z_ml k) (ret := z_ret k) o2 rfl ?_
  intro p e s m args below meth c s₁ B hml hv
  obtain ⟨rfl, hR, hE⟩ := hv
  have hws := atoms_spec (ws := z_ws k) B.pre
  have hlocks := B.notSynchronized
  have hl := LOC.ent (G := G) hn hc
  rw [lg_entry_eq]
  have K1 := K p e (headSpec (z_ws k) ({ frames := d + 1, cells := p_nx h2 - p_nx h, slots := p_us h2 - p_us h, locals := 60 * (d + 1) })).room s m (a.map (g_v G)).toArray below meth c s.heap [] _ h (MQ below (QcK G v h2) (a.map (g_v G)).toArray s (p_nx h2 - p_nx h) (p_us h2 - p_us h) (g_F G))
    ⟨B.exec, B.bytes, hlocks, hml, by rw [o1]; exact findClass_of_methodNamed B.named, fun w hw => hws w (List.mem_cons_of_mem _ hw), hE, fun q => (name_of_methodNamed B.named B.method).1.trans (o3 q), Nat.le_refl _, Nat.le_refl _, hk⟩ hR va_S.rf hl (Nat.le_refl _) (Nat.le_refl _) (Nat.le_refl _) (Nat.le_refl _) ?_
  · rw [h00, Nat.sub_self, Nat.sub_self] at K1
    exact K1
  · intro H1 locs1 lsm1 pc1 hR1 hS1 hsh hdg
    have hq : ∀ t : State, t.heap = H1 → s.WarmedH t.vm → QcK G v h2 (a.map (g_v G)).toArray s (.returned (v.map (g_v G))) t := fun t ht _ => ⟨rfl, by rw [ht]; exact hR1, hS1.F ht⟩
    have hr := B.returns
    cases v with
    | none => exact W.vret B.exec B.bytes (hr.trans hsh) hq hS1.2.2 hdg
    | some v =>
      cases v <;> first
        | exact absurd hsh (by intro h; exact h)
        | skip
      · obtain ⟨t, h1, h3⟩ := hsh
        exact W.zret B.exec B.bytes (hr.trans h1) h3 hq hS1.2.2 hdg
      · exact W.dret B.exec B.bytes (hr.trans hsh) hq hS1.2.2 hdg
      · obtain ⟨t, h1, h3⟩ := hsh
        exact W.aret B.exec B.bytes (hr.trans h1) h3 (g_rv_or G _) hq hS1.2.2 hdg
