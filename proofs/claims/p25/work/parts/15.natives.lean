/-! System.arraycopy and clone over bytes, Object's constructor, a cast. (w_copy and w_clone follow proofs of the kit, with the heap said cell by cell.) -/
section W1
variable {p : Program} {l : Launch} {e : Env} {R : Room} {s : State} {m : MethodId} {args : Array Value} {below : List Frame} {meth : Method} {c : Code} {H : Heap} {locs : List Loc} {cells slots : Nat} {Q : State → Prop} {cc : ByteArray} {pc : Nat} {ls : Array Slot} {rest : List Value}
theorem w_copy (hexec : p.tables.exec = Jvm.exec) (hb : c.code = cc) (hml : c.maxLocals = ls.size) {own : String} {index : Nat} (hown : s.vm.findClass own = some m.cls) (hlink : (Cond.methodLink own index arraycopyName).before args s = true) (hnat : (Cond.native arraycopyName).before args s = true) (hstat : (Cond.static arraycopyName).before args s = true) (hini : (Cond.initialized "java/lang/System").before args s = true)
    {b0 a n0 n1 : Nat} {c1 : ClassId} {f g : Nat → Int32} {scr : Cell} (hc0 : H[b0]? = some scr) (hs2 : s.isArrayOf scr .byte) (hs3 : scr.vm ≠ .unknown) (hs4 : n0 ≤ scr.slots.size) (hs5 : ∀ j, j < n0 → scr.slots[j]? = some (.int (f j))) (hc1 : H[a]? = some (arrV c1 n1 (fun j => .int (g j)))) (hO : ArrOfT s c1 .byte)
    {sp dp n : Int32} (h1 : ¬ sp < 0) (h2 : ¬ dp < 0) (h3 : ¬ n < 0) (h4 : sp.toNatClampNeg + n.toNatClampNeg ≤ n0) (h5 : dp.toNatClampNeg + n.toNatClampNeg ≤ n1) (hfit : ∀ i : Nat, i < n.toNatClampNeg → fits .byte (.int (f (sp.toNatClampNeg + i))) = true)
    (hframes : 1 ≤ R.frames) (hlocals : (rest.map fun v => v.category).sum + (nativeFrameWords "java/lang/System" "arraycopy" 5 + 11) ≤ R.locals) (hdg : decode cc pc = .ok (.invokestatic index, 3))
    (kk : ∀ (H1 : Heap) (locs1 : List Loc), H1[a]? = some (arrV c1 n1 (fun j => .int (va_cpy f g sp.toNatClampNeg dp.toNatClampNeg n.toNatClampNeg j))) → H1.size = H.size → (∀ q, q ≠ a → H1[q]? = H[q]?) → (∀ q ∈ locs1, q ∈ locs ∨ q.base = a) → W p l e R s m args below meth c H1 locs1 cells slots Q (F0 m (pc + 3) ls rest)) : W p l e R s m args below meth c H locs cells slots Q (F0 m pc ls (.int n :: .int dp :: .ref a :: .int sp :: .ref b0 :: rest)) := by
  have nn : ∀ z : Int32, ¬ z < 0 → z.toInt = (z.toNatClampNeg : Int) := by
    intro z hz
    have hz0 := n_pos hz
    show z.toInt = ((z.toInt.toNat : Nat) : Int)
    omega
  intro T hT X
  obtain ⟨hs6, k0, hk0, cm0, hkk0⟩ := hs2
  obtain ⟨-, k1, hk1, cm1, hkk1⟩ := hO n1 (fun j => .int (g j))
  obtain ⟨vm', X', step⟩ := X.arraycopy hexec hown hlink hnat hstat hini (src := b0) (dst := a) (cs := scr) (cd := arrV c1 n1 (fun j => .int (g j))) (srcPos := sp) (destPos := dp) (n := n) (by rw [hT]; exact hc0) (by rw [hT]; exact hc1)
    hs6 (fun _ h => by cases h) hs3 (fun h => by cases h) hk0 hk1 hkk0 hkk1 (by simp [refKind]) h1 h2 h3
    (by rw [nn sp h1, nn n h3]; omega)
    (by rw [nn dp h2, nn n h3, arrV_size]; omega)
    (fun vm₁ _ i hi => by
      have e : scr.slots.getD (sp.toNatClampNeg + i) .null = .int (f (sp.toNatClampNeg + i)) := by
        rw [Array.getD_eq_getD_getElem?, hs5 _ (by omega)]
        rfl
      refine ⟨?_, ?_⟩
      · rw [e]
        exact hfit i hi
      · rw [e]
        exact trivial)
    (g := F0 m pc ls (.int n :: .int dp :: .ref a :: .int sp :: .ref b0 :: rest)) rfl (by rw [hml]) (rest := rest) rfl (by rw [hb]; exact hdg) hframes (by show 2 * 0 + _ + _ ≤ _; omega)
  have e1 : copied scr (arrV c1 n1 (fun j => .int (g j))) sp dp n = arrV c1 n1 (fun j => .int (va_cpy f g sp.toNatClampNeg dp.toNatClampNeg n.toNatClampNeg j)) := va_copiedX (fun z => .int z) scr c1 f g hs5 h4
  rw [e1] at X' step
  have hl : a < H.size := (Array.getElem?_eq_some_iff.mp hc1).1
  have hheap : ((T.setVm vm').setCell a (arrV c1 n1 (fun j => .int (va_cpy f g sp.toNatClampNeg dp.toNatClampNeg n.toNatClampNeg j)))).heap = H.setIfInBounds a (arrV c1 n1 (fun j => .int (va_cpy f g sp.toNatClampNeg dp.toNatClampNeg n.toNatClampNeg j))) := by rw [← hT]; rfl
  obtain ⟨t, a1, b1⟩ := kk _ _ (show (H.setIfInBounds a _)[a]? = some _ by simp [Array.getElem?_setIfInBounds, hl]) (by simp) (fun q hq => by simp [Array.getElem?_setIfInBounds, Ne.symm hq]) (fun q hq => by
      rcases List.mem_append.mp hq with h | h
      · exact Or.inl h
      · obtain ⟨z, -, hz⟩ := List.mem_map.mp h
        rw [← hz]
        exact Or.inr rfl) _ hheap X'
  exact ⟨t, step t a1, b1⟩
theorem w_clone (hexec : p.tables.exec = Jvm.exec) (hb : c.code = cc) (hml : c.maxLocals = ls.size) {own ad : String} {index a n : Nat} {f : Nat → Value} (hown : s.vm.findClass own = some m.cls)
    (hlink : (Cond.methodLink own index ⟨ad, "clone", "()Ljava/lang/Object;"⟩).before args s = true) (hsame : (Cond.sameMethod ad "java/lang/Object" "clone" "()Ljava/lang/Object;").before args s = true)
    (hnat : (Cond.native ⟨"java/lang/Object", "clone", "()Ljava/lang/Object;"⟩).before args s = true) (hinst : (Cond.instanceMethod ⟨"java/lang/Object", "clone", "()Ljava/lang/Object;"⟩).before args s = true)
    (hsel : (Cond.selects ad ⟨ad, "clone", "()Ljava/lang/Object;"⟩ ⟨"java/lang/Object", "clone", "()Ljava/lang/Object;"⟩).before args s = true) (hcl : va_Nw (.castable ad "java/lang/Cloneable") s)
    {cA : ClassId} {ty : FieldType} (hc : H[a]? = some (arrV cA n f)) (hO : ArrOfT s cA ty) (hnm : s.vm.findClass ad = some cA) (hfit : ∀ (i : Nat) (v : Value), (arrV cA n f).slots[i]? = some v → fits ty v = true)
    (hframes : 1 ≤ R.frames) (hlocals : (rest.map fun v => v.category).sum + 14 ≤ R.locals) (hcells : cells + 1 ≤ R.cells) (hslots : slots + n ≤ R.slots) (hdg : decode cc pc = .ok (.invokevirtual index, 3))
    (kk : W p l e R s m args below meth c (H.push (arrV cA n f)) locs (cells + 1) (slots + n) Q (F0 m (pc + 3) ls (.ref H.size :: rest))) : W p l e R s m args below meth c H locs cells slots Q (F0 m pc ls (.ref a :: rest)) := by
  obtain ⟨c0, t0', f1, f2, f3⟩ := Cond.castable_spec (va_Nw.use (A := args) rfl hcl)
  cases hnm.symm.trans f1
  intro T hT X
  have hcellT : T.heap[a]? = some (arrV cA n f) := by rw [hT]; exact hc
  obtain ⟨-, kA, hkA, comp, hkind⟩ := State.isArrayOf_alike X.warmed.alike (hO 0 (fun _ => .null))
  obtain ⟨-, kS, hkS, compS, hkindS⟩ := hO 0 (fun _ => .null)
  obtain ⟨vm', X', st⟩ := X.cloneArray hexec hown hlink hsame hnat hinst hsel (a := a) (cell := arrV cA n f) hcellT (fun k h => by cases h) (fun h => by cases h) hnm f2 f3
    (fun i v hv => by
      have hk' : T.vm.classes[cA]? = some kA := hkA
      simpa [State.fitsSlot, State.slotType?, hk', hkind, arrV] using hfit i v hv)
    (g := F0 m pc ls (.ref a :: rest)) rfl (by rw [hml]) rfl (by rw [hb]; exact hdg) hframes (by show 2 * 0 + _ + 14 ≤ _; omega) hcells (by rw [arrV_size]; exact hslots) (hloader := Vm.clonesLoader_of_array hkS hkindS)
  rw [arrV_size] at X'
  obtain ⟨t, b1, b2⟩ := kk ((T.setVm vm').pushCell (arrV cA n f)) (by rw [← hT]; rfl) X'
  refine ⟨t, st t ?_, b2⟩
  rw [hT]
  exact b1
end W1
set_option maxRecDepth 100000 in
theorem w_nat : (Cond.native arraycopyName ∈ w_all ∧ Cond.static arraycopyName ∈ w_all) ∧ (Cond.initialized "java/lang/System" ∈ w_all ∧ Cond.instanceMethod Lib.objectInit ∈ w_all) ∧ (Cond.code Lib.objectInit ⟨#[0xb1]⟩ 1 none ∈ w_all ∧ Cond.native ⟨"java/lang/Object", "clone", "()Ljava/lang/Object;"⟩ ∈ w_all) ∧ (Cond.instanceMethod ⟨"java/lang/Object", "clone", "()Ljava/lang/Object;"⟩ ∈ w_all ∧ Cond.sameMethod "[B" "java/lang/Object" "clone" "()Ljava/lang/Object;" ∈ w_all) ∧ Cond.selects "[B" ⟨"[B", "clone", "()Ljava/lang/Object;"⟩ ⟨"java/lang/Object", "clone", "()Ljava/lang/Object;"⟩ ∈ w_all := by decide +kernel
def lx_chk (q : Nat × Nat × Nat × Nat) : Bool := decide (w_all[q.2.2.2]? = some (Cond.methodLink (z_cn q.1) q.2.1 (match Nat.beq q.2.2.1 900 with
  | true => arraycopyName
  | false => match Nat.beq q.2.2.1 901 with
    | true => ⟨"[B", "clone", "()Ljava/lang/Object;"⟩
    | false => Lib.objectInit)))
set_option maxRecDepth 100000 in
theorem lx_all : z_lx.all lx_chk = true := by decide +kernel
theorem lx_use {o x k : Nat} (h : e_lx o x k = true) : Cond.methodLink (z_cn o) x (match Nat.beq k 900 with
  | true => arraycopyName
  | false => match Nat.beq k 901 with
    | true => ⟨"[B", "clone", "()Ljava/lang/Object;"⟩
    | false => Lib.objectInit) ∈ w_g := by
  obtain ⟨q, hq, h1⟩ := List.any_eq_true.mp h
  simp only [Bool.and_eq_true] at h1
  obtain ⟨⟨e1, e2⟩, e3⟩ := h1
  have e1 := Nat.eq_of_beq_eq_true e1
  have e2 := Nat.eq_of_beq_eq_true e2
  have e3 := Nat.eq_of_beq_eq_true e3
  have h2 := of_decide_eq_true (List.all_eq_true.mp lx_all q hq)
  rw [e1, e2, e3] at h2
  exact w_at h2 rfl
theorem c_in {G : GG} {l : List Value} : ((l.map (g_v G)).map fun v => v.category).sum = c_sum l := g_csum G l
section S8
variable {G : GG} {l : Launch} {k pc : Nat} {ls : List Slot} {r : List Value} {h : PH}
theorem S_objinit (hG : GOK G) {a : Nat} (hi : (z_code k)[pc]? = some (.invokespecial 902)) (ha : 1000 ≤ a) (hr : c_sum r ≤ 8) : STEP G l k pc ls (.ref a :: r) h (pc + 1) ls r h := by
  intro d p e R s m args below meth c H locs lsm h0 Z C hR hS hL n0 u0 nc uc kk
  obtain ⟨q, len, d1, d2, d3⟩ := at_pc (Cx C) hi
  have d4 := d3.resolve_left (by intro h; cases h)
  have K := kk H locs lsm hR hS hL
  obtain ⟨C1, C2, C3, C4, C5, C6, E, C8, C9, C10, C11⟩ := C
  cases q <;> first
    | exact absurd d2 (by intro h; cases h)
    | skip
  rename_i x
  have d2 := Bool.and_eq_true_iff.mp d2
  have e3 := Nat.eq_of_beq_eq_true d2.2
  subst e3
  rw [d4] at K
  have hw := lx_use (o := z_ow k) (x := x) (k := 902) d2.1
  rw [List.map_cons, show g_v G (.ref a) = g_rv G a from rfl, g_rvr hG (by omega) (by omega)]
  exact W.objInit C1 C2 C5 (C6 _ hw) (C6 _ (List.mem_filter.mpr ⟨w_nat.2.1.2, rfl⟩)) (C6 _ (List.mem_filter.mpr ⟨w_nat.2.2.1.1, rfl⟩)) rfl (by rw [C4]; exact hL.1) rfl d1 (by omega) (by rw [c_in]; show 2 * 0 + _ + 12 ≤ _; omega) K
end S8
theorem cp_o {s sp d dp n : Nat} {h : PH} : ∀ b, b ≠ d → (∀ j, p_im (p_cp h s sp d dp n) b j = p_im h b j) ∧ ∀ j, p_rm (p_cp h s sp d dp n) b j = p_rm h b j := by
  intro b hb
  refine ⟨fun j => ?_, fun j => rfl⟩
  show (if b = d ∧ dp ≤ j ∧ j < dp + n then p_im h s (sp + (j - dp)) else p_im h b j) = p_im h b j
  rw [if_neg (fun q => hb q.1)]
section S9
variable {G : GG} {l : Launch} {k pc : Nat} {ls : List Slot} {r : List Value} {h : PH}
theorem S_copy (hG : GOK G) {a0 a : Nat} {sp dp n : Int32} (hi : (z_code k)[pc]? = some (.invokestatic 900)) (hk0 : p_kB (p_kd h a0) = true) (hk : p_kd h a = 120) (ha : 1000 ≤ a) (h1 : 0 ≤ sp.toInt) (h2 : 0 ≤ dp.toInt) (h3 : 0 ≤ n.toInt) (h4 : sp.toNatClampNeg + n.toNatClampNeg ≤ p_ln h a0) (h5 : dp.toNatClampNeg + n.toNatClampNeg ≤ p_ln h a) (hr : c_sum r ≤ 8) :
    STEP G l k pc ls (.int n :: .int dp :: .ref a :: .int sp :: .ref a0 :: r) h (pc + 1) ls r (p_cp h a0 sp.toNatClampNeg a dp.toNatClampNeg n.toNatClampNeg) := by
  intro d p e R s m args below meth c H locs lsm h0 Z C hR hS hL n0 u0 nc uc kk
  obtain ⟨q, len, d1, d2, d3⟩ := at_pc (Cx C) hi
  have d4 := d3.resolve_left (by intro h; cases h)
  obtain ⟨C1, C2, C3, C4, C5, C6, E, C8, C9, C10, C11⟩ := C
  cases q <;> first
    | exact absurd d2 (by intro h; cases h)
    | skip
  rename_i x
  have d2 := Bool.and_eq_true_iff.mp d2
  have e3 := Nat.eq_of_beq_eq_true d2.2
  subst e3
  have hw := lx_use (o := z_ow k) (x := x) (k := 900) d2.1
  have hkB2 := hk0
  simp only [p_kB, Bool.and_eq_true] at hkB2
  have b1 := Nat.le_of_ble_eq_true hkB2.1
  have b2 := Nat.le_of_ble_eq_true hkB2.2
  have hkI : p_kI (p_kd h a0) = false := by
    unfold p_kI
    cases hz : Nat.ble (p_kd h a0) 119
    · simp
    · have := Nat.le_of_ble_eq_true hz; omega
  have hkR : p_kR (p_kd h a0) = false := by
    unfold p_kR
    cases hz : Nat.ble 310 (p_kd h a0)
    · rfl
    · have := Nat.le_of_ble_eq_true hz; omega
  have ge0 : ∀ j, g_e G h a0 j = .int (p_im h a0 j) := fun j => by unfold g_e; rw [hkR]
  have ge1 : g_e G h a = fun j => .int (p_im h a j) := by funext j; unfold g_e; rw [hk]; rfl
  have np : ∀ z : Int32, 0 ≤ z.toInt → ¬ z < 0 := fun z hz q => by
    have := Int32.lt_iff_toInt_lt.mp q
    simp at this
    omega
  have hsrc : ∃ scr : Cell, H[g_ad G a0]? = some scr ∧ s.isArrayOf scr .byte ∧ scr.vm ≠ .unknown ∧ p_ln h a0 ≤ scr.slots.size ∧ ∀ j, j < p_ln h a0 → scr.slots[j]? = some (.int (p_im h a0 j)) := by
    rcases Nat.lt_or_ge a0 1000 with hlt | hge
    · obtain ⟨s1, s2, s3, s4⟩ := hR.2.2.2.2.2.1 a0 hlt
      have hT := E.2.2.2.2.2.2.2.2.2.2.2.1 a0 hlt (by omega)
      rw [show z_cty (p_kd (g_c G) a0) = .byte by unfold z_cty; rw [← s1, hkI, hk0]] at hT
      obtain ⟨scr, t1, t2, t3, t4, -, t5, -⟩ := hT.kept hS.2.1
      refine ⟨scr, t1, t2, t3, by rw [s2]; exact t4, fun j hj => ?_⟩
      rw [t5 j (by rw [← s2]; exact hj), g_e_c hR hlt j, ge0]
    · obtain ⟨q1, q2⟩ := hR.row hge (by omega)
      have h120 := kB_new hk0 q2
      have hO := (E.2.1 (p_kd h a0) .byte (by rw [h120]; rfl)).1
      exact ⟨_, q1, hO _ _, (by intro h; cases h), by rw [arrV_size]; exact Nat.le_refl _, fun j hj => by rw [arrV_read _ _ hj, ge0]⟩
  obtain ⟨scr, t1, t2, t3, t4, t5⟩ := hsrc
  obtain ⟨q1, q2⟩ := hR.row ha (by omega)
  rw [ge1] at q1
  have hO := (E.2.1 (p_kd h a) .byte (by rw [hk]; rfl)).1
  rw [List.map_cons, List.map_cons, List.map_cons, List.map_cons, List.map_cons, show g_v G (.ref a) = g_rv G a from rfl, show g_v G (.ref a0) = g_rv G a0 from rfl, hR.rv hG (x := a) (by omega), hR.rv hG (x := a0) (by omega)]
  have hnf : nativeFrameWords "java/lang/System" "arraycopy" 5 + 11 ≤ 50 := by decide
  refine w_copy C1 C2 (by rw [C4]; exact hL.1.symm) C5 (C6 _ hw) (C6 _ (List.mem_filter.mpr ⟨w_nat.1.1, rfl⟩)) (C6 _ (List.mem_filter.mpr ⟨w_nat.1.2, rfl⟩)) (C6 _ (List.mem_filter.mpr ⟨w_nat.2.1.1, rfl⟩)) t1 t2 t3 t4 t5 q1 hO (np _ h1) (np _ h2) (np _ h3) h4 h5 (fun i hi => hR.2.2.2.2.1 a0 _ hk0 (by omega)) (by omega) (by rw [c_in]; omega) d1 (fun H1 locs1 e1 e2 e3 e4 => ?_)
  have hR1 : Rep G (p_cp h a0 sp.toNatClampNeg a dp.toNatClampNeg n.toNatClampNeg) H1 := by
    refine hR.put hG ha rfl rfl rfl cp_o e2 e3 ?_ ?_
    · unfold g_at
      show (match Nat.ble 100 (p_kd h a) with
        | false => _
        | true => H1[g_ad G a]? = some (arrV (g_A G (p_kd h a)) (p_ln h a) (g_e G (p_cp h a0 sp.toNatClampNeg a dp.toNatClampNeg n.toNatClampNeg) a)))
      rw [show Nat.ble 100 (p_kd h a) = true from Nat.ble_eq_true_of_le (by omega)]
      show H1[g_ad G a]? = _
      rw [e1]
      congr 2
      funext j
      unfold g_e
      show _ = (match p_kR (p_kd h a) with
        | true => _
        | false => Value.int (if a = a ∧ dp.toNatClampNeg ≤ j ∧ j < dp.toNatClampNeg + n.toNatClampNeg then p_im h a0 (sp.toNatClampNeg + (j - dp.toNatClampNeg)) else p_im h a j))
      rw [show p_kR (p_kd h a) = false by rw [hk]; rfl]
      unfold va_cpy
      by_cases hj : dp.toNatClampNeg ≤ j ∧ j < dp.toNatClampNeg + n.toNatClampNeg
      · rw [if_pos hj, if_pos ⟨rfl, hj⟩]
      · rw [if_neg hj, if_neg (fun q => hj q.2)]
    · intro _ j hj
      show fits .byte (.int (if a = a ∧ dp.toNatClampNeg ≤ j ∧ j < dp.toNatClampNeg + n.toNatClampNeg then p_im h a0 (sp.toNatClampNeg + (j - dp.toNatClampNeg)) else p_im h a j)) = true
      by_cases hj2 : dp.toNatClampNeg ≤ j ∧ j < dp.toNatClampNeg + n.toNatClampNeg
      · rw [if_pos ⟨rfl, hj2⟩]; exact hR.2.2.2.2.1 a0 _ hk0 (by omega)
      · rw [if_neg (fun q => hj2 q.2)]; exact hR.2.2.2.2.1 a j (by rw [hk]; rfl) hj
  have hS1 : va_S (g_F G) s.heap H1 locs1 := ⟨by rw [e2]; exact hS.1, fun q w1 w2 => by
      rw [e3 q (fun z => w2 (by rw [z]; exact g_free hG ha))]
      exact hS.2.1 q w1 w2, fun q hq => by
      rcases e4 q hq with z | z
      · exact hS.2.2 q z
      · rw [z]; exact g_free hG ha⟩
  have K := kk H1 locs1 lsm hR1 hS1 hL
  rw [d4] at K
  exact K
theorem S_clone (hG : GOK G) {a : Nat} (hi : (z_code k)[pc]? = some (.invokevirtual 901)) (hk : p_kd h a = 120) (ha : 1000 ≤ a) (hr : c_sum r ≤ 8) :
    STEP G l k pc ls (.ref a :: r) h (pc + 1) ls (.ref (p_nx h) :: r) (p_cl (p_new h 120 (p_ln h a) (p_ln h a)) (p_nx h) a) := by
  intro d p e R s m args below meth c H locs lsm h0 Z C hR hS hL n0 u0 nc uc kk
  obtain ⟨q, len, d1, d2, d3⟩ := at_pc (Cx C) hi
  have d4 := d3.resolve_left (by intro h; cases h)
  obtain ⟨C1, C2, C3, C4, C5, C6, E, C8, C9, C10, C11⟩ := C
  cases q <;> first
    | exact absurd d2 (by intro h; cases h)
    | skip
  · rename_i x
    have d2 := Bool.and_eq_true_iff.mp d2
    exact absurd d2.2 (by decide)
  rename_i x
  have d2 := Bool.and_eq_true_iff.mp d2
  have e3 := Nat.eq_of_beq_eq_true d2.2
  subst e3
  have hw := lx_use (o := z_ow k) (x := x) (k := 901) d2.1
  have hnx : p_nx (p_cl (p_new h 120 (p_ln h a) (p_ln h a)) (p_nx h) a) = p_nx h + 1 := rfl
  have hus : p_us (p_cl (p_new h 120 (p_ln h a) (p_ln h a)) (p_nx h) a) = p_us h + p_ln h a := rfl
  rw [hnx] at nc
  rw [hus] at uc
  have hlt := hR.lt (x := a) (by omega)
  have hsz := hR.1
  have hge := hR.2.1
  have had := hG.2.2.1 (p_nx h) hge
  have hae : g_ad G (p_nx h) = H.size := by omega
  have ge1 : g_e G h a = fun j => .int (p_im h a j) := by funext j; unfold g_e; rw [hk]; rfl
  obtain ⟨q1, q2⟩ := hR.row ha (by omega)
  obtain ⟨hO, hRA, -⟩ := E.2.1 (p_kd h a) .byte (by rw [hk]; rfl)
  have im1 : ∀ j, p_im (p_cl (p_new h 120 (p_ln h a) (p_ln h a)) (p_nx h) a) (p_nx h) j = p_im h a j := by
    intro j
    show (if p_nx h = p_nx h then p_im (p_new h 120 (p_ln h a) (p_ln h a)) a j else _) = _
    rw [if_pos rfl]
    exact (new_o (h := h) (k1 := 120) (n := p_ln h a) (u := p_ln h a) a (by omega)).2.2.1 j
  rw [List.map_cons, show g_v G (.ref a) = g_rv G a from rfl, hR.rv hG (x := a) (by omega)]
  refine w_clone C1 C2 (by rw [C4]; exact hL.1.symm) C5 (C6 _ hw) (C6 _ (List.mem_filter.mpr ⟨w_nat.2.2.2.1.2, rfl⟩)) (C6 _ (List.mem_filter.mpr ⟨w_nat.2.2.1.2, rfl⟩)) (C6 _ (List.mem_filter.mpr ⟨w_nat.2.2.2.1.1, rfl⟩)) (C6 _ (List.mem_filter.mpr ⟨w_nat.2.2.2.2, rfl⟩)) (E.2.2.1 _ (by simp [z_nw])) q1 hO hRA (fun i v hv => ?_) (by omega) (by rw [c_in]; omega) (by omega) (by omega) d1 ?_
  · have hil : i < p_ln h a := by
      have := (Array.getElem?_eq_some_iff.mp hv).1
      rwa [arrV_size] at this
    rw [arrV_read _ _ hil, ge1] at hv
    cases hv
    exact hR.2.2.2.2.1 a i (by rw [hk]; rfl) hil
  have hR1 : Rep G (p_cl (p_new h 120 (p_ln h a) (p_ln h a)) (p_nx h) a) (H.push (arrV (g_A G (p_kd h a)) (p_ln h a) (g_e G h a))) := by
    refine hR.push hG rfl (fun b hb => ?_) (by simp) (fun q hq => push_at hq) ?_ ?_ ?_
    · obtain ⟨o1, o2, o3, o4⟩ := new_o (h := h) (k1 := 120) (n := p_ln h a) (u := p_ln h a) b hb
      refine ⟨o1, o2, fun j => ?_, o4⟩
      show (if b = p_nx h then _ else p_im (p_new h 120 (p_ln h a) (p_ln h a)) b j) = _
      rw [if_neg hb]
      exact o3 j
    · unfold g_at
      rw [show p_kd (p_cl (p_new h 120 (p_ln h a) (p_ln h a)) (p_nx h) a) (p_nx h) = 120 from new_kd (n := p_ln h a) (u := p_ln h a), show p_ln (p_cl (p_new h 120 (p_ln h a) (p_ln h a)) (p_nx h) a) (p_nx h) = p_ln h a from new_ln (k1 := 120) (u := p_ln h a), hae]
      show _ = some (arrV _ _ _)
      rw [push_end, hk, ge1]
      congr 2
      funext j
      unfold g_e
      rw [show p_kd (p_cl (p_new h 120 (p_ln h a) (p_ln h a)) (p_nx h) a) (p_nx h) = 120 from new_kd (n := p_ln h a) (u := p_ln h a), im1]
      rfl
    · intro _ j hj
      rw [im1]
      rw [show p_ln (p_cl (p_new h 120 (p_ln h a) (p_ln h a)) (p_nx h) a) (p_nx h) = p_ln h a from new_ln (k1 := 120) (u := p_ln h a)] at hj
      exact hR.2.2.2.2.1 a j (by rw [hk]; rfl) hj
    · rw [show p_kd (p_cl (p_new h 120 (p_ln h a) (p_ln h a)) (p_nx h) a) (p_nx h) = 120 from new_kd (n := p_ln h a) (u := p_ln h a)]; rfl
  have K := kk _ locs lsm hR1 (hS.more (by simp) (fun q hq => push_at hq)) hL
  rw [d4, hnx, hus, List.map_cons, show g_v G (.ref (p_nx h)) = g_rv G (p_nx h) from rfl, g_rvr hG (by omega) (by omega), hae] at K
  have t1 : p_nx h - p_nx h0 + 1 = p_nx h + 1 - p_nx h0 := by omega
  have t2 : p_us h - p_us h0 + p_ln h a = p_us h + p_ln h a - p_us h0 := by omega
  rw [t1, t2]
  exact K
def cast_chk (k : Nat) : Bool := (List.range (z_code k).length).all (fun j => match (z_code k)[j]? with
  | some (.checkcast _) => (match (z_raw k)[j]? with
    | some (_, .checkcast x, _) => decide (Cond.classLink (z_cn (z_ow k)) x "[B" ∈ w_all)
    | _ => false)
  | _ => true)
set_option maxRecDepth 100000 in
theorem cast_all : (List.range 190).all cast_chk = true := by decide +kernel
theorem S_cast (hG : GOK G) {a n : Nat} (hi : (z_code k)[pc]? = some (.checkcast n)) (hk : p_kd h a = 120) (ha : 1000 ≤ a) : STEP G l k pc ls (.ref a :: r) h (pc + 1) ls (.ref a :: r) h := by
  intro d p e R s m args below meth c H locs lsm h0 Z C hR hS hL n0 u0 nc uc kk
  have hk190 := Cx C
  obtain ⟨q, len, d1, d2, d3⟩ := at_pc hk190 hi
  have d4 := d3.resolve_left (by intro h; cases h)
  have K := kk H locs lsm hR hS hL
  obtain ⟨C1, C2, C3, C4, C5, C6, E, C8, C9, C10, C11⟩ := C
  have hlt := (List.getElem?_eq_some_iff.mp hi).1
  have hc := List.all_eq_true.mp (List.all_eq_true.mp cast_all k (List.mem_range.mpr hk190)) pc (List.mem_range.mpr hlt)
  rw [hi] at hc
  have hc : (match (z_raw k)[pc]? with
    | some (_, .checkcast x, _) => decide (Cond.classLink (z_cn (z_ow k)) x "[B" ∈ w_all)
    | _ => false) = true := hc
  cases hz : (z_raw k)[pc]? with
  | none => rw [hz] at hc; cases hc
  | some w =>
    obtain ⟨w1, w2, w3⟩ := w
    have hp : n_pc (z_raw k) pc = w1 := by unfold n_pc; rw [List.getD_eq_getElem?_getD, hz]; rfl
    have h4 := of_decide_eq_true (List.all_eq_true.mp (e_d_all k hk190) _ (List.mem_of_getElem? hz))
    rw [← hp] at h4
    have h5 := h4.symm.trans d1
    have e6 : w2 = q := by
      injection h5 with h5
      exact (Prod.mk.inj h5).1
    rw [e6] at hz
    cases q <;> first
      | exact absurd d2 (by intro h; cases h)
      | skip
    rename_i x
    have e3 := Nat.eq_of_beq_eq_true d2
    subst e3
    rw [hz] at hc
    have hw := of_decide_eq_true hc
    rw [d4] at K
    rw [List.map_cons, show g_v G (.ref a) = g_rv G a from rfl, hR.rv hG (x := a) (by omega)] at K ⊢
    obtain ⟨q1, q2⟩ := hR.row ha (by omega)
    have ge1 : g_e G h a = fun j => .int (p_im h a j) := by funext j; unfold g_e; rw [hk]; rfl
    obtain ⟨hO, hRA, -⟩ := E.2.1 (p_kd h a) .byte (by rw [hk]; rfl)
    rw [ge1] at q1
    exact va_castA (D := g_D G) (cl := z_cl) (ws := [(g_ad G a, .inl (g_A G (p_kd h a), (p_ln h a, .inl (p_im h a))))]) C1 C2 C5 (C6 _ (List.mem_filter.mpr ⟨hw, rfl⟩)) (fun i y hy => by
      cases i with
      | zero => cases hy; exact q1
      | succ i => simp at hy) 0 rfl hRA d1 K
end S9
