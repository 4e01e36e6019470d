/-- the law's run out of a run of the picture -/
theorem start_of_wp {p : Program} {e : Env} {s : State} {m : MethodId} {below : List Frame} {meth : Method} {c : Code} (l : Launch) {b L : Nat} {xs : Nat → Int32} (C0 : lw_At p s m meth c b L xs)
    (K : wp 1000 189 0 (l_ent 25 [.ref 60]) [] (c_w L xs) (fun v h => v = some (.int 1) ∧ p_nx h ≤ 601000 ∧ p_us h ≤ 7300000)) :
    W p l e room_1 s m #[Value.ref b] below meth c s.heap [] 0 0 (lw_Z below #[Value.ref b] s) (entryFrame m ([Value.ref b] : List Value).toArray 25) := by
  obtain ⟨hx, hb, hret, hml, hown, htbl, hX, hbl, hlocks, hg⟩ := C0
  have hall := w_hts htbl
  have hts : ∀ w ∈ w_g, w.before #[Value.ref b] s = true := fun w hw => hall w (List.mem_filter.mp hw).1
  obtain ⟨G, hG, E, hR, h60, hsz⟩ := en_all hg hall hts hX hbl
  obtain ⟨v, h2, ⟨rfl, hn, hu⟩, n2, u2, M⟩ := wp_MR (l := l) hG K (by decide)
  have e60 : ([Value.ref 60] : List Value).map (g_v G) = [Value.ref b] := by
    show [g_rv G 60] = _
    rw [g_rvr hG (by decide) (by decide), h60]
  have hl := LOC.ent (G := G) (a := [Value.ref 60]) (n := 25) (by decide) (by intro v hv; cases List.mem_singleton.mp hv; rfl)
  rw [e60] at hl
  rw [lg_entry_eq]
  refine W.base ?_
  have hd0 := Drawn.sameBut.refl s.drawn lw_cs
  have hcb : z_b 189 = code := rfl
  have hn1 : p_nx (c_w L xs) = 1000 := rfl
  have hu1 : p_us (c_w L xs) = 0 := rfl
  have hcR : 600000 ≤ room_1.cells := by decide
  have hsR : 7300000 ≤ room_1.slots := by decide
  have K1 := M p e room_1 s m #[Value.ref b] below meth c s.heap [] _ (c_w L xs) (lw_Z below #[Value.ref b] s)
    ⟨hx, hb.trans hcb.symm, hlocks, hml, hown, hts, E, (fun z => absurd z (by decide)), (by decide), (by decide), (by decide)⟩ hR va_S.rf hl (Nat.le_refl _) (Nat.le_refl _)
    (show p_nx h2 - p_nx (c_w L xs) ≤ room_1.cells by omega) (show p_us h2 - p_us (c_w L xs) ≤ room_1.slots by omega) ?_
  · rw [Nat.sub_self, Nat.sub_self] at K1
    exact K1
  · intro H1 locs1 lsm1 pc1 hR1 hS1 hsh hdg
    refine va_forget (fun q hq => ?_) ?_
    · have z : g_sz G ≤ q.base := hS1.2.2 q hq
      omega
    · refine W.widen (k := room_1.cells) (n := room_1.slots) (by omega) (by omega) ?_
      exact lw_ret hd0 hx hb hret hlocks (by rw [← hcb]; exact hdg)
