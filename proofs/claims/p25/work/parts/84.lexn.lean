/-! Lexemes as rows of small numbers; which of them may stand together. -/
def dgn (n : Nat) : List Nat := bif Nat.blt n 10 then [48 + n] else [48 + n / 10, 48 + n % 10]
def lwn (x : Lx) : List Nat := match x.1 with
  | 38 => [x.2.1 / 32, 97 + x.2.1 % 32]
  | 39 => dgn x.2.1
  | 40 => [39, 84, 101, 120, 116, 32] ++ (dgn x.2.1 ++ [59, 32, 39])
  | t => (c_sb.getD (c_kt.getD (t - 1) 0) []).map Int32.toNatClampNeg
def lbn1 (x : Lx) : List Nat := lwn x ++ (bif Nat.beq x.2.2 1 then [32] else [])
def lbn : List Lx → List Nat
  | [] => []
  | x :: r => lbn1 x ++ lbn r
theorem lbn_app (X Y : List Lx) : lbn (X ++ Y) = lbn X ++ lbn Y := by
  induction X with
  | nil => rfl
  | cons x r ih =>
    show lbn1 x ++ lbn (r ++ Y) = (lbn1 x ++ lbn r) ++ lbn Y
    rw [ih, List.append_assoc]
theorem dg_dgn (n : Nat) : dg n = (dgn n).map Int32.ofNat := by
  unfold dg dgn
  cases Nat.blt n 10 <;> rfl
/-- the kinds that are words (without names), and the signs -/
def kw1 (t : Nat) : Bool := Nat.ble 1 t && Nat.ble t 15
def ks1 (t : Nat) : Bool := Nat.beq t 21 || Nat.beq t 22 || Nat.beq t 27 || Nat.beq t 30 || Nat.beq t 31 || Nat.beq t 34 || Nat.beq t 35
def okx (x : Lx) : Prop := (x.1 = 38 ∧ (∃ c k, (c = 99 ∨ c = 102 ∨ c = 116) ∧ k < 26 ∧ x.2.1 = c * 32 + k)) ∨ (x.1 = 39 ∧ x.2.1 < 100) ∨ (x.1 = 40 ∧ x.2.1 < 100) ∨ (kw1 x.1 = true ∨ ks1 x.1 = true) ∧ x.2.1 = 0
/-- which one may stand behind another one with no blank between -/
def nxb (x y : Nat) : Bool := (Nat.beq x 38 && (Nat.beq y 31 || Nat.beq y 34)) || (Nat.beq x 31 && Nat.beq y 39) || (Nat.beq x 39 && (Nat.beq y 30 || Nat.beq y 27)) || (Nat.beq x 30 && Nat.beq y 39) || (Nat.beq x 34 && Nat.beq y 39)
def tlok : List Lx → Prop
  | [] => True
  | [x] => okx x ∧ x.2.2 = 1
  | x :: y :: r => okx x ∧ (x.2.2 = 1 ∨ x.2.2 = 0 ∧ nxb x.1 y.1 = true) ∧ tlok (y :: r)
theorem tlok_app : ∀ {X Y : List Lx}, tlok X → tlok Y → tlok (X ++ Y)
  | [], _, _, h => h
  | [x], [], h, _ => h
  | [x], y :: r, h, h2 => ⟨h.1, Or.inl h.2, h2⟩
  | x :: y :: r, Y, h, h2 => ⟨h.1, h.2.1, tlok_app (X := y :: r) h.2.2 h2⟩
theorem tlok_cons {x : Lx} {r : List Lx} (h1 : okx x) (h2 : x.2.2 = 1) (h3 : tlok r) : tlok (x :: r) := tlok_app (X := [x]) ⟨h1, h2⟩ h3
theorem okx_kw {t b : Nat} (h : (kw1 t || ks1 t) = true) : okx (t, 0, b) := by
  rw [Bool.or_eq_true] at h
  exact Or.inr (Or.inr (Or.inr ⟨h, rfl⟩))
theorem okx_nm {c k b : Nat} (hc : c = 99 ∨ c = 102 ∨ c = 116) (hk : k < 26) : okx (38, c * 32 + k, b) := Or.inl ⟨rfl, c, k, hc, hk, rfl⟩
theorem okx_nu {m b : Nat} (hm : m < 100) : okx (39, m, b) := Or.inr (Or.inl ⟨rfl, hm⟩)
theorem okx_st {m b : Nat} (hm : m < 100) : okx (40, m, b) := Or.inr (Or.inr (Or.inl ⟨rfl, hm⟩))
section OKS
variable {n f c : Nat}
theorem tlok_cat {P : List Lx → Prop} (hP : ∀ X, P X → tlok X) : ∀ (k : Nat) (X : List Lx), cat P k X → tlok X
  | 0, X, h => by
    have : X = [] := h
    rw [this]
    trivial
  | k + 1, X, h => by
    rcases h with h | ⟨Y, Z, e, p, q⟩
    · rw [h]; trivial
    · rw [e]; exact tlok_app (hP Y p) (tlok_cat hP k Z q)
theorem tlok_B {P : List Lx → Prop} {k : Nat} {X : List Lx} (hP : ∀ X, P X → tlok X) (h : isB P k X) : tlok X := by
  obtain ⟨Z, z, e⟩ := h
  rw [e]
  exact tlok_cons (okx_kw rfl) rfl (tlok_app (tlok_cat hP k Z z) ⟨okx_kw rfl, rfl⟩)
theorem tlok_I1 (hn : n ≤ 7) (hf : f ≤ 3) {X : List Lx} (h : isI1 n f c X) : tlok X := by
  rcases h with ⟨m, hm, e⟩ | ⟨k, hk, -, e⟩ | ⟨t, k, ht, hk, e⟩ | ⟨q, m, hq, hm, e⟩
  · rw [e]; exact ⟨okx_st (by omega), rfl⟩
  · rw [e]; exact ⟨okx_kw rfl, Or.inl rfl, okx_nm (Or.inl rfl) (by omega), rfl⟩
  · rw [e]; exact ⟨okx_kw (by rcases ht with rfl | rfl <;> rfl), Or.inl rfl, okx_nm (Or.inr (Or.inr rfl)) (by omega), rfl⟩
  · rw [e]; exact ⟨okx_kw rfl, Or.inl rfl, okx_nm (Or.inr (Or.inl rfl)) (by omega), Or.inr ⟨rfl, rfl⟩, okx_kw rfl, Or.inr ⟨rfl, rfl⟩, okx_nu (by omega), Or.inr ⟨rfl, rfl⟩, okx_kw rfl, Or.inr ⟨rfl, rfl⟩, okx_nu (by omega), Or.inr ⟨rfl, rfl⟩, okx_kw rfl, rfl⟩
theorem tlok_I0 (hn : n ≤ 7) (hf : f ≤ 3) {X : List Lx} (h : isI0 n f c X) : tlok X := by
  rcases h with h | ⟨q, m, B1, B2, hq, hm, b1, b2, e⟩ | ⟨B1, B2, b1, b2, e⟩
  · exact tlok_I1 hn hf h
  · have c1 := tlok_B (fun _ => tlok_I1 hn hf) b1
    have c2 := tlok_B (fun _ => tlok_I1 hn hf) b2
    rw [e]
    refine tlok_app ?_ (tlok_app c1 (tlok_cons (okx_kw rfl) rfl c2))
    exact ⟨okx_kw rfl, Or.inl rfl, okx_nm (Or.inr (Or.inl rfl)) (by omega), Or.inr ⟨rfl, rfl⟩, okx_kw rfl, Or.inr ⟨rfl, rfl⟩, okx_nu (by omega), rfl⟩
  · have c1 := tlok_B (fun _ => tlok_I1 hn hf) b1
    have c2 := tlok_B (fun _ => tlok_I1 hn hf) b2
    rw [e]
    refine tlok_app ?_ (tlok_app c1 (tlok_cons (okx_kw rfl) rfl (tlok_app c2 ⟨okx_kw rfl, rfl⟩)))
    exact ⟨okx_kw rfl, Or.inl rfl, okx_kw rfl, Or.inl rfl, okx_kw rfl, rfl⟩
theorem tlok_lks {t : Nat} (ht : kw1 t = true) : ∀ r : List Nat, (∀ o ∈ r, o < 26) → tlok (lks t r)
  | [], _ => trivial
  | o :: r, ho => by
    show tlok ([(t, 0, 1), (38, 99 * 32 + o, 1)] ++ lks t r)
    refine tlok_app ⟨okx_kw (by rw [ht]; rfl), Or.inl rfl, okx_nm (Or.inl rfl) (ho o List.mem_cons_self), rfl⟩ (tlok_lks ht r (fun x hx => ho x (List.mem_cons_of_mem _ hx)))
theorem tlok_chd {D : CLD} (hn : n ≤ 7) (hf : f ≤ 3) (hc : c < 26) (ok : okD n f c D) : tlok (chd c D) := by
  obtain ⟨a1, a2, -, a4, a5, -, -, -, a6, a7, a8⟩ := ok
  unfold chd clk
  refine tlok_app ⟨okx_kw rfl, Or.inl rfl, okx_nm (Or.inl rfl) hc, rfl⟩ (tlok_app ?_ (tlok_app ?_ (tlok_app ?_ (tlok_app ?_ ?_))))
  · unfold cwh
    cases Nat.beq (cl_t D) 0
    · exact ⟨okx_kw rfl, Or.inl rfl, okx_nm (Or.inr (Or.inl rfl)) (by omega), Or.inl rfl, okx_kw rfl, Or.inl rfl, okx_nu (by omega), rfl⟩
    · trivial
  · unfold cop
    cases Nat.beq (cl_o D) 0
    · exact ⟨okx_kw rfl, Or.inl rfl, okx_nu (by omega), Or.inl rfl, okx_nu (by omega), rfl⟩
    · trivial
  · exact tlok_lks rfl _ (fun o ho => by have := a6 o ho; omega)
  · exact tlok_lks rfl _ (fun o ho => by have := a7 o ho; omega)
  · exact tlok_lks rfl _ (fun o ho => by have := a8 o ho; omega)
theorem tlok_Cs (hn : n ≤ 7) (hf : f ≤ 3) : ∀ (Ds : List CLD) (c : Nat) (X : List Lx), c + Ds.length ≤ 26 → isCs n f c Ds X → tlok X
  | [], c, X, _, h => by
    have : X = [] := h
    rw [this]
    trivial
  | D :: r, c, X, hc, h => by
    obtain ⟨Y, Z, e, ⟨ok, B, b, e2⟩, z⟩ := h
    rw [List.length_cons] at hc
    rw [e, e2]
    exact tlok_app (tlok_app (tlok_chd hn hf (by omega) ok) (tlok_B (fun _ => tlok_I0 hn hf) b)) (tlok_Cs hn hf r (c + 1) Z (by omega) z)
theorem tlok_fcts : ∀ (vs : List Nat) (k : Nat), k + vs.length ≤ 26 → (∀ x ∈ vs, x < 20) → tlok (fcts k vs)
  | [], _, _, _ => trivial
  | v :: r, k, hk, hv => by
    rw [List.length_cons] at hk
    have := hv v List.mem_cons_self
    refine tlok_app (X := fct k v) ?_ (tlok_fcts r (k + 1) (by omega) (fun x hx => hv x (List.mem_cons_of_mem _ hx)))
    exact ⟨okx_kw rfl, Or.inl rfl, okx_nm (Or.inr (Or.inl rfl)) (by omega), Or.inl rfl, okx_kw rfl, Or.inl rfl, okx_nu (by omega), Or.inr ⟨rfl, rfl⟩, okx_kw rfl, rfl⟩
end OKS
theorem kw_all : ∀ t, t < 44 → (t = 38 ∨ t = 39 ∨ t = 40 ∨ (c_sb.getD (c_kt.getD (t - 1) 0) [] = ((c_sb.getD (c_kt.getD (t - 1) 0) []).map Int32.toNatClampNeg).map Int32.ofNat ∧ ∀ x ∈ (c_sb.getD (c_kt.getD (t - 1) 0) []).map Int32.toNatClampNeg, x < 128)) := by decide +kernel
theorem lwn_kw {t m b : Nat} (h : t ≠ 38 ∧ t ≠ 39 ∧ t ≠ 40) : lwn (t, m, b) = (c_sb.getD (c_kt.getD (t - 1) 0) []).map Int32.toNatClampNeg ∧ lw (t, m, b) = c_sb.getD (c_kt.getD (t - 1) 0) [] := by
  constructor
  · unfold lwn
    split
    · rename_i e; exact absurd e h.1
    · rename_i e; exact absurd e h.2.1
    · rename_i e; exact absurd e h.2.2
    · rfl
  · unfold lw
    split
    · rename_i e; exact absurd e h.1
    · rename_i e; exact absurd e h.2.1
    · rename_i e; exact absurd e h.2.2
    · rfl
theorem kw1_lt {t : Nat} (h : kw1 t = true ∨ ks1 t = true) : t < 44 ∧ t ≠ 38 ∧ t ≠ 39 ∧ t ≠ 40 := by
  by_cases ht : t < 44
  · have := (by decide : ∀ t, t < 44 → (kw1 t = true ∨ ks1 t = true) → t < 44 ∧ t ≠ 38 ∧ t ≠ 39 ∧ t ≠ 40) t ht h
    exact this
  · exfalso
    rcases h with h | h
    · unfold kw1 at h
      rw [Bool.and_eq_true] at h
      have := Nat.le_of_ble_eq_true h.2
      omega
    · unfold ks1 at h
      simp only [Bool.or_eq_true, Nat.beq_eq] at h
      omega
theorem lw_lwn {x : Lx} (h : okx x) : lw x = (lwn x).map Int32.ofNat ∧ ∀ c ∈ lwn x, c < 128 := by
  obtain ⟨t, m, b⟩ := x
  have hd : ∀ m, m < 100 → ∀ c ∈ dgn m, 48 ≤ c ∧ c < 58 := fun m hm c hc => by
    unfold dgn at hc
    cases hb : Nat.blt m 10
    · rw [hb] at hc
      have : c = 48 + m / 10 ∨ c = 48 + m % 10 := by simpa using hc
      omega
    · rw [hb] at hc
      have hb : m + 1 ≤ 10 := Nat.le_of_ble_eq_true hb
      have : c = 48 + m := by simpa using hc
      omega
  rcases h with ⟨h1, c, k, hc, hk, h2⟩ | ⟨h1, h2⟩ | ⟨h1, h2⟩ | ⟨h1, h2⟩
  · have h1 : t = 38 := h1
    have h2 : m = c * 32 + k := h2
    subst h1 h2
    rw [lw_name (by omega)]
    show _ = List.map Int32.ofNat [(c * 32 + k) / 32, 97 + (c * 32 + k) % 32] ∧ ∀ x ∈ [(c * 32 + k) / 32, 97 + (c * 32 + k) % 32], x < 128
    rw [show (c * 32 + k) / 32 = c from by omega, show (c * 32 + k) % 32 = k from by omega]
    refine ⟨rfl, fun x hx => ?_⟩
    have : x = c ∨ x = 97 + k := by simpa using hx
    omega
  · have h1 : t = 39 := h1
    subst h1
    exact ⟨dg_dgn m, fun x hx => by have := hd m h2 x hx; omega⟩
  · have h1 : t = 40 := h1
    subst h1
    refine ⟨?_, fun x hx => ?_⟩
    · show [39, 84, 101, 120, 116, 32] ++ (dg m ++ [59, 32, 39]) = List.map Int32.ofNat ([39, 84, 101, 120, 116, 32] ++ (dgn m ++ [59, 32, 39]))
      rw [dg_dgn, List.map_append, List.map_append]
      rfl
    · have hx : x ∈ [39, 84, 101, 120, 116, 32] ++ (dgn m ++ [59, 32, 39]) := hx
      rcases List.mem_append.mp hx with q | q
      · exact (by decide : ∀ x ∈ [39, 84, 101, 120, 116, 32], x < 128) x q
      rcases List.mem_append.mp q with q | q
      · have := hd m h2 x q; omega
      · exact (by decide : ∀ x ∈ [59, 32, 39], x < 128) x q
  · have h3 := kw1_lt h1
    obtain ⟨e1, e2⟩ := lwn_kw (m := m) (b := b) h3.2
    rw [e1, e2]
    have := kw_all t h3.1
    have h4 := h3.2
    rcases this with q | q | q | q
    · exact absurd q h4.1
    · exact absurd q h4.2.1
    · exact absurd q h4.2.2
    · exact q
theorem lbs_lbn : ∀ {X : List Lx}, tlok X → lbs X = (lbn X).map Int32.ofNat ∧ ∀ c ∈ lbn X, c < 128
  | [], _ => ⟨rfl, fun c hc => absurd hc List.not_mem_nil⟩
  | x :: r, h => by
    have h1 : okx x ∧ tlok r := by
      cases r with
      | nil => exact ⟨h.1, trivial⟩
      | cons y r => exact ⟨h.1, h.2.2⟩
    obtain ⟨e1, e2⟩ := lw_lwn h1.1
    obtain ⟨e3, e4⟩ := lbs_lbn h1.2
    refine ⟨?_, fun c hc => ?_⟩
    · show (lw x ++ _) ++ lbs r = ((lwn x ++ _) ++ lbn r).map Int32.ofNat
      rw [e1, e3, List.map_append, List.map_append]
      cases Nat.beq x.2.2 1 <;> rfl
    · have hc : c ∈ (lwn x ++ (bif Nat.beq x.2.2 1 then [32] else [])) ++ lbn r := hc
      rcases List.mem_append.mp hc with q | q
      · rcases List.mem_append.mp q with q | q
        · exact e2 c q
        · cases hb : Nat.beq x.2.2 1
          · rw [hb] at q; cases q
          · rw [hb] at q
            rw [List.mem_singleton.mp q]; decide
      · exact e4 c q
