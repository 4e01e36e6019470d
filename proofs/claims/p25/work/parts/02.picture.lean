/-! A PICTURE OF THE HEAP, and what a run of linked code asks of it (no machine here).
Addresses: 0 is null; below 1000 constants (never written); from 1000 on what the run makes, in the order of making.
A picture: (next address, elements used, kind of each, length of each, numbers, references). Kind 0: nothing is known. -/
abbrev PH : Type := Nat × Nat × (Nat → Nat) × (Nat → Nat) × (Nat → Nat → Int32) × (Nat → Nat → Nat)
def p_nx (h : PH) : Nat := h.1
def p_us (h : PH) : Nat := h.2.1
def p_kd (h : PH) : Nat → Nat := h.2.2.1
def p_ln (h : PH) : Nat → Nat := h.2.2.2.1
def p_im (h : PH) : Nat → Nat → Int32 := h.2.2.2.2.1
def p_rm (h : PH) : Nat → Nat → Nat := h.2.2.2.2.2
/-- a number is written -/
def p_wi (h : PH) (a i : Nat) (v : Int32) : PH := (p_nx h, p_us h, p_kd h, p_ln h, (fun x j => if x = a ∧ j = i then v else p_im h x j), p_rm h)
/-- a reference is written -/
def p_wr (h : PH) (a i : Nat) (v : Nat) : PH := (p_nx h, p_us h, p_kd h, p_ln h, p_im h, (fun x j => if x = a ∧ j = i then v else p_rm h x j))
/-- something is made: its kind, its length, how many elements it costs -/
def p_new (h : PH) (k n u : Nat) : PH := (p_nx h + 1, p_us h + u, (fun x => if x = p_nx h then k else p_kd h x), (fun x => if x = p_nx h then n else p_ln h x), (fun x j => if x = p_nx h then 0 else p_im h x j), (fun x j => if x = p_nx h then 0 else p_rm h x j))
/-- bytes are copied -/
def p_cp (h : PH) (s sp d dp n : Nat) : PH := (p_nx h, p_us h, p_kd h, p_ln h, (fun x j => if x = d ∧ dp ≤ j ∧ j < dp + n then p_im h s (sp + (j - dp)) else p_im h x j), p_rm h)
/-- a row of numbers is as another one -/
def p_cl (h : PH) (d s : Nat) : PH := (p_nx h, p_us h, p_kd h, p_ln h, (fun x j => if x = d then p_im h s j else p_im h x j), p_rm h)
/-- the room of the whole run -/
def p_CN : Nat := 601086
def p_CS : Nat := 7301442
/-- the kinds of rows: of numbers, of bytes, of truth values, of references -/
def p_kI (k : Nat) : Bool := Nat.ble 100 k && Nat.ble k 119
def p_kB (k : Nat) : Bool := Nat.ble 120 k && Nat.ble k 299
def p_kZ (k : Nat) : Bool := Nat.beq k 300
def p_kR (k : Nat) : Bool := Nat.ble 310 k && Nat.ble k 329
/-- the kind of what a row of references holds -/
def p_el (k : Nat) : Nat := match k with
  | 310 => 16
  | 311 => 16
  | 312 => 6
  | 313 => 15
  | 314 => 100
  | 315 => 313
  | _ => 0
def p_in (j : Int32) (n : Nat) : Prop := 0 ≤ j.toInt ∧ j.toNatClampNeg < n
def onI (v : Option Value) (f : Int32 → Prop) : Prop := match v with
  | some (.int x) => f x
  | _ => False
def onR (v : Option Value) (f : Nat → Prop) : Prop := match v with
  | some (.ref x) => f x
  | _ => False
def onD (v : Option Value) (f : UInt64 → Prop) : Prop := match v with
  | some (.double x) => f x
  | _ => False
def onV (v : Option Value) (f : Prop) : Prop := match v with
  | none => f
  | _ => False
def t_I (st : List Value) (f : Int32 → List Value → Prop) : Prop := match st with
  | .int x :: r => f x r
  | _ => False
def t_II (st : List Value) (f : Int32 → Int32 → List Value → Prop) : Prop := match st with
  | .int y :: .int x :: r => f x y r
  | _ => False
def t_L (st : List Value) (f : Int64 → List Value → Prop) : Prop := match st with
  | .long x :: r => f x r
  | _ => False
def t_LL (st : List Value) (f : Int64 → Int64 → List Value → Prop) : Prop := match st with
  | .long y :: .long x :: r => f x y r
  | _ => False
def t_D (st : List Value) (f : UInt64 → List Value → Prop) : Prop := match st with
  | .double x :: r => f x r
  | _ => False
def t_DD (st : List Value) (f : UInt64 → UInt64 → List Value → Prop) : Prop := match st with
  | .double y :: .double x :: r => f x y r
  | _ => False
def t_R (st : List Value) (f : Nat → List Value → Prop) : Prop := match st with
  | .ref x :: r => f x r
  | _ => False
def t_RR (st : List Value) (f : Nat → Nat → List Value → Prop) : Prop := match st with
  | .ref y :: .ref x :: r => f x y r
  | _ => False
def t_RI (st : List Value) (f : Nat → Int32 → List Value → Prop) : Prop := match st with
  | .int j :: .ref a :: r => f a j r
  | _ => False
def t_RII (st : List Value) (f : Nat → Int32 → Int32 → List Value → Prop) : Prop := match st with
  | .int v :: .int j :: .ref a :: r => f a j v r
  | _ => False
def t_RIR (st : List Value) (f : Nat → Int32 → Nat → List Value → Prop) : Prop := match st with
  | .ref v :: .int j :: .ref a :: r => f a j v r
  | _ => False
def t_V1 (st : List Value) (f : Value → List Value → Prop) : Prop := match st with
  | .int v :: r => f (.int v) r
  | .ref v :: r => f (.ref v) r
  | _ => False
def t_cp (st : List Value) (f : Nat → Int32 → Nat → Int32 → Int32 → List Value → Prop) : Prop := match st with
  | .int n :: .int dp :: .ref d :: .int sp :: .ref s :: r => f s sp d dp n r
  | _ => False
def l_I (ls : List Slot) (k : Nat) (f : Int32 → Prop) : Prop := match ls[k]? with
  | some (.val (.int x)) => f x
  | _ => False
def l_L (ls : List Slot) (k : Nat) (f : Int64 → Prop) : Prop := match ls[k]? with
  | some (.val (.long x)) => f x
  | _ => False
def l_D (ls : List Slot) (k : Nat) (f : UInt64 → Prop) : Prop := match ls[k]? with
  | some (.val (.double x)) => f x
  | _ => False
def l_R (ls : List Slot) (k : Nat) (f : Nat → Prop) : Prop := match ls[k]? with
  | some (.val (.ref x)) => f x
  | _ => False
/-- the place ahead of k holds nothing of two places -/
def l_1 (ls : List Slot) : Nat → Bool
  | 0 => true
  | k + 1 => match ls[k]? with
    | some (.val (.long _)) => false
    | some (.val (.double _)) => false
    | some .second => false
    | _ => true
/-- what a look at the code shows -/
def l_ok (b : Bool) (P : Prop) : Prop := match b with
  | true => P
  | false => False
def l_if (b : Bool) (P Q : Prop) : Prop := match b with
  | true => P
  | false => Q
/-- one place is written -/
def l_s1 (ls : List Slot) (k : Nat) (v : Value) : List Slot := ls.set k (.val v)
/-- two places are written -/
def l_s2 (ls : List Slot) (k : Nat) (v : Value) : List Slot := (ls.set k (.val v)).set (k + 1) .unset
/-- a branch -/
def b_if (c : Jvm.ClassFile.Cond) (x : Int32) (A B : Prop) : Prop := match c with
  | .eq => if x = 0 then A else B
  | .ne => if x = 0 then B else A
  | .lt => if x < 0 then A else B
  | .ge => if x < 0 then B else A
  | .gt => if 0 < x then A else B
  | .le => if 0 < x then B else A
def b_ic (c : Jvm.ClassFile.Cond) (x y : Int32) (A B : Prop) : Prop := match c with
  | .eq => if x = y then A else B
  | .ne => if x = y then B else A
  | .lt => if x < y then A else B
  | .ge => if x < y then B else A
  | .gt => if y < x then A else B
  | .le => if y < x then B else A
def b_ac (c : Jvm.ClassFile.ACond) (x y : Nat) (A B : Prop) : Prop := match c with
  | .eq => if x = y then A else B
  | .ne => if x = y then B else A
/-- a switch -/
def b_sw (x : Int32) (K : Nat → Prop) (dflt : Nat) : Int → List Int → Prop
  | _, [] => K dflt
  | lo, o :: r => if x = Int32.ofInt lo then K o.toNat else b_sw x K dflt (lo + 1) r
/-- what is known of the places behind a jump: those that are read there -/
def l_keep : List Bool → List Slot → List Slot
  | true :: m, x :: l => x :: l_keep m l
  | false :: m, _ :: l => .unset :: l_keep m l
  | _, _ => []
def l_look (k : Nat) : List (Nat × List Bool) → List Slot → List Slot
  | [], ls => ls
  | (a, m) :: r, ls => bif Nat.beq a k then l_keep m ls else l_look k r ls
/-- the places at a method's entry -/
def l_ent (n : Nat) (as : List Value) : List Slot := as.map Slot.val ++ List.replicate (n - as.length) .unset
/-- what a method answers, on the stack -/
def r_on (t : Nat) (v : Option Value) (st : List Value) (K : List Value → Prop) : Prop := match t with
  | 0 => onV v (K st)
  | 1 => onI v (fun x => K (.int x :: st))
  | 2 => onR v (fun x => K (.ref x :: st))
  | _ => onD v (fun x => K (.double x :: st))
/-- how many places a stack takes -/
def c_sum (st : List Value) : Nat := (st.map fun v => v.category).sum
/-- a call: the arguments are taken from the stack -/
def c_do (k : Nat) (st : List Value) (Cl : Nat → List Value → (Option Value → PH → Prop) → Prop) (K : List Value → PH → Prop) : Prop :=
  l_ok (Nat.ble (z_na k) st.length && Nat.ble (c_sum (st.drop (z_na k))) 8 && (st.take (z_na k)).all (fun v => Nat.beq v.category 1)) (Cl k (st.take (z_na k)).reverse (fun v h1 => r_on (z_rt k) v (st.drop (z_na k)) (fun st1 => K st1 h1)))
/-- the one that is called: an object of the method's own kind -/
def c_rcv (k : Nat) (st : List Value) (h : PH) : Prop := match (st.take (z_na k)).reverse with
  | .ref a :: _ => p_kd h a = z_rk k ∧ ¬ a = 0
  | _ => False
/-- the one that is made: no null -/
def c_ini (k : Nat) (st : List Value) : Prop := match (st.take (z_na k)).reverse with
  | .ref a :: _ => 1000 ≤ a
  | _ => False
/-- a field is read, by what it holds -/
def f_get (t : Nat) (h : PH) (x j : Nat) : Value := match t with
  | 0 => .ref (p_rm h x j)
  | _ => .int (p_im h x j)
/-- a field is written -/
def f_put (t n : Nat) (st : List Value) (h : PH) (K : List Value → PH → Prop) : Prop := match t with
  | 0 => t_RR st (fun x v r => (p_kd h x = n / 100 ∧ 1000 ≤ x) ∧ K r (p_wr h x (n % 100) v))
  | 1 => t_RI st (fun x v r => (p_kd h x = n / 100 ∧ 1000 ≤ x) ∧ K r (p_wi h x (n % 100) v))
  | _ => t_RI st (fun x v r => ((p_kd h x = n / 100 ∧ 1000 ≤ x) ∧ (v = 0 ∨ v = 1)) ∧ K r (p_wi h x (n % 100) v))
/-- the kind of a row that is made -/
def a_new (t : Jvm.ClassFile.ArrayType) (K : Nat → Prop) : Prop := match t with
  | .int => K 100
  | .byte => K 120
  | .boolean => K 300
  | _ => False
/-- one instruction (jumps to places in the list of instructions; fields, methods, constants by the numbers of the tables) -/
def sm (i : Instr) (pc : Nat) (ls : List Slot) (st : List Value) (h : PH) (K : Nat → List Slot → List Value → PH → Prop) (Rt : Option Value → PH → Prop) (Cl : Nat → List Value → PH → (Option Value → PH → Prop) → Prop) : Prop := match i with
  | .nop => K (pc + 1) ls st h
  | .iconst n => K (pc + 1) ls (.int (Int32.ofInt n) :: st) h
  | .ldc2_w n => K (pc + 1) ls (.long (Int64.ofNat n) :: st) h
  | .dconst _ => K (pc + 1) ls (.double 0 :: st) h
  | .aconst_null => K (pc + 1) ls (.ref 0 :: st) h
  | .ldc a => K (pc + 1) ls (.ref a :: st) h
  | .iload k => l_I ls k (fun x => K (pc + 1) ls (.int x :: st) h)
  | .lload k => l_L ls k (fun x => K (pc + 1) ls (.long x :: st) h)
  | .dload k => l_D ls k (fun x => K (pc + 1) ls (.double x :: st) h)
  | .aload k => l_R ls k (fun x => K (pc + 1) ls (.ref x :: st) h)
  | .istore k => t_I st (fun x r => l_ok (Nat.blt k ls.length && l_1 ls k) (K (pc + 1) (l_s1 ls k (.int x)) r h))
  | .astore k => t_R st (fun x r => l_ok (Nat.blt k ls.length && l_1 ls k) (K (pc + 1) (l_s1 ls k (.ref x)) r h))
  | .lstore k => t_L st (fun x r => l_ok (Nat.blt (k + 1) ls.length && l_1 ls k) (K (pc + 1) (l_s2 ls k (.long x)) r h))
  | .dstore k => t_D st (fun x r => l_ok (Nat.blt (k + 1) ls.length && l_1 ls k) (K (pc + 1) (l_s2 ls k (.double x)) r h))
  | .iinc k n => l_I ls k (fun x => l_ok (l_1 ls k) (K (pc + 1) (l_s1 ls k (.int (x + Int32.ofInt n))) st h))
  | .iadd => t_II st (fun x y r => K (pc + 1) ls (.int (x + y) :: r) h)
  | .isub => t_II st (fun x y r => K (pc + 1) ls (.int (x - y) :: r) h)
  | .imul => t_II st (fun x y r => K (pc + 1) ls (.int (x * y) :: r) h)
  | .iand => t_II st (fun x y r => K (pc + 1) ls (.int (x &&& y) :: r) h)
  | .ior => t_II st (fun x y r => K (pc + 1) ls (.int (x ||| y) :: r) h)
  | .ixor => t_II st (fun x y r => K (pc + 1) ls (.int (x ^^^ y) :: r) h)
  | .ishl => t_II st (fun x y r => K (pc + 1) ls (.int (x <<< (y &&& 31)) :: r) h)
  | .ishr => t_II st (fun x y r => K (pc + 1) ls (.int (x >>> (y &&& 31)) :: r) h)
  | .iushr => t_II st (fun x y r => K (pc + 1) ls (.int ((x.toUInt32 >>> (y.toUInt32 &&& Int32.toUInt32 31)).toInt32) :: r) h)
  | .idiv => t_II st (fun x y r => (¬ y = 0) ∧ K (pc + 1) ls (.int (x / y) :: r) h)
  | .irem => t_II st (fun x y r => (¬ y = 0) ∧ K (pc + 1) ls (.int (x - x / y * y) :: r) h)
  | .ineg => t_I st (fun x r => K (pc + 1) ls (.int (-x) :: r) h)
  | .i2b => t_I st (fun x r => K (pc + 1) ls (.int x.toInt8.toInt32 :: r) h)
  | .i2c => t_I st (fun x r => K (pc + 1) ls (.int (x.toUInt32 % 65536).toInt32 :: r) h)
  | .i2l => t_I st (fun x r => K (pc + 1) ls (.long x.toInt64 :: r) h)
  | .i2d => t_I st (fun x r => K (pc + 1) ls (.double (FP.i2d x) :: r) h)
  | .l2i => t_L st (fun x r => K (pc + 1) ls (.int x.toInt32 :: r) h)
  | .lneg => t_L st (fun x r => K (pc + 1) ls (.long (-x) :: r) h)
  | .ladd => t_LL st (fun x y r => K (pc + 1) ls (.long (x + y) :: r) h)
  | .ldiv => t_LL st (fun x y r => (¬ y = 0) ∧ K (pc + 1) ls (.long (x / y) :: r) h)
  | .lrem => t_LL st (fun x y r => (¬ y = 0) ∧ K (pc + 1) ls (.long (x - x / y * y) :: r) h)
  | .lcmp => t_LL st (fun x y r => K (pc + 1) ls (.int (lg_cmp x y) :: r) h)
  | .ddiv => t_DD st (fun x y r => vf_n64 (FP.ddiv x y) ∧ K (pc + 1) ls (.double (FP.ddiv x y) :: r) h)
  | .dcmp op => t_DD st (fun x y r => K (pc + 1) ls (.int (Op.cmpValue (FP.dcmp x y) op) :: r) h)
  | .dup => t_V1 st (fun v r => K (pc + 1) ls (v :: v :: r) h)
  | .pop => t_V1 st (fun _ r => K (pc + 1) ls r h)
  | .dup_x1 => t_V1 st (fun v r => t_V1 r (fun w r2 => K (pc + 1) ls (v :: w :: v :: r2) h))
  | .dup2 => t_V1 st (fun v r => t_V1 r (fun w r2 => K (pc + 1) ls (v :: w :: v :: w :: r2) h))
  | .ifCond c t => t_I st (fun x r => b_if c x (K t.toNat ls r h) (K (pc + 1) ls r h))
  | .if_icmp c t => t_II st (fun x y r => b_ic c x y (K t.toNat ls r h) (K (pc + 1) ls r h))
  | .if_acmp c t => t_RR st (fun x y r => ((x = 0 ∨ p_kd h x = 16) ∧ (y = 0 ∨ p_kd h y = 16)) ∧ b_ac c x y (K t.toNat ls r h) (K (pc + 1) ls r h))
  | .ifnull t => t_R st (fun x r => (x = 0 ∨ ¬ p_kd h x = 0) ∧ if x = 0 then K t.toNat ls r h else K (pc + 1) ls r h)
  | .ifnonnull t => t_R st (fun x r => (x = 0 ∨ ¬ p_kd h x = 0) ∧ if x = 0 then K (pc + 1) ls r h else K t.toNat ls r h)
  | .goto t => K t.toNat ls st h
  | .tableswitch dflt lo _ offs => t_I st (fun x r => b_sw x (fun t => K t ls r h) dflt.toNat lo offs.toList)
  | .getfield n => t_R st (fun x r => (p_kd h x = n / 100 ∧ ¬ x = 0) ∧ K (pc + 1) ls (f_get (z_ft n) h x (n % 100) :: r) h)
  | .putfield n => f_put (z_ft n) n st h (fun r h1 => K (pc + 1) ls r h1)
  | .new k => (p_nx h + 1 ≤ p_CN ∧ p_us h + z_sl k ≤ p_CS) ∧ K (pc + 1) ls (.ref (p_nx h) :: st) (p_new h k 0 (z_sl k))
  | .newarray t => t_I st (fun n r => (¬ n < 0 ∧ p_nx h + 1 ≤ p_CN ∧ p_us h + n.toNatClampNeg ≤ p_CS) ∧ a_new t (fun k => K (pc + 1) ls (.ref (p_nx h) :: r) (p_new h k n.toNatClampNeg n.toNatClampNeg)))
  | .anewarray k => t_I st (fun n r => (¬ n < 0 ∧ p_nx h + 1 ≤ p_CN ∧ p_us h + n.toNatClampNeg ≤ p_CS) ∧ K (pc + 1) ls (.ref (p_nx h) :: r) (p_new h k n.toNatClampNeg n.toNatClampNeg))
  | .iaload => t_RI st (fun a j r => ((p_kI (p_kd h a) = true ∧ ¬ a = 0) ∧ p_in j (p_ln h a)) ∧ K (pc + 1) ls (.int (p_im h a j.toNatClampNeg) :: r) h)
  | .baload => t_RI st (fun a j r => (((p_kB (p_kd h a) = true ∨ p_kZ (p_kd h a) = true) ∧ ¬ a = 0) ∧ p_in j (p_ln h a)) ∧ K (pc + 1) ls (.int (p_im h a j.toNatClampNeg) :: r) h)
  | .aaload => t_RI st (fun a j r => ((p_kR (p_kd h a) = true ∧ ¬ a = 0) ∧ p_in j (p_ln h a)) ∧ K (pc + 1) ls (.ref (p_rm h a j.toNatClampNeg) :: r) h)
  | .iastore => t_RII st (fun a j v r => ((p_kd h a = 100 ∧ 1000 ≤ a) ∧ p_in j (p_ln h a)) ∧ K (pc + 1) ls r (p_wi h a j.toNatClampNeg v))
  | .bastore => t_RII st (fun a j v r => ((p_kd h a = 120 ∧ 1000 ≤ a) ∧ p_in j (p_ln h a)) ∧ K (pc + 1) ls r (p_wi h a j.toNatClampNeg v.toInt8.toInt32))
  | .castore => t_RII st (fun a j v r => (((p_kd h a = 300 ∧ 1000 ≤ a) ∧ (v = 0 ∨ v = 1)) ∧ p_in j (p_ln h a)) ∧ K (pc + 1) ls r (p_wi h a j.toNatClampNeg v))
  | .aastore => t_RIR st (fun a j v r => (((p_kR (p_kd h a) = true ∧ 1000 ≤ a) ∧ (p_kd h v = p_el (p_kd h a) ∧ ¬ v = 0)) ∧ p_in j (p_ln h a)) ∧ K (pc + 1) ls r (p_wr h a j.toNatClampNeg v))
  | .arraylength => t_R st (fun a r => (Nat.ble 100 (p_kd h a) = true ∧ ¬ a = 0) ∧ K (pc + 1) ls (.int (Int32.ofNat (p_ln h a)) :: r) h)
  | .checkcast _ => t_R st (fun a r => (p_kd h a = 120 ∧ 1000 ≤ a) ∧ K (pc + 1) ls (.ref a :: r) h)
  | .invokestatic k => l_if (Nat.beq k 900) (t_cp st (fun s sp d dp n r => l_ok (Nat.ble (c_sum r) 8) ((((p_kB (p_kd h s) = true ∧ ¬ s = 0) ∧ (p_kd h d = 120 ∧ 1000 ≤ d)) ∧ (0 ≤ sp.toInt ∧ 0 ≤ dp.toInt ∧ 0 ≤ n.toInt) ∧ sp.toNatClampNeg + n.toNatClampNeg ≤ p_ln h s ∧ dp.toNatClampNeg + n.toNatClampNeg ≤ p_ln h d) ∧ K (pc + 1) ls r (p_cp h s sp.toNatClampNeg d dp.toNatClampNeg n.toNatClampNeg)))) (c_do k st (fun k a Kc => Cl k a h Kc) (fun st1 h1 => K (pc + 1) ls st1 h1))
  | .invokevirtual k => l_if (Nat.beq k 901) (t_R st (fun a r => l_ok (Nat.ble (c_sum r) 8) (((p_kd h a = 120 ∧ 1000 ≤ a) ∧ p_nx h + 1 ≤ p_CN ∧ p_us h + p_ln h a ≤ p_CS) ∧ K (pc + 1) ls (.ref (p_nx h) :: r) (p_cl (p_new h 120 (p_ln h a) (p_ln h a)) (p_nx h) a)))) (c_rcv k st h ∧ c_do k st (fun k a Kc => Cl k a h Kc) (fun st1 h1 => K (pc + 1) ls st1 h1))
  | .invokespecial k => l_if (Nat.beq k 902) (t_R st (fun a r => l_ok (Nat.ble (c_sum r) 8) (1000 ≤ a ∧ K (pc + 1) ls r h))) (c_ini k st ∧ c_do k st (fun k a Kc => Cl k a h Kc) (fun st1 h1 => K (pc + 1) ls st1 h1))
  | .ireturn => t_I st (fun x r => l_ok r.isEmpty (Rt (some (.int x)) h))
  | .areturn => t_R st (fun x r => l_ok r.isEmpty (Rt (some (.ref x)) h))
  | .dreturn => t_D st (fun x r => l_ok r.isEmpty (Rt (some (.double x)) h))
  | .return_ => l_ok st.isEmpty (Rt none h)
  | _ => False
/-- what is known at a place of a method's code -/
def l_kl (k pc : Nat) (ls : List Slot) : List Slot := l_look pc (z_lv k) ls
/-- what is answered fits its type -/
def r_ok (t : Nat) (v : Option Value) (P : Prop) : Prop := match t with
  | 0 => P
  | 1 => onI v (fun x => (x = 0 ∨ x = 1) ∧ P)
  | 2 => onI v (fun x => (x.toUInt32 % 65536).toInt32 = x ∧ P)
  | _ => onI v (fun x => x.toInt8.toInt32 = x ∧ P)
theorem l_ok_mono {b : Bool} {P Q : Prop} (h : P → Q) : l_ok b P → l_ok b Q := by cases b; exact id; exact h
theorem l_if_mono {b : Bool} {P Q P1 Q1 : Prop} (h : P → P1) (h1 : Q → Q1) : l_if b P Q → l_if b P1 Q1 := by cases b; exact h1; exact h
theorem and_mono {A P Q : Prop} (h : P → Q) : A ∧ P → A ∧ Q := fun q => ⟨q.1, h q.2⟩
theorem t_I_mono {st : List Value} {f g : Int32 → List Value → Prop} (h : ∀ x r, f x r → g x r) : t_I st f → t_I st g := by unfold t_I; split; exact h _ _; exact id
theorem t_II_mono {st : List Value} {f g : Int32 → Int32 → List Value → Prop} (h : ∀ x y r, f x y r → g x y r) : t_II st f → t_II st g := by unfold t_II; split; exact h _ _ _; exact id
theorem t_L_mono {st : List Value} {f g : Int64 → List Value → Prop} (h : ∀ x r, f x r → g x r) : t_L st f → t_L st g := by unfold t_L; split; exact h _ _; exact id
theorem t_LL_mono {st : List Value} {f g : Int64 → Int64 → List Value → Prop} (h : ∀ x y r, f x y r → g x y r) : t_LL st f → t_LL st g := by unfold t_LL; split; exact h _ _ _; exact id
theorem t_D_mono {st : List Value} {f g : UInt64 → List Value → Prop} (h : ∀ x r, f x r → g x r) : t_D st f → t_D st g := by unfold t_D; split; exact h _ _; exact id
theorem t_DD_mono {st : List Value} {f g : UInt64 → UInt64 → List Value → Prop} (h : ∀ x y r, f x y r → g x y r) : t_DD st f → t_DD st g := by unfold t_DD; split; exact h _ _ _; exact id
theorem t_R_mono {st : List Value} {f g : Nat → List Value → Prop} (h : ∀ x r, f x r → g x r) : t_R st f → t_R st g := by unfold t_R; split; exact h _ _; exact id
theorem t_RR_mono {st : List Value} {f g : Nat → Nat → List Value → Prop} (h : ∀ x y r, f x y r → g x y r) : t_RR st f → t_RR st g := by unfold t_RR; split; exact h _ _ _; exact id
theorem t_RI_mono {st : List Value} {f g : Nat → Int32 → List Value → Prop} (h : ∀ x y r, f x y r → g x y r) : t_RI st f → t_RI st g := by unfold t_RI; split; exact h _ _ _; exact id
theorem t_RII_mono {st : List Value} {f g : Nat → Int32 → Int32 → List Value → Prop} (h : ∀ x y z r, f x y z r → g x y z r) : t_RII st f → t_RII st g := by unfold t_RII; split; exact h _ _ _ _; exact id
theorem t_RIR_mono {st : List Value} {f g : Nat → Int32 → Nat → List Value → Prop} (h : ∀ x y z r, f x y z r → g x y z r) : t_RIR st f → t_RIR st g := by unfold t_RIR; split; exact h _ _ _ _; exact id
theorem t_V1_mono {st : List Value} {f g : Value → List Value → Prop} (h : ∀ x r, f x r → g x r) : t_V1 st f → t_V1 st g := by unfold t_V1; split; exact h _ _; exact h _ _; exact id
theorem t_cp_mono {st : List Value} {f g : Nat → Int32 → Nat → Int32 → Int32 → List Value → Prop} (h : ∀ a b c e i r, f a b c e i r → g a b c e i r) : t_cp st f → t_cp st g := by unfold t_cp; split; exact h _ _ _ _ _ _; exact id
theorem l_I_mono {ls : List Slot} {k : Nat} {f g : Int32 → Prop} (h : ∀ x, f x → g x) : l_I ls k f → l_I ls k g := by unfold l_I; split; exact h _; exact id
theorem l_L_mono {ls : List Slot} {k : Nat} {f g : Int64 → Prop} (h : ∀ x, f x → g x) : l_L ls k f → l_L ls k g := by unfold l_L; split; exact h _; exact id
theorem l_D_mono {ls : List Slot} {k : Nat} {f g : UInt64 → Prop} (h : ∀ x, f x → g x) : l_D ls k f → l_D ls k g := by unfold l_D; split; exact h _; exact id
theorem l_R_mono {ls : List Slot} {k : Nat} {f g : Nat → Prop} (h : ∀ x, f x → g x) : l_R ls k f → l_R ls k g := by unfold l_R; split; exact h _; exact id
theorem ite_mono {c : Prop} [Decidable c] {A B A1 B1 : Prop} (h : A → A1) (h1 : B → B1) : (if c then A else B) → (if c then A1 else B1) := by split; exact h; exact h1
theorem b_if_mono {c : Jvm.ClassFile.Cond} {x : Int32} {A B A1 B1 : Prop} (h : A → A1) (h1 : B → B1) : b_if c x A B → b_if c x A1 B1 := by cases c <;> first | exact ite_mono h h1 | exact ite_mono h1 h
theorem b_ic_mono {c : Jvm.ClassFile.Cond} {x y : Int32} {A B A1 B1 : Prop} (h : A → A1) (h1 : B → B1) : b_ic c x y A B → b_ic c x y A1 B1 := by cases c <;> first | exact ite_mono h h1 | exact ite_mono h1 h
theorem b_ac_mono {c : Jvm.ClassFile.ACond} {x y : Nat} {A B A1 B1 : Prop} (h : A → A1) (h1 : B → B1) : b_ac c x y A B → b_ac c x y A1 B1 := by cases c <;> first | exact ite_mono h h1 | exact ite_mono h1 h
theorem b_sw_mono {x : Int32} {K K1 : Nat → Prop} {dflt : Nat} (h : ∀ t, K t → K1 t) : ∀ {lo : Int} {l : List Int}, b_sw x K dflt lo l → b_sw x K1 dflt lo l
  | _, [] => h _
  | _, _ :: _ => ite_mono (h _) (b_sw_mono h)
theorem onI_mono {v : Option Value} {f g : Int32 → Prop} (h : ∀ x, f x → g x) : onI v f → onI v g := by unfold onI; split; exact h _; exact id
theorem onR_mono {v : Option Value} {f g : Nat → Prop} (h : ∀ x, f x → g x) : onR v f → onR v g := by unfold onR; split; exact h _; exact id
theorem onD_mono {v : Option Value} {f g : UInt64 → Prop} (h : ∀ x, f x → g x) : onD v f → onD v g := by unfold onD; split; exact h _; exact id
theorem onV_mono {v : Option Value} {f g : Prop} (h : f → g) : onV v f → onV v g := by unfold onV; split; exact h; exact id
theorem r_on_mono {t : Nat} {v : Option Value} {st : List Value} {K K1 : List Value → Prop} (h : ∀ s, K s → K1 s) : r_on t v st K → r_on t v st K1 := by
  unfold r_on
  split
  · exact onV_mono (h _)
  · exact onI_mono (fun _ => h _)
  · exact onR_mono (fun _ => h _)
  · exact onD_mono (fun _ => h _)
theorem c_do_mono {k : Nat} {st : List Value} {Cl Cl1 : Nat → List Value → (Option Value → PH → Prop) → Prop} {K K1 : List Value → PH → Prop} (hC : ∀ k a Kc Kc1, (∀ v h, Kc v h → Kc1 v h) → Cl k a Kc → Cl1 k a Kc1) (h : ∀ s h1, K s h1 → K1 s h1) : c_do k st Cl K → c_do k st Cl1 K1 :=
  l_ok_mono (hC _ _ _ _ (fun _ _ => r_on_mono (fun _ => h _ _)))
theorem f_put_mono {t n : Nat} {st : List Value} {h : PH} {K K1 : List Value → PH → Prop} (hK : ∀ r h1, K r h1 → K1 r h1) : f_put t n st h K → f_put t n st h K1 := by
  unfold f_put
  split
  · exact t_RR_mono (fun _ _ _ => and_mono (hK _ _))
  · exact t_RI_mono (fun _ _ _ => and_mono (hK _ _))
  · exact t_RI_mono (fun _ _ _ => and_mono (hK _ _))
theorem a_new_mono {t : Jvm.ClassFile.ArrayType} {K K1 : Nat → Prop} (h : ∀ k, K k → K1 k) : a_new t K → a_new t K1 := by cases t <;> first | exact h _ | exact id
theorem r_ok_mono {t : Nat} {v : Option Value} {P P1 : Prop} (h : P → P1) : r_ok t v P → r_ok t v P1 := by
  unfold r_ok
  split
  · exact h
  · exact onI_mono (fun _ => and_mono h)
  · exact onI_mono (fun _ => and_mono h)
  · exact onI_mono (fun _ => and_mono h)
set_option maxHeartbeats 4000000 in
theorem sm_mono {i : Instr} {pc : Nat} {ls : List Slot} {st : List Value} {h : PH} {K K1 : Nat → List Slot → List Value → PH → Prop} {Rt Rt1 : Option Value → PH → Prop} {Cl Cl1 : Nat → List Value → PH → (Option Value → PH → Prop) → Prop}
    (hK : ∀ a b c e, K a b c e → K1 a b c e) (hR : ∀ v h, Rt v h → Rt1 v h) (hC : ∀ k a h1 Kc Kc1, (∀ v h, Kc v h → Kc1 v h) → Cl k a h1 Kc → Cl1 k a h1 Kc1) (H : sm i pc ls st h K Rt Cl) : sm i pc ls st h K1 Rt1 Cl1 := by
  have hD : ∀ {k : Nat}, c_do k st (fun k a Kc => Cl k a h Kc) (fun st1 h1 => K (pc + 1) ls st1 h1) → c_do k st (fun k a Kc => Cl1 k a h Kc) (fun st1 h1 => K1 (pc + 1) ls st1 h1) := fun q => c_do_mono (fun _ _ _ _ => hC _ _ _ _ _) (fun _ _ => hK _ _ _ _) q
  cases i <;> first
    | exact (show False from H).elim
    | exact hK _ _ _ _ H
    | exact l_I_mono (fun _ => hK _ _ _ _) H
    | exact l_L_mono (fun _ => hK _ _ _ _) H
    | exact l_D_mono (fun _ => hK _ _ _ _) H
    | exact l_R_mono (fun _ => hK _ _ _ _) H
    | exact l_I_mono (fun _ => l_ok_mono (hK _ _ _ _)) H
    | exact t_I_mono (fun _ _ => hK _ _ _ _) H
    | exact t_II_mono (fun _ _ _ => hK _ _ _ _) H
    | exact t_II_mono (fun _ _ _ => and_mono (hK _ _ _ _)) H
    | exact t_I_mono (fun _ _ => l_ok_mono (hK _ _ _ _)) H
    | exact t_R_mono (fun _ _ => l_ok_mono (hK _ _ _ _)) H
    | exact t_L_mono (fun _ _ => l_ok_mono (hK _ _ _ _)) H
    | exact t_D_mono (fun _ _ => l_ok_mono (hK _ _ _ _)) H
    | exact t_L_mono (fun _ _ => hK _ _ _ _) H
    | exact t_LL_mono (fun _ _ _ => hK _ _ _ _) H
    | exact t_LL_mono (fun _ _ _ => and_mono (hK _ _ _ _)) H
    | exact t_DD_mono (fun _ _ _ => hK _ _ _ _) H
    | exact t_DD_mono (fun _ _ _ => and_mono (hK _ _ _ _)) H
    | exact t_V1_mono (st := st) (f := fun v r => K (pc + 1) ls (v :: v :: r) h) (g := fun v r => K1 (pc + 1) ls (v :: v :: r) h) (fun _ _ => hK _ _ _ _) H
    | exact t_V1_mono (st := st) (f := fun _ r => K (pc + 1) ls r h) (g := fun _ r => K1 (pc + 1) ls r h) (fun _ _ => hK _ _ _ _) H
    | exact t_V1_mono (st := st) (f := fun v r => t_V1 r (fun w r2 => K (pc + 1) ls (v :: w :: v :: r2) h)) (g := fun v r => t_V1 r (fun w r2 => K1 (pc + 1) ls (v :: w :: v :: r2) h)) (fun _ _ => t_V1_mono (fun _ _ => hK _ _ _ _)) H
    | exact t_V1_mono (st := st) (f := fun v r => t_V1 r (fun w r2 => K (pc + 1) ls (v :: w :: v :: w :: r2) h)) (g := fun v r => t_V1 r (fun w r2 => K1 (pc + 1) ls (v :: w :: v :: w :: r2) h)) (fun _ _ => t_V1_mono (fun _ _ => hK _ _ _ _)) H
    | exact t_I_mono (fun _ _ => b_if_mono (hK _ _ _ _) (hK _ _ _ _)) H
    | exact t_II_mono (fun _ _ _ => b_ic_mono (hK _ _ _ _) (hK _ _ _ _)) H
    | exact t_RR_mono (fun _ _ _ => and_mono (b_ac_mono (hK _ _ _ _) (hK _ _ _ _))) H
    | exact t_R_mono (fun _ _ => and_mono (ite_mono (hK _ _ _ _) (hK _ _ _ _))) H
    | exact t_I_mono (fun _ _ => b_sw_mono (fun _ => hK _ _ _ _)) H
    | exact t_R_mono (fun _ _ => and_mono (hK _ _ _ _)) H
    | exact f_put_mono (fun _ _ => hK _ _ _ _) H
    | exact and_mono (hK _ _ _ _) H
    | exact t_I_mono (fun _ _ => and_mono (a_new_mono (fun _ => hK _ _ _ _))) H
    | exact t_I_mono (fun _ _ => and_mono (hK _ _ _ _)) H
    | exact t_RI_mono (fun _ _ _ => and_mono (hK _ _ _ _)) H
    | exact t_RII_mono (fun _ _ _ _ => and_mono (hK _ _ _ _)) H
    | exact t_RIR_mono (fun _ _ _ _ => and_mono (hK _ _ _ _)) H
    | exact l_if_mono (t_cp_mono (fun _ _ _ _ _ _ => l_ok_mono (and_mono (hK _ _ _ _)))) hD H
    | exact l_if_mono (t_R_mono (fun _ _ => l_ok_mono (and_mono (hK _ _ _ _)))) (and_mono hD) H
    | exact hR _ _ H
    | exact t_I_mono (fun _ _ => l_ok_mono (hR _ _)) H
    | exact t_R_mono (fun _ _ => l_ok_mono (hR _ _)) H
    | exact t_D_mono (fun _ _ => l_ok_mono (hR _ _)) H
    | exact l_ok_mono (hR _ _) H
abbrev Wp : Type := Nat → Nat → Nat → List Slot → List Value → PH → (Option Value → PH → Prop) → Prop
/-- a step, with P for what is asked of every state that comes; d: how deep calls may go -/
def Sem (P : Wp) : Wp := fun d k pc ls st h Q => sm ((z_code k).getD pc .athrow) pc ls st h (fun pc1 ls1 st1 h1 => P d k pc1 (l_kl k pc1 ls1) st1 h1 Q) (fun v h1 => r_ok (z_nr k) v (Q v h1))
  (fun k1 a h1 Kc => match d with
    | 0 => False
    | d1 + 1 => ∃ R : Option Value → PH → Prop, P d1 k1 0 (l_ent (z_ml k1) a) [] h1 R ∧ ∀ v h2, R v h2 → Kc v h2)
/-- the run from here ends, with Q -/
def wp : Wp := fun d k pc ls st h Q => ∀ P : Wp, (∀ d k pc ls st h Q, Sem P d k pc ls st h Q → P d k pc ls st h Q) → P d k pc ls st h Q
/-- a call's run -/
def wpc (d k : Nat) (a : List Value) (h : PH) (Q : Option Value → PH → Prop) : Prop := match d with
  | 0 => False
  | d1 + 1 => wp d1 k 0 (l_ent (z_ml k) a) [] h Q
theorem wp_fold {d k pc : Nat} {ls : List Slot} {st : List Value} {h : PH} {Q : Option Value → PH → Prop} (H : Sem wp d k pc ls st h Q) : wp d k pc ls st h Q := by
  intro P hP
  refine hP _ _ _ _ _ _ _ ?_
  refine sm_mono (fun a b c e q => q P hP) (fun _ _ q => q) (fun k1 a h1 Kc Kc1 hk q => ?_) H
  cases d with
  | zero => exact q
  | succ d =>
    obtain ⟨R, q1, q2⟩ := q
    exact ⟨R, q1 P hP, fun v h2 q3 => hk _ _ (q2 v h2 q3)⟩
theorem wp_unf {d k pc : Nat} {ls : List Slot} {st : List Value} {h : PH} {Q : Option Value → PH → Prop} (H : wp d k pc ls st h Q) : Sem wp d k pc ls st h Q := by
  refine H (Sem wp) (fun d k pc ls st h Q q => ?_)
  refine sm_mono (fun a b c e q => wp_fold q) (fun _ _ q => q) (fun k1 a h1 Kc Kc1 hk q => ?_) q
  cases d with
  | zero => exact q
  | succ d =>
    obtain ⟨R, q1, q2⟩ := q
    exact ⟨R, wp_fold q1, fun v h2 q3 => hk _ _ (q2 v h2 q3)⟩
theorem wp_mono {d k pc : Nat} {ls : List Slot} {st : List Value} {h : PH} {Q Q1 : Option Value → PH → Prop} (hq : ∀ v h, Q v h → Q1 v h) (H : wp d k pc ls st h Q) : wp d k pc ls st h Q1 := by
  refine H (fun d k pc ls st h Q => ∀ Q1 : Option Value → PH → Prop, (∀ v h, Q v h → Q1 v h) → wp d k pc ls st h Q1) (fun d k pc ls st h Q q Q1 hq => ?_) Q1 hq
  refine wp_fold (sm_mono (fun a b c e q => q Q1 hq) (fun v h q => r_ok_mono (hq v h) q) (fun k1 a h1 Kc Kc1 hk q => ?_) q)
  cases d with
  | zero => exact q
  | succ d =>
    obtain ⟨R, q1, q2⟩ := q
    exact ⟨R, q1 R (fun _ _ z => z), fun v h2 q3 => hk _ _ (q2 v h2 q3)⟩
theorem wpc_mono {d k : Nat} {a : List Value} {h : PH} {Q Q1 : Option Value → PH → Prop} (hq : ∀ v h, Q v h → Q1 v h) (H : wpc d k a h Q) : wpc d k a h Q1 := by
  cases d with
  | zero => exact H
  | succ d => exact wp_mono hq H
/-- n steps at once; at the places sp it stops -/
def Sn : Nat → List Nat → Wp
  | 0, _ => wp
  | n + 1, sp => fun d k pc ls st h Q => sm ((z_code k).getD pc .athrow) pc ls st h (fun pc1 ls1 st1 h1 => l_if (sp.elem pc1) (wp d k pc1 (l_kl k pc1 ls1) st1 h1 Q) (Sn n sp d k pc1 (l_kl k pc1 ls1) st1 h1 Q)) (fun v h1 => r_ok (z_nr k) v (Q v h1)) (fun k1 a h1 Kc => wpc d k1 a h1 Kc)
theorem wp_Sn : ∀ (n : Nat) (sp : List Nat) (d k pc : Nat) (ls : List Slot) (st : List Value) (h : PH) (Q : Option Value → PH → Prop), wp d k pc ls st h Q ↔ Sn n sp d k pc ls st h Q
  | 0, _, _, _, _, _, _, _, _ => Iff.rfl
  | n + 1, sp, d, k, pc, ls, st, h, Q => by
    rw [Sn]
    constructor
    · intro H
      refine sm_mono (fun a b c e q => ?_) (fun _ _ q => q) (fun k1 a h1 Kc Kc1 hk q => ?_) (wp_unf H)
      · cases sp.elem a
        · exact (wp_Sn n sp _ _ _ _ _ _ _).mp q
        · exact q
      · cases d with
        | zero => exact q
        | succ d =>
          obtain ⟨R, q1, q2⟩ := q
          exact wp_mono (fun v h2 q3 => hk _ _ (q2 v h2 q3)) q1
    · intro H
      refine wp_fold (sm_mono (fun a b c e q => ?_) (fun _ _ q => q) (fun k1 a h1 Kc Kc1 hk q => ?_) H)
      · cases hb : sp.elem a
        · rw [hb] at q
          exact (wp_Sn n sp _ _ _ _ _ _ _).mpr q
        · rw [hb] at q
          exact q
      · cases d with
        | zero => exact q
        | succ d => exact ⟨_, q, hk⟩
def CI (d k : Nat) (a : List Value) (h : PH) (Q : Int32 → PH → Prop) : Prop := wpc d k a h (fun v h1 => onI v (fun x => Q x h1))
def CR (d k : Nat) (a : List Value) (h : PH) (Q : Nat → PH → Prop) : Prop := wpc d k a h (fun v h1 => onR v (fun x => Q x h1))
def CD (d k : Nat) (a : List Value) (h : PH) (Q : UInt64 → PH → Prop) : Prop := wpc d k a h (fun v h1 => onD v (fun x => Q x h1))
def CV (d k : Nat) (a : List Value) (h : PH) (Q : PH → Prop) : Prop := wpc d k a h (fun v h1 => onV v (Q h1))
