/-! The code as it is read (decode) and the linked code say the same: a test that the kernel runs over all methods. -/
def n_pc (raw : List (Nat × Instr × Nat)) (j : Nat) : Nat := (raw.getD j (99999, .nop, 0)).1
def e_jt (raw : List (Nat × Instr × Nat)) (pc : Nat) (off t : Int) : Bool := decide (0 ≤ t) && decide (t.toNat < raw.length) && decide ((pc : Int) + off = (n_pc raw t.toNat : Int))
def e_jts (raw : List (Nat × Instr × Nat)) (pc : Nat) : List Int → List Int → Bool
  | [], [] => true
  | a :: l, b :: m => e_jt raw pc a b && e_jts raw pc l m
  | _, _ => false
def e_ld (i r : Instr) (len : Nat) : Bool := match i with
  | .iload k => match r with
    | .iload j => Nat.beq j k && Nat.beq len 2
    | .iload_n j => Nat.beq j.val k && Nat.beq len 1
    | _ => false
  | .lload k => match r with
    | .lload j => Nat.beq j k && Nat.beq len 2
    | .lload_n j => Nat.beq j.val k && Nat.beq len 1
    | _ => false
  | .aload k => match r with
    | .aload j => Nat.beq j k && Nat.beq len 2
    | .aload_n j => Nat.beq j.val k && Nat.beq len 1
    | _ => false
  | .istore k => match r with
    | .istore j => Nat.beq j k && Nat.beq len 2
    | .istore_n j => Nat.beq j.val k && Nat.beq len 1
    | _ => false
  | .lstore k => match r with
    | .lstore j => Nat.beq j k && Nat.beq len 2
    | .lstore_n j => Nat.beq j.val k && Nat.beq len 1
    | _ => false
  | .astore k => match r with
    | .astore j => Nat.beq j k && Nat.beq len 2
    | .astore_n j => Nat.beq j.val k && Nat.beq len 1
    | _ => false
  | _ => false
/-- constants -/
def e_cn (o : Nat) (n : Int) (r : Instr) (len : Nat) : Bool := match r with
  | .iconst m => decide (n = m) && Nat.beq len 1
  | .bipush m => decide ((Int8.ofInt m).toInt32 = Int32.ofInt n) && Nat.beq len 2
  | .sipush m => decide ((Int16.ofInt m).toInt32 = Int32.ofInt n) && Nat.beq len 3
  | .ldc x => z_lk.any (fun q => Nat.beq q.1 o && Nat.beq q.2.1 x && decide (q.2.2.1 = n)) && Nat.beq len 2
  | .ldc_w x => z_lk.any (fun q => Nat.beq q.1 o && Nat.beq q.2.1 x && decide (q.2.2.1 = n)) && Nat.beq len 3
  | .getstatic x => z_lgi.any (fun q => Nat.beq q.1 o && Nat.beq q.2.1 x && decide (q.2.2.1 = n)) && Nat.beq len 3
  | _ => false
def e_lx (o x k : Nat) : Bool := z_lx.any (fun q => Nat.beq q.1 o && Nat.beq q.2.1 x && Nat.beq q.2.2.1 k)
def e_lm (o x k : Nat) (hows : List Nat) : Bool := z_lm.any (fun q => Nat.beq q.1 o && Nat.beq q.2.1 x && Nat.beq q.2.2.1 k && hows.elem q.2.2.2.1)
def e_rel (o : Nat) (raw : List (Nat × Instr × Nat)) (pc len : Nat) (r i : Instr) : Bool := match i with
  | .athrow => true
  | .iconst n => e_cn o n r len
  | .ldc2_w n => match r with
    | .lconst m => Nat.beq m.val n && Nat.beq len 1
    | .ldc2_w x => z_ll.any (fun q => Nat.beq q.1 o && Nat.beq q.2.1 x && Nat.beq q.2.2.1 n) && Nat.beq len 3
    | _ => false
  | .dconst _ => match r with
    | .dconst m => Nat.beq m.val 0 && Nat.beq len 1
    | _ => false
  | .ldc a => match r with
    | .ldc x => z_ls.any (fun q => Nat.beq q.1 o && Nat.beq q.2.1 x && Nat.beq q.2.2.1 a) && Nat.beq len 2
    | .getstatic x => (z_lg.any (fun q => Nat.beq q.1 o && Nat.beq q.2.1 x && Nat.beq q.2.2.1 a) || z_lgn.any (fun q => Nat.beq q.1 o && Nat.beq q.2.1 x && Nat.beq q.2.2.1 a)) && Nat.beq len 3
    | _ => false
  | .iload k => e_ld (.iload k) r len
  | .lload k => e_ld (.lload k) r len
  | .aload k => e_ld (.aload k) r len
  | .istore k => e_ld (.istore k) r len
  | .lstore k => e_ld (.lstore k) r len
  | .astore k => e_ld (.astore k) r len
  | .iinc k n => match r with
    | .iinc j m => Nat.beq j k && decide (m = n) && Nat.beq len 3
    | _ => false
  | .ifCond c t => match r with
    | .ifCond c1 off => decide (c = c1) && e_jt raw pc off t && Nat.beq len 3
    | _ => false
  | .if_icmp c t => match r with
    | .if_icmp c1 off => decide (c = c1) && e_jt raw pc off t && Nat.beq len 3
    | _ => false
  | .if_acmp c t => match r with
    | .if_acmp c1 off => decide (c = c1) && e_jt raw pc off t && Nat.beq len 3
    | _ => false
  | .ifnull t => match r with
    | .ifnull off => e_jt raw pc off t && Nat.beq len 3
    | _ => false
  | .ifnonnull t => match r with
    | .ifnonnull off => e_jt raw pc off t && Nat.beq len 3
    | _ => false
  | .goto t => match r with
    | .goto off => e_jt raw pc off t && Nat.beq len 3
    | _ => false
  | .tableswitch d lo hi ts => match r with
    | .tableswitch d1 lo1 hi1 offs => decide (lo = lo1) && decide (hi = hi1) && decide (0 ≤ lo) && decide (hi < 100) && decide ((offs.toList.length : Int) = hi - lo + 1) && e_jt raw pc d1 d && e_jts raw pc offs.toList ts.toList
    | _ => false
  | .getfield n => match r with
    | .getfield x => z_lf.any (fun q => Nat.beq q.1 o && Nat.beq q.2.1 x && Nat.beq q.2.2.1 n) && Nat.beq len 3
    | _ => false
  | .putfield n => match r with
    | .putfield x => z_lf.any (fun q => Nat.beq q.1 o && Nat.beq q.2.1 x && Nat.beq q.2.2.1 n) && Nat.beq len 3
    | _ => false
  | .new k => match r with
    | .new x => z_lc.any (fun q => Nat.beq q.1 o && Nat.beq q.2.1 x && Nat.beq q.2.2.1 k) && Nat.beq len 3
    | _ => false
  | .anewarray k => match r with
    | .anewarray x => z_la.any (fun q => Nat.beq q.1 o && Nat.beq q.2.1 x && Nat.beq q.2.2.1 k) && Nat.beq len 3
    | _ => false
  | .newarray t => match r with
    | .newarray t1 => decide (t = t1) && Nat.beq len 2
    | _ => false
  | .castore => decide (r = .bastore) && Nat.beq len 1
  | .checkcast _ => match r with
    | .checkcast _ => Nat.beq len 3
    | _ => false
  | .invokestatic k => match r with
    | .invokestatic x => (match Nat.beq k 900 with
      | true => e_lx o x 900
      | false => e_lm o x k [3, 4]) && Nat.beq len 3
    | _ => false
  | .invokevirtual k => match r with
    | .invokevirtual x => (match Nat.beq k 901 with
      | true => e_lx o x 901
      | false => e_lm o x k [0, 1, 2, 8]) && Nat.beq len 3
    | .invokespecial x => e_lm o x k [7] && Nat.beq len 3 && !Nat.beq k 901
    | _ => false
  | .invokespecial k => match r with
    | .invokespecial x => (match Nat.beq k 902 with
      | true => e_lx o x 902
      | false => e_lm o x k [5, 6]) && Nat.beq len 3
    | _ => false
  | i => decide (i = r) && Nat.beq len 1
/-- nothing comes behind it -/
def e_end (i : Instr) : Bool := match i with
  | .athrow => true
  | .goto _ => true
  | .ireturn => true
  | .areturn => true
  | .dreturn => true
  | .return_ => true
  | .tableswitch .. => true
  | _ => false
def e_at (o : Nat) (raw : List (Nat × Instr × Nat)) (code : List Instr) (j : Nat) : Bool := match raw[j]?, code[j]? with
  | some q, some i => e_rel o raw q.1 q.2.2 q.2.1 i && (e_end i || Nat.beq (n_pc raw (j + 1)) (q.1 + q.2.2))
  | _, _ => false
def e_dec (b : ByteArray) (q : Nat × Instr × Nat) : Bool := decide (decode b q.1 = .ok (q.2.1, q.2.2))
def e_m (k : Nat) : Bool := Nat.beq (z_raw k).length (z_code k).length && (List.range (z_code k).length).all (e_at (z_ow k) (z_raw k) (z_code k))
def e_d (k : Nat) : Bool := (z_raw k).all (e_dec (z_b k))
