/-! one instruction as a function: what it asks, the locals, the stack, the memory behind it -/
def am_fc {α : Type} : List Value → (List Value → α) → α
  | [], k => k []
  | v :: L, k => match v with
    | .int x => am_fc L (fun L => k (.int x :: L))
    | .long x => am_fc L (fun L => k (.long x :: L))
    | .ref x => am_fc L (fun L => k (.ref x :: L))
    | w => am_fc L (fun L => k (w :: L))
theorem am_fc_eq {α : Type} : ∀ (L : List Value) (k : List Value → α), am_fc L k = k L
  | [], _ => rfl
  | v :: L, k => by cases v <;> simp [am_fc, am_fc_eq L]
abbrev Ot : Type := Option (Option Prop × List Value × List Value × Mem)
def am_sh : List Shp → Nat → Option Shp
  | [], _ => none
  | h :: _, 0 => some h
  | _ :: G, n + 1 => am_sh G n
theorem am_sh_eq : ∀ (G : List Shp) (a : Nat), am_sh G a = G[a]?
  | [], _ => rfl
  | _ :: _, 0 => rfl
  | _ :: G, n + 1 => by simp [am_sh, am_sh_eq G n]
def am_nth : List Nat → Nat → Option Nat
  | [], _ => none
  | h :: _, 0 => some h
  | _ :: G, n + 1 => am_nth G n
theorem am_nth_eq : ∀ (G : List Nat) (a : Nat), am_nth G a = G[a]?
  | [], _ => rfl
  | _ :: _, 0 => rfl
  | _ :: G, n + 1 => by simp [am_nth, am_nth_eq G n]
def am_x (G : List Shp) (q : It) (L S : List Value) (M : Mem) : Ot := match q with
  | (_, i, _, ci, k, v, w) => match i with
    | .iconst _ => some (none, L, .int v :: S, M)
    | .bipush _ => some (none, L, .int v :: S, M)
    | .sipush _ => some (none, L, .int v :: S, M)
    | .ldc _ => some (none, L, .int v :: S, M)
    | .lconst _ => some (none, L, .long w :: S, M)
    | .ldc2_w _ => some (none, L, .long w :: S, M)
    | .iload j => match am_g L j with
      | .int x => some (none, L, .int x :: S, M)
      | _ => none
    | .iload_n j => match am_g L j.val with
      | .int x => some (none, L, .int x :: S, M)
      | _ => none
    | .lload j => match am_g L j with
      | .long x => some (none, L, .long x :: S, M)
      | _ => none
    | .lload_n j => match am_g L j.val with
      | .long x => some (none, L, .long x :: S, M)
      | _ => none
    | .aload j => match am_g L j with
      | .ref x => some (none, L, .ref x :: S, M)
      | _ => none
    | .aload_n j => match am_g L j.val with
      | .ref x => some (none, L, .ref x :: S, M)
      | _ => none
    | .istore j => match S with
      | .int x :: S => match am_h L j with
        | true => am_fc (am_s (am_c L j) j (.int x)) (fun L => some (none, L, S, M))
        | false => none
      | _ => none
    | .istore_n j => match S with
      | .int x :: S => match am_h L j.val with
        | true => am_fc (am_s (am_c L j.val) j.val (.int x)) (fun L => some (none, L, S, M))
        | false => none
      | _ => none
    | .astore j => match S with
      | .ref x :: S => match am_h L j with
        | true => am_fc (am_s (am_c L j) j (.ref x)) (fun L => some (none, L, S, M))
        | false => none
      | _ => none
    | .astore_n j => match S with
      | .ref x :: S => match am_h L j.val with
        | true => am_fc (am_s (am_c L j.val) j.val (.ref x)) (fun L => some (none, L, S, M))
        | false => none
      | _ => none
    | .lstore j => match S with
      | .long x :: S => match am_h L (j + 1) with
        | true => am_fc (am_s (am_s (am_c L j) j (.long x)) (j + 1) .null) (fun L => some (none, L, S, M))
        | false => none
      | _ => none
    | .lstore_n j => match S with
      | .long x :: S => match am_h L (j.val + 1) with
        | true => am_fc (am_s (am_s (am_c L j.val) j.val (.long x)) (j.val + 1) .null) (fun L => some (none, L, S, M))
        | false => none
      | _ => none
    | .iinc j _ => match am_g L j with
      | .int x => am_fc (am_s (am_c L j) j (.int (x + v))) (fun L => some (none, L, S, M))
      | _ => none
    | .iadd => match S with
      | .int y :: .int x :: S => some (none, L, .int (x + y) :: S, M)
      | _ => none
    | .isub => match S with
      | .int y :: .int x :: S => some (none, L, .int (x - y) :: S, M)
      | _ => none
    | .imul => match S with
      | .int y :: .int x :: S => some (none, L, .int (x * y) :: S, M)
      | _ => none
    | .iand => match S with
      | .int y :: .int x :: S => some (none, L, .int (x &&& y) :: S, M)
      | _ => none
    | .ior => match S with
      | .int y :: .int x :: S => some (none, L, .int (x ||| y) :: S, M)
      | _ => none
    | .ixor => match S with
      | .int y :: .int x :: S => some (none, L, .int (x ^^^ y) :: S, M)
      | _ => none
    | .ishl => match S with
      | .int y :: .int x :: S => some (none, L, .int (x <<< (y &&& 31)) :: S, M)
      | _ => none
    | .ishr => match S with
      | .int y :: .int x :: S => some (none, L, .int (x >>> (y &&& 31)) :: S, M)
      | _ => none
    | .idiv => match S with
      | .int y :: .int x :: S => some (some (¬ y = 0), L, .int (x / y) :: S, M)
      | _ => none
    | .irem => match S with
      | .int y :: .int x :: S => some (some (¬ y = 0), L, .int (x - x / y * y) :: S, M)
      | _ => none
    | .ineg => match S with
      | .int x :: S => some (none, L, .int (-x) :: S, M)
      | _ => none
    | .ladd => match S with
      | .long y :: .long x :: S => some (none, L, .long (x + y) :: S, M)
      | _ => none
    | .lsub => match S with
      | .long y :: .long x :: S => some (none, L, .long (x - y) :: S, M)
      | _ => none
    | .lmul => match S with
      | .long y :: .long x :: S => some (none, L, .long (x * y) :: S, M)
      | _ => none
    | .land => match S with
      | .long y :: .long x :: S => some (none, L, .long (x &&& y) :: S, M)
      | _ => none
    | .lor => match S with
      | .long y :: .long x :: S => some (none, L, .long (x ||| y) :: S, M)
      | _ => none
    | .lxor => match S with
      | .long y :: .long x :: S => some (none, L, .long (x ^^^ y) :: S, M)
      | _ => none
    | .ldiv => match S with
      | .long y :: .long x :: S => some (some (¬ y = 0), L, .long (x / y) :: S, M)
      | _ => none
    | .lneg => match S with
      | .long x :: S => some (none, L, .long (-x) :: S, M)
      | _ => none
    | .lshl => match S with
      | .int y :: .long x :: S => some (none, L, .long (x <<< (y.toInt64 &&& 63)) :: S, M)
      | _ => none
    | .lushr => match S with
      | .int y :: .long x :: S => some (none, L, .long (x.toUInt64 >>> (y.toInt64.toUInt64 &&& Int64.toUInt64 63)).toInt64 :: S, M)
      | _ => none
    | .i2l => match S with
      | .int x :: S => some (none, L, .long x.toInt64 :: S, M)
      | _ => none
    | .l2i => match S with
      | .long x :: S => some (none, L, .int x.toInt32 :: S, M)
      | _ => none
    | .lcmp => match S with
      | .long y :: .long x :: S => some (none, L, .int (lg_cmp x y) :: S, M)
      | _ => none
    | .dup => match S with
      | .int x :: S => some (none, L, .int x :: .int x :: S, M)
      | .ref x :: S => some (none, L, .ref x :: .ref x :: S, M)
      | _ => none
    | .dup2 => match S with
      | .int y :: .int x :: S => some (none, L, .int y :: .int x :: .int y :: .int x :: S, M)
      | .int y :: .ref x :: S => some (none, L, .int y :: .ref x :: .int y :: .ref x :: S, M)
      | .long x :: S => some (none, L, .long x :: .long x :: S, M)
      | _ => none
    | .pop => match S with
      | .int _ :: S => some (none, L, S, M)
      | .ref _ :: S => some (none, L, S, M)
      | _ => none
    | .getfield _ => match S with
      | .ref a :: S => match am_sh G a with
        | some (.inr (cj, cs)) => match Nat.beq cj ci with
          | true => match am_nth cs k with
            | some 0 => some (none, L, .int (M.1 a k) :: S, M)
            | some 1 => some (none, L, .long (M.2 a k) :: S, M)
            | some (c + 3) => some (none, L, .ref c :: S, M)
            | _ => none
          | false => none
        | _ => none
      | _ => none
    | .putfield _ => match S with
      | .int x :: .ref a :: S => match am_sh G a with
        | some (.inr (cj, cs)) => match Nat.beq cj ci with
          | true => match am_nth cs k with
            | some 0 => match w with
              | 0 => some (none, L, S, (va_up M.1 a (upd (M.1 a) k x), M.2))
              | _ => none
            | _ => none
          | false => none
        | _ => none
      | .long x :: .ref a :: S => match am_sh G a with
        | some (.inr (cj, cs)) => match Nat.beq cj ci with
          | true => match am_nth cs k with
            | some 1 => match w with
              | 1 => some (none, L, S, (M.1, va_up M.2 a (vp_updL (M.2 a) k x)))
              | _ => none
            | _ => none
          | false => none
        | _ => none
      | _ => none
    | .iaload => match S with
      | .int j :: .ref a :: S => match am_sh G a with
        | some (.inl (0, n)) => some (some (vp_in j n), L, .int (M.1 a j.toNatClampNeg) :: S, M)
        | _ => none
      | _ => none
    | .baload => match S with
      | .int j :: .ref a :: S => match am_sh G a with
        | some (.inl (2, n)) => some (some (vp_in j n), L, .int (M.1 a j.toNatClampNeg) :: S, M)
        | _ => none
      | _ => none
    | .laload => match S with
      | .int j :: .ref a :: S => match am_sh G a with
        | some (.inl (1, n)) => some (some (vp_in j n), L, .long (M.2 a j.toNatClampNeg) :: S, M)
        | _ => none
      | _ => none
    | .iastore => match S with
      | .int x :: .int j :: .ref a :: S => match am_sh G a with
        | some (.inl (0, n)) => some (some (vp_in j n), L, S, (va_up M.1 a (upd (M.1 a) j.toNatClampNeg x), M.2))
        | _ => none
      | _ => none
    | .bastore => match S with
      | .int x :: .int j :: .ref a :: S => match am_sh G a with
        | some (.inl (2, n)) => some (some (vp_in j n), L, S, (va_up M.1 a (upd (M.1 a) j.toNatClampNeg (vp_nar .boolean x)), M.2))
        | _ => none
      | _ => none
    | .lastore => match S with
      | .long x :: .int j :: .ref a :: S => match am_sh G a with
        | some (.inl (1, n)) => some (some (vp_in j n), L, S, (M.1, va_up M.2 a (vp_updL (M.2 a) j.toNatClampNeg x)))
        | _ => none
      | _ => none
    | .arraylength => match S with
      | .ref a :: S => match am_sh G a with
        | some (.inl (0, n)) => some (none, L, .int (Int32.ofNat n) :: S, M)
        | some (.inl (1, n)) => some (none, L, .int (Int32.ofNat n) :: S, M)
        | some (.inl (2, n)) => some (none, L, .int (Int32.ofNat n) :: S, M)
        | _ => none
      | _ => none
    | _ => none
/-- what the table of a method must be: the instructions decoded, one behind the other -/
def am_hd (T : List It) (n : Nat) : Bool := match T with
  | [] => true
  | q :: _ => Nat.beq q.1 n
def am_dec (code : ByteArray) : List It → Bool
  | [] => true
  | q :: T => decide (decode code q.1 = .ok (q.2.1, q.2.2.1)) && (am_hd T (q.1 + q.2.2.1) && am_dec code T)
def am_wd (own : String) (q : It) : Bool := match q with
  | (pc, i, len, ci, k, v, w) => match i with
    | .iconst n => Nat.beq len 1 && decide (Int32.ofInt n = v)
    | .bipush n => Nat.beq len 2 && decide ((Int8.ofInt n).toInt32 = v)
    | .sipush n => Nat.beq len 3 && decide ((Int16.ofInt n).toInt32 = v)
    | .ldc n => Nat.beq len 2 && decide (Cond.constant own n v ∈ fl_tbl)
    | .lconst n => Nat.beq len 1 && decide (Int64.ofNat n.val = w)
    | .ldc2_w n => Nat.beq len 3 && decide (Cond.constantLong own n w ∈ fl_tbl)
    | .iload _ => Nat.beq len 2
    | .lload _ => Nat.beq len 2
    | .aload _ => Nat.beq len 2
    | .istore _ => Nat.beq len 2
    | .lstore _ => Nat.beq len 2
    | .astore _ => Nat.beq len 2
    | .iinc _ n => Nat.beq len 3 && decide (Int32.ofInt n = v)
    | .getfield n => Nat.beq len 3 && match vwCl[ci]? with
      | some r => decide (k < r.2.2) && decide (Cond.fieldLink own n (r.2.1 k).1 (r.2.1 k).2.1 (r.2.1 k).2.2.1 ∈ fl_tbl)
      | none => false
    | .putfield n => Nat.beq len 3 && match vwCl[ci]? with
      | some r => decide (k < r.2.2) && decide (Cond.fieldLink own n (r.2.1 k).1 (r.2.1 k).2.1 (r.2.1 k).2.2.1 ∈ fl_tbl) && (match w with
        | 0 => decide ((r.2.1 k).2.2.1 = "I" ∧ (r.2.1 k).2.2.2 = false)
        | 1 => decide ((r.2.1 k).2.2.1 = "J" ∧ (r.2.1 k).2.2.2 = false)
        | _ => true)
      | none => false
    | .goto off => Nat.beq len 3 && decide ((pc : Int) + off = (k : Int))
    | .if_icmp _ off => Nat.beq len 3 && decide ((pc : Int) + off = (k : Int))
    | .ifCond _ off => Nat.beq len 3 && decide ((pc : Int) + off = (k : Int))
    | .invokevirtual _ => Nat.beq len 3
    | .invokestatic _ => Nat.beq len 3
    | .invokespecial _ => Nat.beq len 3
    | .new _ => Nat.beq len 3
    | .newarray _ => Nat.beq len 2
    | .tableswitch _ _ _ _ => true
    | _ => Nat.beq len 1
def am_ok (mt : Mt) : Prop := am_dec mt.2.1 mt.2.2.2.2 = true ∧ mt.2.2.2.2.all (am_wd mt.1.cls) = true
