/-! THE ABSTRACT MACHINE: methods over a memory of ints, whose cells stand at fixed places; a run's answer as a pure value. -/
abbrev av_M : Type := Nat → Nat → Int32
abbrev av_R : Type := Int32 × Int64 × av_M
/-- an instruction: pc, length, the instruction, five numbers, an int, a long, a switch's cases -/
abbrev av_I : Type := Nat × Nat × Instr × Nat × Nat × Nat × Nat × Nat × Int32 × Int64 × List (Int32 × Nat)
def av_u (h : av_M) (a k : Nat) (v : Int32) : av_M := fun b => if b = a then upd (h a) k v else h b
def av_lo (v : Int64) : Int32 := Int32.ofNat (v.toUInt64.toNat % 4294967296)
def av_hi (v : Int64) : Int32 := Int32.ofNat (v.toUInt64.toNat / 4294967296)
def av_jn (hi lo : Int32) : Int64 := Int64.ofNat (hi.toUInt32.toNat * 4294967296 + lo.toUInt32.toNat)
def av_nth : List (Nat × Nat × List Nat) → Nat → Nat × Nat × List Nat
  | [], _ => (99, 0, [])
  | q :: _, 0 => q
  | _ :: l, n + 1 => av_nth l n
def av_nn : List Nat → Nat → Nat
  | [], _ => 0
  | q :: _, 0 => q
  | _ :: l, n + 1 => av_nn l n
def av_gl : List Value → Nat → Value
  | [], _ => .null
  | q :: _, 0 => q
  | _ :: l, n + 1 => av_gl l n
def av_st : List Value → Nat → Value → List Value
  | [], _, _ => []
  | _ :: l, 0, v => v :: l
  | q :: l, n + 1, v => q :: av_st l n v
/-- a long whose second half is written over is gone -/
def av_kp (ls : List Value) (n : Nat) : List Value := match n with
  | 0 => ls
  | k + 1 => match av_gl ls k with
    | .long _ => av_st ls k .null
    | .double _ => av_st ls k .null
    | _ => ls
def av_s1 (ls : List Value) (n : Nat) (v : Value) : List Value := av_st (av_kp ls n) n v
def av_s2 (ls : List Value) (n : Nat) (v : Value) : List Value := av_st (av_st (av_kp ls n) n v) (n + 1) .null
/-- goes on with the list, written out -/
def av_fo {β : Type} : List Value → (List Value → β) → β
  | [], k => k []
  | v :: l, k => av_fo l (fun l => k (v :: l))
theorem av_fo_eq {β : Type} : ∀ (l : List Value) (k : List Value → β), av_fo l k = k l := by
  intro l
  induction l with
  | nil => intro k; rfl
  | cons v l ih => intro k; exact ih _
def av_cat : List Value → Nat
  | [] => 0
  | v :: l => v.category + av_cat l
def av_at : List av_I → Nat → List av_I
  | [], _ => []
  | q :: l, pc => match Nat.beq q.1 pc with
    | true => q :: l
    | false => av_at l pc
def av_sw {β : Type} (J : Nat → Option β) (x : Int32) (d : Nat) : List (Int32 × Nat) → Option β
  | [] => J d
  | (c, t) :: r => if x = c then J t else av_sw J x d r
/-- arguments as locals: a long takes two -/
def av_in : List Value → List Value
  | [] => []
  | .long v :: l => .long v :: .null :: av_in l
  | .double v :: l => .double v :: .null :: av_in l
  | v :: l => v :: av_in l
def av_pad : Nat → List Value → List Value
  | 0, _ => []
  | n + 1, [] => .null :: av_pad n []
  | n + 1, v :: l => v :: av_pad n l
def av_rev : List Value → List Value → List Value
  | [], r => r
  | v :: l, r => av_rev l (v :: r)
/-- n values off the stack: they (the deepest first), what is left -/
def av_pop : Nat → List Value → List Value → List Value × List Value
  | 0, as, st => (as, st)
  | _ + 1, as, [] => (as, [])
  | n + 1, as, v :: st => av_pop n (v :: as) st
def av_push (z : Nat) (r : av_R) (st : List Value) : List Value := match z with
  | 0 => st
  | 2 => .long r.2.1 :: st
  | _ => .int r.1 :: st
def av_max (x y : Int32) : Int32 := if x < y then y else x
def av_min (x y : Int32) : Int32 := if y < x then y else x
def av_abs (x : Int32) : Int32 := if 0 ≤ x then x else 0 - x
def av_inb (j : Int32) (n : Nat) : Bool := !(decide (j < 0 ∨ n ≤ j.toNatClampNeg))
def av_ins (j n : Int32) : Bool := !(decide (j < 0 ∨ n ≤ j))
def av_nz (b : Int32) : Bool := !(decide (b = 0))
def av_nzl (b : Int64) : Bool := !(decide (b = 0))
def av_01 (b : Int32) : Bool := decide (b = 0 ∨ b = 1)
/-- the texts of the String constants -/
def av_txt : List (List Int32) := [[112, 103, 98, 121], [107, 115, 114, 112, 118, 99, 110], [60, 62, 61], [43, 45], [42, 47], [110, 100, 115, 112, 114, 109]]
def av_txl (a : Nat) : Nat := (av_txt.getD (a - 92) []).length
def av_txc (a k : Nat) : Int32 := (av_txt.getD (a - 92) []).getD k 0
/-- the cells: kind (a class's number; 8: ints, 9: longs, 10: booleans), length, a class's references (0: a number; r + 1: the cell r) -/
def av_shp : List (Nat × Nat × List Nat) := [(6, 0, [2, 4, 6, 13, 20, 24, 28, 31, 35, 39, 43, 44, 0, 0]), (5, 0, [3, 0]), (8, 80, []), (2, 0, [5, 0]), (9, 7, []), (4, 0, [7, 8, 9, 10, 11, 12, 0, 0, 0, 0, 0, 0, 0]), (8, 7, []), (8, 7, []), (8, 7, []), (8, 7, []), (8, 7, []), (8, 7, []), (4, 0, [14, 15, 16, 17, 18, 19, 0, 0, 0, 0, 0, 0, 0]), (8, 7, []), (8, 7, []), (8, 7, []), (8, 7, []), (8, 7, []), (8, 7, []), (3, 0, [21, 22, 23, 0, 0, 0, 0, 0, 0]), (8, 40, []), (8, 40, []), (8, 40, []), (3, 0, [25, 26, 27, 0, 0, 0, 0, 0, 0]), (8, 40, []), (8, 40, []), (8, 40, []), (1, 0, [29, 30, 0, 0, 0]), (8, 528, []), (8, 99, []), (0, 0, [32, 33, 34, 0, 0]), (8, 12, []), (8, 12, []), (8, 12, []), (0, 0, [36, 37, 38, 0, 0]), (8, 12, []), (8, 12, []), (8, 12, []), (0, 0, [40, 41, 42, 0, 0]), (8, 12, []), (8, 12, []), (8, 12, []), (8, 61, []), (8, 61, []), (7, 0, [0, 0, 46, 0, 0, 47, 48, 49, 50, 51, 0, 0, 0, 0, 52, 0, 53, 54, 0, 0, 55, 56, 0, 57, 58, 59, 60, 0, 0, 61, 62, 63, 64, 0, 65, 66, 0, 67, 68, 69, 70, 71, 72, 73, 0, 74, 75, 76]), (9, 24, []), (8, 7, []), (8, 7, []), (8, 33, []), (8, 33, []), (8, 80, []), (8, 35, []), (8, 80, []), (8, 80, []), (8, 80, []), (8, 7, []), (8, 528, []), (8, 60, []), (8, 60, []), (8, 60, []), (8, 10, []), (8, 10, []), (8, 10, []), (10, 60, []), (8, 12, []), (8, 12, []), (8, 10, []), (8, 10, []), (8, 10, []), (10, 40, []), (8, 61, []), (10, 128, []), (8, 80, []), (10, 3, []), (8, 3, []), (8, 99, []), (9, 1, []), (99, 0, []), (99, 0, []), (99, 0, []), (99, 0, []), (99, 0, []), (99, 0, []), (99, 0, []), (99, 0, []), (99, 0, []), (99, 0, []), (99, 0, []), (99, 0, []), (99, 0, []), (11, 0, []), (99, 0, []), (12, 0, []), (12, 0, []), (12, 0, []), (12, 0, []), (12, 0, []), (12, 0, [])]
/-- how many there are -/
def av_N : Nat := 77
def av_kd (a : Nat) : Nat := (av_nth av_shp a).1
def av_sz (a : Nat) : Nat := (av_nth av_shp a).2.1
def av_rf (a k : Nat) : Nat := av_nn (av_nth av_shp a).2.2 k

/-- one instruction, told to what comes behind: N goes on at the next one, J at another place, ret ends; none: stuck -/
def av_stp {β : Type} (E : Nat → List Value → av_M → Option av_R) (ret : av_R → Option β) (N : List Value → List Value → av_M → Option β) (J : Nat → List Value → List Value → av_M → Option β) (q : av_I) (ls st : List Value) (h : av_M) : Option β :=
  match q with
  | (_, _, i, x, y, z, _, o, v, u, sw) =>
  match i with
  | .iload n => match av_gl ls n with
    | .int a => N ls (.int a :: st) h
    | _ => none
  | .iload_n n => match av_gl ls n.val with
    | .int a => N ls (.int a :: st) h
    | _ => none
  | .lload n => match av_gl ls n with
    | .long a => N ls (.long a :: st) h
    | _ => none
  | .lload_n n => match av_gl ls n.val with
    | .long a => N ls (.long a :: st) h
    | _ => none
  | .aload n => match av_gl ls n with
    | .ref a => N ls (.ref a :: st) h
    | _ => none
  | .aload_n n => match av_gl ls n.val with
    | .ref a => N ls (.ref a :: st) h
    | _ => none
  | .istore n => match st with
    | .int a :: r => match Nat.blt n ls.length with
      | true => av_fo (av_s1 ls n (.int a)) fun ls => N ls r h
      | false => none
    | _ => none
  | .istore_n n => match st with
    | .int a :: r => match Nat.blt n.val ls.length with
      | true => av_fo (av_s1 ls n.val (.int a)) fun ls => N ls r h
      | false => none
    | _ => none
  | .lstore n => match st with
    | .long a :: r => match Nat.blt (n + 1) ls.length with
      | true => av_fo (av_s2 ls n (.long a)) fun ls => N ls r h
      | false => none
    | _ => none
  | .lstore_n n => match st with
    | .long a :: r => match Nat.blt (n.val + 1) ls.length with
      | true => av_fo (av_s2 ls n.val (.long a)) fun ls => N ls r h
      | false => none
    | _ => none
  | .iinc n _ => match av_gl ls n with
    | .int a => match Nat.blt n ls.length with
      | true => av_fo (av_s1 ls n (.int (a + v))) fun ls => N ls st h
      | false => none
    | _ => none
  | .iconst _ => N ls (.int v :: st) h
  | .bipush _ => N ls (.int v :: st) h
  | .sipush _ => N ls (.int v :: st) h
  | .ldc _ => match z with
    | 0 => N ls (.int v :: st) h
    | _ => N ls (.ref x :: st) h
  | .ldc_w _ => match z with
    | 0 => N ls (.int v :: st) h
    | _ => N ls (.ref x :: st) h
  | .ldc2_w _ => N ls (.long u :: st) h
  | .lconst _ => N ls (.long u :: st) h
  | .iadd => match st with
    | .int b :: .int a :: r => N ls (.int (a + b) :: r) h
    | _ => none
  | .isub => match st with
    | .int b :: .int a :: r => N ls (.int (a - b) :: r) h
    | _ => none
  | .imul => match st with
    | .int b :: .int a :: r => N ls (.int (a * b) :: r) h
    | _ => none
  | .iand => match st with
    | .int b :: .int a :: r => N ls (.int (a &&& b) :: r) h
    | _ => none
  | .ior => match st with
    | .int b :: .int a :: r => N ls (.int (a ||| b) :: r) h
    | _ => none
  | .ixor => match st with
    | .int b :: .int a :: r => N ls (.int (a ^^^ b) :: r) h
    | _ => none
  | .ineg => match st with
    | .int a :: r => N ls (.int (-a) :: r) h
    | _ => none
  | .ishl => match st with
    | .int b :: .int a :: r => N ls (.int (a <<< (b &&& 31)) :: r) h
    | _ => none
  | .ishr => match st with
    | .int b :: .int a :: r => N ls (.int (a >>> (b &&& 31)) :: r) h
    | _ => none
  | .iushr => match st with
    | .int b :: .int a :: r => N ls (.int ((a.toUInt32 >>> (b.toUInt32 &&& Int32.toUInt32 31)).toInt32) :: r) h
    | _ => none
  | .idiv => match st with
    | .int b :: .int a :: r => cond (av_nz b) (N ls (.int (a / b) :: r) h) none
    | _ => none
  | .irem => match st with
    | .int b :: .int a :: r => cond (av_nz b) (N ls (.int (a - a / b * b) :: r) h) none
    | _ => none
  | .ladd => match st with
    | .long b :: .long a :: r => N ls (.long (a + b) :: r) h
    | _ => none
  | .lsub => match st with
    | .long b :: .long a :: r => N ls (.long (a - b) :: r) h
    | _ => none
  | .lmul => match st with
    | .long b :: .long a :: r => N ls (.long (a * b) :: r) h
    | _ => none
  | .land => match st with
    | .long b :: .long a :: r => N ls (.long (a &&& b) :: r) h
    | _ => none
  | .lor => match st with
    | .long b :: .long a :: r => N ls (.long (a ||| b) :: r) h
    | _ => none
  | .ldiv => match st with
    | .long b :: .long a :: r => cond (av_nzl b) (N ls (.long (a / b) :: r) h) none
    | _ => none
  | .lrem => match st with
    | .long b :: .long a :: r => cond (av_nzl b) (N ls (.long (a - a / b * b) :: r) h) none
    | _ => none
  | .lshl => match st with
    | .int b :: .long a :: r => N ls (.long (a <<< (b.toInt64 &&& 63)) :: r) h
    | _ => none
  | .lushr => match st with
    | .int b :: .long a :: r => N ls (.long ((a.toUInt64 >>> (b.toInt64.toUInt64 &&& Int64.toUInt64 63)).toInt64) :: r) h
    | _ => none
  | .i2l => match st with
    | .int a :: r => N ls (.long a.toInt64 :: r) h
    | _ => none
  | .l2i => match st with
    | .long a :: r => N ls (.int a.toInt32 :: r) h
    | _ => none
  | .i2b => match st with
    | .int a :: r => N ls (.int a.toInt8.toInt32 :: r) h
    | _ => none
  | .i2s => match st with
    | .int a :: r => N ls (.int a.toInt16.toInt32 :: r) h
    | _ => none
  | .lcmp => match st with
    | .long b :: .long a :: r => N ls (.int (lg_cmp a b) :: r) h
    | _ => none
  | .dup => match st with
    | a :: r => match Nat.beq a.category 1 with
      | true => N ls (a :: a :: r) h
      | false => none
    | _ => none
  | .dup2 => match st with
    | a :: b :: r => match Nat.beq (a.category + b.category) 2 with
      | true => N ls (a :: b :: a :: b :: r) h
      | false => none
    | _ => none
  | .pop => match st with
    | a :: r => match Nat.beq a.category 1 with
      | true => N ls r h
      | false => none
    | _ => none
  | .ifCond .eq _ => match st with
    | .int a :: r => if a = 0 then J x ls r h else N ls r h
    | _ => none
  | .ifCond .ne _ => match st with
    | .int a :: r => if a = 0 then N ls r h else J x ls r h
    | _ => none
  | .ifCond .lt _ => match st with
    | .int a :: r => if a < 0 then J x ls r h else N ls r h
    | _ => none
  | .ifCond .ge _ => match st with
    | .int a :: r => if 0 ≤ a then J x ls r h else N ls r h
    | _ => none
  | .ifCond .gt _ => match st with
    | .int a :: r => if 0 < a then J x ls r h else N ls r h
    | _ => none
  | .ifCond .le _ => match st with
    | .int a :: r => if a ≤ 0 then J x ls r h else N ls r h
    | _ => none
  | .if_icmp .eq _ => match st with
    | .int b :: .int a :: r => if a = b then J x ls r h else N ls r h
    | _ => none
  | .if_icmp .ne _ => match st with
    | .int b :: .int a :: r => if a = b then N ls r h else J x ls r h
    | _ => none
  | .if_icmp .lt _ => match st with
    | .int b :: .int a :: r => if a < b then J x ls r h else N ls r h
    | _ => none
  | .if_icmp .ge _ => match st with
    | .int b :: .int a :: r => if b ≤ a then J x ls r h else N ls r h
    | _ => none
  | .if_icmp .gt _ => match st with
    | .int b :: .int a :: r => if b < a then J x ls r h else N ls r h
    | _ => none
  | .if_icmp .le _ => match st with
    | .int b :: .int a :: r => if a ≤ b then J x ls r h else N ls r h
    | _ => none
  | .goto _ => J x ls st h
  | .tableswitch _ _ _ _ => match st with
    | .int a :: r => av_sw (fun t => J t ls r h) a x sw
    | _ => none
  | .lookupswitch _ _ => match st with
    | .int a :: r => av_sw (fun t => J t ls r h) a x sw
    | _ => none
  | .getfield _ => match st with
    | .ref a :: r => match Nat.beq (av_kd a) x with
      | true => match av_rf a y with
        | 0 => N ls (.int (h a y) :: r) h
        | c + 1 => N ls (.ref c :: r) h
      | false => none
    | _ => none
  | .putfield _ => match st with
    | .int b :: .ref a :: r => match Nat.beq (av_kd a) x with
      | true => match av_rf a y with
        | 0 => match z with
          | 0 => N ls r (av_u h a y b)
          | _ => cond (av_01 b) (N ls r (av_u h a y b)) none
        | _ => none
      | false => none
    | _ => none
  | .iaload => match st with
    | .int j :: .ref a :: r => match av_kd a with
      | 8 => cond (av_inb j (av_sz a)) (N ls (.int (h a j.toNatClampNeg) :: r) h) none
      | 11 => cond (av_ins j (h (a + 1) 0)) (N ls (.int (h a j.toNatClampNeg) :: r) h) none
      | _ => none
    | _ => none
  | .iastore => match st with
    | .int b :: .int j :: .ref a :: r => match av_kd a with
      | 8 => cond (av_inb j (av_sz a)) (N ls r (av_u h a j.toNatClampNeg b)) none
      | _ => none
    | _ => none
  | .baload => match st with
    | .int j :: .ref a :: r => match av_kd a with
      | 10 => cond (av_inb j (av_sz a)) (N ls (.int (h a j.toNatClampNeg) :: r) h) none
      | _ => none
    | _ => none
  | .bastore => match st with
    | .int b :: .int j :: .ref a :: r => match av_kd a with
      | 10 => cond (av_inb j (av_sz a)) (N ls r (av_u h a j.toNatClampNeg (b &&& 1))) none
      | _ => none
    | _ => none
  | .laload => match st with
    | .int j :: .ref a :: r => match av_kd a with
      | 9 => cond (av_inb j (av_sz a)) (N ls (.long (av_jn (h a (2 * j.toNatClampNeg)) (h a (2 * j.toNatClampNeg + 1))) :: r) h) none
      | _ => none
    | _ => none
  | .lastore => match st with
    | .long b :: .int j :: .ref a :: r => match av_kd a with
      | 9 => cond (av_inb j (av_sz a)) (N ls r (av_u (av_u h a (2 * j.toNatClampNeg) (av_hi b)) a (2 * j.toNatClampNeg + 1) (av_lo b))) none
      | _ => none
    | _ => none
  | .arraylength => match st with
    | .ref a :: r => match av_kd a with
      | 8 => N ls (.int (nI (av_sz a)) :: r) h
      | 9 => N ls (.int (nI (av_sz a)) :: r) h
      | 10 => N ls (.int (nI (av_sz a)) :: r) h
      | 11 => N ls (.int (h (a + 1) 0) :: r) h
      | _ => none
    | _ => none
  | .invokestatic _ => match z with
    | 10 => match st with
      | .int b :: .int a :: r => match Nat.ble (av_cat r) 8 with
        | true => N ls (.int (av_max a b) :: r) h
        | false => none
      | _ => none
    | 11 => match st with
      | .int b :: .int a :: r => match Nat.ble (av_cat r) 8 with
        | true => N ls (.int (av_min a b) :: r) h
        | false => none
      | _ => none
    | 12 => match st with
      | .int a :: r => match Nat.ble (av_cat r) 8 with
        | true => N ls (.int (av_abs a) :: r) h
        | false => none
      | _ => none
    | 20 => none
    | z => match av_pop y [] st with
      | (as, r) => match Nat.ble (av_cat r) 8 && Nat.beq as.length y with
        | true => (E x as h).bind fun b => N ls (av_push z b r) b.2.2
        | false => none
  | .invokevirtual _ => match z with
    | 13 => match st with
      | .ref a :: r => match Nat.ble (av_cat r) 8 && Nat.beq (av_kd a) 12 with
        | true => N ls (.int (nI (av_txl a)) :: r) h
        | false => none
      | _ => none
    | 14 => match st with
      | .int j :: .ref a :: r => match Nat.ble (av_cat r) 8 && Nat.beq (av_kd a) 12 with
        | true => cond (av_inb j (av_txl a)) (N ls (.int (av_txc a j.toNatClampNeg) :: r) h) none
        | false => none
      | _ => none
    | z => match av_pop y [] st with
      | (as, .ref a :: r) => match Nat.ble (av_cat r) 8 && Nat.beq as.length y && Nat.beq (av_kd a) o with
        | true => (E x (.ref a :: as) h).bind fun b => N ls (av_push z b r) b.2.2
        | false => none
      | _ => none
  | .ireturn => match st with
    | [.int a] => match x with
      | 0 => ret (a, 0, h)
      | _ => ret (a &&& 1, 0, h)
    | _ => none
  | .lreturn => match st with
    | [.long a] => ret (0, a, h)
    | _ => none
  | .return_ => match st with
    | [] => ret (0, 0, h)
    | _ => none
  | _ => none
