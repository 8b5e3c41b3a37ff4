/-! A SMALL MACHINE: objects and arrays by places, typed rows; one step of the code by the tables of part 01. What it does is tied to the real machine further on. -/
abbrev AS : Type := (Nat → Nat → Int32) × (Nat → Nat → Int64) × (Nat → Nat → Nat) × (Nat → Nat) × (Nat → Nat) × Nat × Nat
def sI (s : AS) : Nat → Nat → Int32 := s.1
def sL (s : AS) : Nat → Nat → Int64 := s.2.1
def sR (s : AS) : Nat → Nat → Nat := s.2.2.1
def sT (s : AS) : Nat → Nat := s.2.2.2.1
def sN (s : AS) : Nat → Nat := s.2.2.2.2.1
def sX (s : AS) : Nat := s.2.2.2.2.2.1
def sZ (s : AS) : Nat := s.2.2.2.2.2.2
def up1 {α : Type} (f : Nat → α) (p : Nat) (v : α) : Nat → α := fun q => if q = p then v else f q
def up2 {α : Type} (f : Nat → Nat → α) (p j : Nat) (v : α) : Nat → Nat → α := fun q k => if q = p ∧ k = j then v else f q k
def setI (s : AS) (p j : Nat) (v : Int32) : AS := (up2 s.1 p j v, s.2)
def setJ (s : AS) (p j : Nat) (v : Int64) : AS := (s.1, up2 s.2.1 p j v, s.2.2)
def setR (s : AS) (p j : Nat) (v : Nat) : AS := (s.1, s.2.1, up2 s.2.2.1 p j v, s.2.2.2)
def rowI (s : AS) (p : Nat) (f : Nat → Int32) : AS := (up1 s.1 p f, s.2)
def newA (s : AS) (t n : Nat) : AS := (up1 s.1 (sX s) (fun _ => nI 0), up1 s.2.1 (sX s) (fun _ => lN 0), up1 s.2.2.1 (sX s) (fun _ => 0), up1 s.2.2.2.1 (sX s) t, up1 s.2.2.2.2.1 (sX s) n, sX s + 1, sZ s + n)
def ci32 : Int → Int32
  | .ofNat k => nI k
  | .negSucc k => -(nI (k + 1))
def getV (ls : List Value) (i : Nat) : Value := ls.getD i (.retAddr 0)
def clrV : Value → Value
  | .long _ => .retAddr 0
  | .double _ => .retAddr 0
  | v => v
def setV : List Value → Nat → Value → List Value
  | [], _, _ => []
  | _ :: l, 0, v => v :: l
  | a :: l, 1, v => clrV a :: setV l 0 v
  | a :: l, n + 2, v => a :: setV l (n + 1) v
def setW : List Value → Nat → Value → List Value
  | [], _, _ => []
  | _ :: l, 0, v => v :: setV l 0 (.retAddr 0)
  | a :: l, 1, v => clrV a :: setW l 0 v
  | a :: l, n + 2, v => a :: setW l (n + 1) v
/-- how many words a stack takes -/
def stW : List Value → Nat
  | [] => 0
  | .long _ :: l => stW l + 2
  | .double _ :: l => stW l + 2
  | _ :: l => stW l + 1
def jmp (pc : Nat) (off : Int) : Nat := ((pc : Int) + off).toNat
abbrev brC (c : ClassFile.Cond) (x y : Int32) (t f : Nat) : Nat := match c with
  | .eq => if x = y then t else f
  | .ne => if x = y then f else t
  | .lt => if x < y then t else f
  | .ge => if x < y then f else t
  | .gt => if y < x then t else f
  | .le => if y < x then f else t
def swL (pc : Nat) : Int → List Int → List (Int32 × Nat)
  | _, [] => []
  | lo, o :: l => (ci32 lo, jmp pc o) :: swL pc (lo + 1) l
def swT (x : Int32) (d : Nat) : List (Int32 × Nat) → Nat
  | [] => d
  | (k, t) :: l => if x = k then t else swT x d l
def strB : Nat := 1000002
def strOf (a : Nat) : List Nat := strZ.getD (a - strB) []
abbrev isStr (a : Nat) : Prop := strB ≤ a ∧ a < strB + 18
section STEP
variable {β : Type} (M : MI) (G : Prop) (pc : Nat) (ls st : List Value) (s : AS) (K : Prop → Nat → List Value → List Value → AS → β) (bad : β)
abbrev ii2 (f : Int32 → Int32 → Int32) : β := match st with
  | .int y :: .int x :: r => K G (pc + 1) ls (.int (f x y) :: r) s
  | _ => bad
abbrev ll2 (f : Int64 → Int64 → Int64) : β := match st with
  | .long y :: .long x :: r => K G (pc + 1) ls (.long (f x y) :: r) s
  | _ => bad
abbrev ldI (k n : Nat) : β := match getV ls k with
  | .int x => K G (pc + n) ls (.int x :: st) s
  | _ => bad
abbrev ldJ (k n : Nat) : β := match getV ls k with
  | .long x => K G (pc + n) ls (.long x :: st) s
  | _ => bad
abbrev ldR (k n : Nat) : β := match getV ls k with
  | .ref x => K G (pc + n) ls (.ref x :: st) s
  | _ => bad
abbrev stI (k n : Nat) : β := match st with
  | .int x :: r => bif Nat.ble (k + 1) ls.length then K G (pc + n) (setV ls k (.int x)) r s else bad
  | _ => bad
abbrev stR (k n : Nat) : β := match st with
  | .ref x :: r => bif Nat.ble (k + 1) ls.length then K G (pc + n) (setV ls k (.ref x)) r s else bad
  | _ => bad
abbrev stJ (k n : Nat) : β := match st with
  | .long x :: r => bif Nat.ble (k + 2) ls.length then K G (pc + n) (setW ls k (.long x)) r s else bad
  | _ => bad
def stepQ (k : Nat) : β := match k with
  | 0 => match st with
    | .ref a :: r => K (G ∧ ¬ a = 0) (pc + 3) ls r s
    | _ => bad
  | 1 => match st with
    | .int y :: .int x :: r => K G (pc + 3) ls (.int (if x < y then y else x) :: r) s
    | _ => bad
  | 2 => match st with
    | .int y :: .int x :: r => K G (pc + 3) ls (.int (if y < x then y else x) :: r) s
    | _ => bad
  | 3 => match st with
    | .long y :: .long x :: r => K G (pc + 3) ls (.long (if y < x then x else y) :: r) s
    | _ => bad
  | 4 => match st with
    | .long y :: .long x :: r => K G (pc + 3) ls (.long (if y < x then y else x) :: r) s
    | _ => bad
  | 5 => match st with
    | .int n :: .int dp :: .ref b :: .int sp :: .ref a :: r => K (G ∧ ((sT s a = 20 ∧ sT s b = 20) ∧ (¬ sp < 0 ∧ ¬ dp < 0 ∧ ¬ n < 0) ∧ sp.toNatClampNeg + n.toNatClampNeg ≤ sN s a ∧ dp.toNatClampNeg + n.toNatClampNeg ≤ sN s b)) (pc + 3) ls r (rowI s b (va_cpy (sI s a) (sI s b) sp.toNatClampNeg dp.toNatClampNeg n.toNatClampNeg))
    | _ => bad
  | 6 => match st with
    | .ref a :: r => K (G ∧ isStr a) (pc + 3) ls (.int (nI (strOf a).length) :: r) s
    | _ => bad
  | 7 => match st with
    | .int i :: .ref a :: r => K (G ∧ (isStr a ∧ vp_in i (strOf a).length)) (pc + 3) ls (.int (nI ((strOf a).getD i.toNatClampNeg 0)) :: r) s
    | _ => bad
  | 8 => match st with
    | .ref a :: r => K (G ∧ (sT s a = 20 ∧ sX s < 900000 ∧ sN s a ≤ 100000)) (pc + 3) ls (.ref (sX s) :: r) (rowI (newA s 20 (sN s a)) (sX s) (sI s a))
    | _ => bad
  | _ => bad
def stepP (k : Nat) : β := bif Nat.ble (stW st) 8 then stepQ G pc ls st s K bad k else bad
def stepF (k : Nat × Nat × Nat) : β := match st with
  | .ref a :: r => match k.2.2 with
    | 0 => K (G ∧ sT s a = k.1 + 1) (pc + 3) ls (.int (sI s a k.2.1) :: r) s
    | 1 => K (G ∧ sT s a = k.1 + 1) (pc + 3) ls (.int (sI s a k.2.1) :: r) s
    | 2 => K (G ∧ sT s a = k.1 + 1) (pc + 3) ls (.long (sL s a k.2.1) :: r) s
    | 3 => K (G ∧ sT s a = k.1 + 1) (pc + 3) ls (.ref (sR s a k.2.1) :: r) s
    | _ => bad
  | _ => bad
def stepU (k : Nat × Nat × Nat) : β := match st with
  | .int x :: .ref a :: r => match k.2.2 with
    | 0 => K (G ∧ sT s a = k.1 + 1) (pc + 3) ls r (setI s a k.2.1 x)
    | 1 => K (G ∧ (sT s a = k.1 + 1 ∧ (x = nI 0 ∨ x = nI 1))) (pc + 3) ls r (setI s a k.2.1 x)
    | _ => bad
  | .long x :: .ref a :: r => match k.2.2 with
    | 2 => K (G ∧ sT s a = k.1 + 1) (pc + 3) ls r (setJ s a k.2.1 x)
    | _ => bad
  | .ref x :: .ref a :: r => match k.2.2 with
    | 3 => K (G ∧ sT s a = k.1 + 1) (pc + 3) ls r (setR s a k.2.1 x)
    | _ => bad
  | _ => bad
def stepI (i : Instr) : β := match i with
  | .aload_n k => ldR G pc ls st s K bad k.val 1
  | .iload_n k => ldI G pc ls st s K bad k.val 1
  | .lload_n k => ldJ G pc ls st s K bad k.val 1
  | .aload k => ldR G pc ls st s K bad k 2
  | .iload k => ldI G pc ls st s K bad k 2
  | .lload k => ldJ G pc ls st s K bad k 2
  | .astore_n k => stR G pc ls st s K bad k.val 1
  | .istore_n k => stI G pc ls st s K bad k.val 1
  | .lstore_n k => stJ G pc ls st s K bad k.val 1
  | .astore k => stR G pc ls st s K bad k 2
  | .istore k => stI G pc ls st s K bad k 2
  | .lstore k => stJ G pc ls st s K bad k 2
  | .iinc k n => match getV ls k with
    | .int x => K G (pc + 3) (setV ls k (.int (x + ci32 n))) st s
    | _ => bad
  | .iconst n => K G (pc + 1) ls (.int (ci32 n) :: st) s
  | .bipush n => K G (pc + 2) ls (.int (ci32 n) :: st) s
  | .sipush n => K G (pc + 3) ls (.int (ci32 n) :: st) s
  | .lconst n => K G (pc + 1) ls (.long (lN n.val) :: st) s
  | .aconst_null => K G (pc + 1) ls (.ref 0 :: st) s
  | .ldc k => match lkS M.2.1 k with
    | some x => K G (pc + 2) ls (.ref (strB + x) :: st) s
    | none => match lkI M.2.1 k with
      | some x => K G (pc + 2) ls (.int x :: st) s
      | none => bad
  | .ldc_w k => match lkI M.2.1 k with
    | some x => K G (pc + 3) ls (.int x :: st) s
    | none => bad
  | .ldc2_w k => match lkL M.2.1 k with
    | some x => K G (pc + 3) ls (.long x :: st) s
    | none => bad
  | .iadd => ii2 G pc ls st s K bad (fun x y => x + y)
  | .isub => ii2 G pc ls st s K bad (fun x y => x - y)
  | .imul => ii2 G pc ls st s K bad (fun x y => x * y)
  | .iand => ii2 G pc ls st s K bad (fun x y => x &&& y)
  | .ior => ii2 G pc ls st s K bad (fun x y => x ||| y)
  | .ishl => ii2 G pc ls st s K bad (fun x y => x <<< (y &&& 31))
  | .ishr => ii2 G pc ls st s K bad (fun x y => x >>> (y &&& 31))
  | .iushr => ii2 G pc ls st s K bad (fun x y => (x.toUInt32 >>> (y.toUInt32 &&& Int32.toUInt32 31)).toInt32)
  | .idiv => match st with
    | .int y :: .int x :: r => K (G ∧ ¬ y = nI 0) (pc + 1) ls (.int (x / y) :: r) s
    | _ => bad
  | .irem => match st with
    | .int y :: .int x :: r => K (G ∧ ¬ y = nI 0) (pc + 1) ls (.int (x - x / y * y) :: r) s
    | _ => bad
  | .ineg => match st with
    | .int x :: r => K G (pc + 1) ls (.int (-x) :: r) s
    | _ => bad
  | .ladd => ll2 G pc ls st s K bad (fun x y => x + y)
  | .lsub => ll2 G pc ls st s K bad (fun x y => x - y)
  | .lmul => ll2 G pc ls st s K bad (fun x y => x * y)
  | .ldiv => match st with
    | .long y :: .long x :: r => K (G ∧ ¬ y = lN 0) (pc + 1) ls (.long (x / y) :: r) s
    | _ => bad
  | .lrem => match st with
    | .long y :: .long x :: r => K (G ∧ ¬ y = lN 0) (pc + 1) ls (.long (x - x / y * y) :: r) s
    | _ => bad
  | .i2l => match st with
    | .int x :: r => K G (pc + 1) ls (.long x.toInt64 :: r) s
    | _ => bad
  | .l2i => match st with
    | .long x :: r => K G (pc + 1) ls (.int x.toInt32 :: r) s
    | _ => bad
  | .lcmp => match st with
    | .long y :: .long x :: r => K G (pc + 1) ls (.int (lg_cmp x y) :: r) s
    | _ => bad
  | .dup => match st with
    | .int x :: r => K G (pc + 1) ls (.int x :: .int x :: r) s
    | .ref x :: r => K G (pc + 1) ls (.ref x :: .ref x :: r) s
    | _ => bad
  | .dup2 => match st with
    | .int x :: .ref y :: r => K G (pc + 1) ls (.int x :: .ref y :: .int x :: .ref y :: r) s
    | _ => bad
  | .pop => match st with
    | .int _ :: r => K G (pc + 1) ls r s
    | .ref _ :: r => K G (pc + 1) ls r s
    | _ => bad
  | .ifCond c o => match st with
    | .int x :: r => K G (brC c x (nI 0) (jmp pc o) (pc + 3)) ls r s
    | _ => bad
  | .if_icmp c o => match st with
    | .int y :: .int x :: r => K G (brC c x y (jmp pc o) (pc + 3)) ls r s
    | _ => bad
  | .ifnull o => match st with
    | .ref x :: r => K G (if x = 0 then jmp pc o else pc + 3) ls r s
    | _ => bad
  | .ifnonnull o => match st with
    | .ref x :: r => K G (if x = 0 then pc + 3 else jmp pc o) ls r s
    | _ => bad
  | .goto o => K G (jmp pc o) ls st s
  | .tableswitch d lo _ os => match st with
    | .int x :: r => K G (swT x (jmp pc d) (swL pc lo os.toList)) ls r s
    | _ => bad
  | .iaload => match st with
    | .int i :: .ref a :: r => K (G ∧ ((sT s a = 20 ∨ sT s a = 30) ∧ vp_in i (sN s a))) (pc + 1) ls (.int (sI s a i.toNatClampNeg) :: r) s
    | _ => bad
  | .baload => match st with
    | .int i :: .ref a :: r => K (G ∧ (sT s a = 22 ∧ vp_in i (sN s a))) (pc + 1) ls (.int (sI s a i.toNatClampNeg) :: r) s
    | _ => bad
  | .laload => match st with
    | .int i :: .ref a :: r => K (G ∧ (sT s a = 21 ∧ vp_in i (sN s a))) (pc + 1) ls (.long (sL s a i.toNatClampNeg) :: r) s
    | _ => bad
  | .aaload => match st with
    | .int i :: .ref a :: r => K (G ∧ (40 ≤ sT s a ∧ vp_in i (sN s a))) (pc + 1) ls (.ref (sR s a i.toNatClampNeg) :: r) s
    | _ => bad
  | .iastore => match st with
    | .int x :: .int i :: .ref a :: r => K (G ∧ (sT s a = 20 ∧ vp_in i (sN s a))) (pc + 1) ls r (setI s a i.toNatClampNeg x)
    | _ => bad
  | .bastore => match st with
    | .int x :: .int i :: .ref a :: r => K (G ∧ ((sT s a = 22 ∧ vp_in i (sN s a)) ∧ (x = nI 0 ∨ x = nI 1))) (pc + 1) ls r (setI s a i.toNatClampNeg x)
    | _ => bad
  | .lastore => match st with
    | .long x :: .int i :: .ref a :: r => K (G ∧ (sT s a = 21 ∧ vp_in i (sN s a))) (pc + 1) ls r (setJ s a i.toNatClampNeg x)
    | _ => bad
  | .aastore => match st with
    | .ref x :: .int i :: .ref a :: r => K (G ∧ ((40 ≤ sT s a ∧ vp_in i (sN s a)) ∧ (x = 0 ∨ sT s x + 39 = sT s a))) (pc + 1) ls r (setR s a i.toNatClampNeg x)
    | _ => bad
  | .arraylength => match st with
    | .ref a :: r => K (G ∧ 20 ≤ sT s a) (pc + 1) ls (.int (nI (sN s a)) :: r) s
    | _ => bad
  | .new k => match lkN M.2.1 k with
    | some c => bif Nat.ble c 12 then K (G ∧ sX s < 900000) (pc + 3) ls (.ref (sX s) :: st) (newA s (c + 1) (fkZ c).length) else bad
    | none => bad
  | .newarray .int => match st with
    | .int n :: r => K (G ∧ (sX s < 900000 ∧ ¬ n < 0 ∧ n.toNatClampNeg ≤ 100000)) (pc + 2) ls (.ref (sX s) :: r) (newA s 20 n.toNatClampNeg)
    | _ => bad
  | .newarray .long => match st with
    | .int n :: r => K (G ∧ (sX s < 900000 ∧ ¬ n < 0 ∧ n.toNatClampNeg ≤ 100000)) (pc + 2) ls (.ref (sX s) :: r) (newA s 21 n.toNatClampNeg)
    | _ => bad
  | .newarray .boolean => match st with
    | .int n :: r => K (G ∧ (sX s < 900000 ∧ ¬ n < 0 ∧ n.toNatClampNeg ≤ 100000)) (pc + 2) ls (.ref (sX s) :: r) (newA s 22 n.toNatClampNeg)
    | _ => bad
  | .anewarray k => match lkN M.2.1 k with
    | some c => match st with
      | .int n :: r => bif Nat.beq c 3 || Nat.beq c 6 || Nat.beq c 11 then K (G ∧ (sX s < 900000 ∧ ¬ n < 0 ∧ n.toNatClampNeg ≤ 100000)) (pc + 3) ls (.ref (sX s) :: r) (newA s (40 + c) n.toNatClampNeg) else bad
      | _ => bad
    | none => bad
  | .getfield k => match lkF M.2.1 k with
    | some x => stepF G pc ls st s K bad x
    | none => bad
  | .putfield k => match lkF M.2.1 k with
    | some x => stepU G pc ls st s K bad x
    | none => bad
  | .getstatic k => match lkF M.2.1 k with
    | some (_, _, 9) => K G (pc + 3) ls (.ref 1000000 :: st) s
    | _ => bad
  | .checkcast k => match lkN M.2.1 k with
    | some 99 => match st with
      | .ref a :: r => K (G ∧ sT s a = 20) (pc + 3) ls (.ref a :: r) s
      | _ => bad
    | _ => bad
  | .invokestatic k => match lkC M.2.1 k with
    | some (0, x, _) => bif Nat.ble 1 x && Nat.ble x 5 then stepP G pc ls st s K bad x else bad
    | _ => bad
  | .invokevirtual k => match lkC M.2.1 k with
    | some (0, x, _) => bif Nat.ble 6 x then stepP G pc ls st s K bad x else bad
    | _ => bad
  | .invokespecial k => match lkC M.2.1 k with
    | some (0, x, _) => bif Nat.beq x 0 then stepP G pc ls st s K bad x else bad
    | _ => bad
  | _ => bad
def stepC : β := match M.1 pc with
  | some (i, _) => stepI M G pc ls st s K bad i
  | none => bad
end STEP
abbrev Cf : Type := Nat × List Value × List Value × AS
def s0A : AS := (fun _ _ => 0, fun _ _ => 0, fun _ _ => 0, fun _ => 0, fun _ => 0, 0, 0)
abbrev badC : Prop × Cf := (False, (0, [], [], s0A))
def step1 (M : MI) (c : Cf) : Prop × Cf := stepC M True c.1 c.2.1 c.2.2.1 c.2.2.2 (fun g pc ls st s => (g, (pc, ls, st, s))) badC
def blk (M : MI) : Nat → Prop → Nat → List Value → List Value → AS → Prop × Cf
  | 0, G, pc, ls, st, s => (G, (pc, ls, st, s))
  | k + 1, G, pc, ls, st, s => stepC M G pc ls st s (fun g pc' ls' st' s' => blk M k g pc' ls' st' s') badC
/-- the locals of a call -/
def initV : List Value → List Value
  | [] => []
  | .long x :: l => .long x :: .retAddr 0 :: initV l
  | .double x :: l => .double x :: .retAddr 0 :: initV l
  | v :: l => v :: initV l
def padV (n : Nat) (l : List Value) : List Value := l ++ List.replicate (n - l.length) (.retAddr 0)
/-- a returning instruction: what it answers -/
def retI (M : MI) (pc : Nat) (st : List Value) : Prop × Option Value := match M.1 pc with
  | some (.ireturn, _) => match st, M.2.2.2 with
    | [.int x], 1 => (True, some (.int x))
    | [.int x], 2 => (x = nI 0 ∨ x = nI 1, some (.int x))
    | _, _ => (False, none)
  | some (.lreturn, _) => match st, M.2.2.2 with
    | [.long x], 3 => (True, some (.long x))
    | _, _ => (False, none)
  | some (.areturn, _) => match st, M.2.2.2 with
    | [.ref x], 4 => (True, some (.ref x))
    | _, _ => (False, none)
  | some (.return_, _) => match st, M.2.2.2 with
    | [], 0 => (True, none)
    | _, _ => (False, none)
  | _ => (False, none)
/-- a call: (how: 1 static, 2 instance, 3 a constructor; the method; how many arguments) -/
def callZ (M : MI) (pc : Nat) : Option (Nat × Nat × Nat) := match M.1 pc with
  | some (.invokestatic k, _) => match lkC M.2.1 k with
    | some (1, x, n) => some (1, x, n)
    | _ => none
  | some (.invokevirtual k, _) => match lkC M.2.1 k with
    | some (2, x, n) => some (2, x, n)
    | _ => none
  | some (.invokespecial k, _) => match lkC M.2.1 k with
    | some (3, x, n) => some (3, x, n)
    | _ => none
  | _ => none
/-- the receiver is an object of the callee's class -/
def recvI (how : Nat) (M : MI) (as : List Value) (s : AS) : Prop := match how with
  | 2 => match as with
    | .ref a :: _ => sT s a = M.2.1 + 1
    | _ => False
  | 3 => match as with
    | .ref a :: _ => ¬ a = 0
    | _ => False
  | _ => True
def Run : Nat → Nat → MI → Cf → Option Value × AS → Prop
  | 0, _, _, _, _ => False
  | n + 1, d, M, c, out =>
    ((retI M c.1 c.2.2.1).1 ∧ out = ((retI M c.1 c.2.2.1).2, c.2.2.2)) ∨
    ((step1 M c).1 ∧ Run n d M (step1 M c).2 out) ∨
    (∃ (how x na e : Nat) (as r : List Value) (v : Option Value) (s1 : AS), callZ M c.1 = some (how, x, na) ∧ e + 1 = d ∧ c.2.2.1 = as.reverse ++ r ∧ as.length = (if how = 1 then na else na + 1) ∧ recvI how (methZ x) as c.2.2.2 ∧ stW r ≤ 8 ∧ (initV as).length ≤ (methZ x).2.2.1 ∧
      Run n e (methZ x) (0, padV (methZ x).2.2.1 (initV as), [], c.2.2.2) (v, s1) ∧ Run n d M (c.1 + 3, c.2.1, v.toList ++ r, s1) out)
def Ev (d : Nat) (M : MI) (pc : Nat) (ls st : List Value) (s : AS) (out : Option Value × AS) : Prop := ∃ n, Run n d M (pc, ls, st, s) out
