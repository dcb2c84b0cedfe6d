/-! ===== the small machine: what the class' and the reference's bytecode does, as a plain function over numbered cells ===== -/
abbrev zM : Type := (Nat → Nat → Int32) × (Nat → Nat → Int64) × (Nat → Nat → Nat) × Nat
/-- a place of the small machine: pc, locals, operand stack, cells -/
abbrev zCf : Type := Nat × List Value × List Value × zM
abbrev zO : Type := Option Value × zM
abbrev zRs : Type := zO ⊕ (zCf ⊕ (Nat × List Value × zM × Nat × List Value × List Value))
def zup {α : Type} (f : Nat → Nat → α) (a k : Nat) (x : α) : Nat → Nat → α := fun b => if b = a then fun j => if j = k then x else f b j else f b
def zro {α : Type} (f : Nat → Nat → α) (a : Nat) (r : Nat → α) : Nat → Nat → α := fun b => if b = a then r else f b
def zsI (M : zM) (a k : Nat) (x : Int32) : zM := (zup M.1 a k x, M.2)
def zsL (M : zM) (a k : Nat) (x : Int64) : zM := (M.1, zup M.2.1 a k x, M.2.2)
def zsR (M : zM) (a k : Nat) (x : Nat) : zM := (M.1, M.2.1, zup M.2.2.1 a k x, M.2.2.2)
def zrI (M : zM) (a : Nat) (r : Nat → Int32) : zM := (zro M.1 a r, M.2)
/-- no cell: null -/
abbrev zNul : Nat := 1000000
/-- a new cell -/
def znw (M : zM) : zM := (zro M.1 M.2.2.2 (fun _ => 0), zro M.2.1 M.2.2.2 (fun _ => 0), zro M.2.2.1 M.2.2.2 (fun _ => zNul), M.2.2.2 + 1)
/-- a new array of n rows -/
def znm (M : zM) (n : Nat) : zM := ((fun b => if M.2.2.2 ≤ b then fun _ => 0 else M.1 b), (fun b => if M.2.2.2 ≤ b then fun _ => 0 else M.2.1 b), (fun b => if b = M.2.2.2 then (fun j => if j < n then M.2.2.2 + 1 + j else zNul) else if M.2.2.2 < b then fun _ => zNul else M.2.2.1 b), M.2.2.2 + 1 + n)
def zis (M : zM) (a ci : Nat) : Prop := a < M.2.2.2 ∧ (zsh a).1 = ci
def zln (a : Nat) : Nat := (zsh a).2
abbrev zjk : Value := .float 0
def zget : List Value → Nat → Value
  | [], _ => zjk
  | v :: _, 0 => v
  | _ :: l, k + 1 => zget l k
def zset : List Value → Nat → Value → List Value
  | [], _, _ => []
  | _ :: l, 0, v => v :: l
  | w :: l, k + 1, v => w :: zset l k v
def zwide : Value → Bool
  | .long _ => true
  | .double _ => true
  | _ => false
/-- what stood half at k goes -/
def zkil (l : List Value) : Nat → List Value
  | 0 => l
  | k + 1 => match zwide (zget l k) with
    | true => zset l k zjk
    | false => l
/-- stored at k: one place, or two -/
def zst1 (l : List Value) (k : Nat) (v : Value) : List Value := zset (zkil l k) k v
def zst2 (l : List Value) (k : Nat) (v : Value) : List Value := zset (zset (zkil l k) k v) (k + 1) zjk
def zcat : List Value → Nat
  | [] => 0
  | v :: l => match zwide v with
    | true => 2 + zcat l
    | false => 1 + zcat l
def zpop : Nat → List Value → List Value → Option (List Value × List Value)
  | 0, st, acc => some (acc, st)
  | n + 1, v :: st, acc => zpop n st (v :: acc)
  | _ + 1, [], _ => none
/-- locals at a method's begin -/
def zargs : List Value → List Value
  | [] => []
  | v :: l => match zwide v with
    | true => v :: zjk :: zargs l
    | false => v :: zargs l
def zpad : Nat → List Value
  | 0 => []
  | n + 1 => zjk :: zpad n
def zloc (ml : Nat) (as : List Value) : List Value := zargs as ++ zpad (ml - (zargs as).length)
abbrev zgo (G : List Prop) (pc : Nat) (ls st : List Value) (M : zM) : Option (List Prop × zRs) := some (G, .inr (.inl (pc, ls, st, M)))
def z1 (st : List Value) (f : Int32 → List Value → Option (List Prop × zRs)) : Option (List Prop × zRs) := match st with
  | .int x :: r => f x r
  | _ => none
def z2 (st : List Value) (f : Int32 → Int32 → List Value → Option (List Prop × zRs)) : Option (List Prop × zRs) := match st with
  | .int y :: .int x :: r => f x y r
  | _ => none
def z1l (st : List Value) (f : Int64 → List Value → Option (List Prop × zRs)) : Option (List Prop × zRs) := match st with
  | .long x :: r => f x r
  | _ => none
def z2l (st : List Value) (f : Int64 → Int64 → List Value → Option (List Prop × zRs)) : Option (List Prop × zRs) := match st with
  | .long y :: .long x :: r => f x y r
  | _ => none
def zldi (ls : List Value) (k : Nat) (f : Int32 → Option (List Prop × zRs)) : Option (List Prop × zRs) := match zget ls k with
  | .int x => f x
  | _ => none
def zldl (ls : List Value) (k : Nat) (f : Int64 → Option (List Prop × zRs)) : Option (List Prop × zRs) := match zget ls k with
  | .long x => f x
  | _ => none
def zlda (ls : List Value) (k : Nat) (f : Value → Option (List Prop × zRs)) : Option (List Prop × zRs) := match zget ls k with
  | .ref a => f (.ref a)
  | .retAddr a => f (.retAddr a)
  | .null => f .null
  | _ => none
def zsta (st : List Value) (f : Value → List Value → Option (List Prop × zRs)) : Option (List Prop × zRs) := match st with
  | .ref a :: r => f (.ref a) r
  | .retAddr a :: r => f (.retAddr a) r
  | .null :: r => f .null r
  | _ => none
def zbr (c : ClassFile.Cond) (x y : Int32) : Prop := match c with
  | .eq => x = y
  | .ne => ¬ x = y
  | .lt => x < y
  | .ge => y ≤ x
  | .gt => y < x
  | .le => x ≤ y
def zbrD (c : ClassFile.Cond) (x y : Int32) : Decidable (zbr c x y) := match c with
  | .eq => (inferInstance : Decidable (x = y))
  | .ne => (inferInstance : Decidable (¬ x = y))
  | .lt => (inferInstance : Decidable (x < y))
  | .ge => (inferInstance : Decidable (y ≤ x))
  | .gt => (inferInstance : Decidable (y < x))
  | .le => (inferInstance : Decidable (x ≤ y))
/-- jumps -/
abbrev zif (c : ClassFile.Cond) (x y : Int32) (t f : Nat) : Nat := @ite Nat (zbr c x y) (zbrD c x y) t f
def zsw (pc : Nat) (d lo hi : Int) (offs : Array Int) (x : Int32) : Nat := if x.toInt < lo ∨ hi < x.toInt then ((pc : Int) + d).toNat else ((pc : Int) + offs.getD (x.toInt - lo).toNat d).toNat
def zlk (pc : Nat) (d : Int) (ps : Array (Int × Int)) (x : Int32) : Nat := ((pc : Int) + Op.lookupswitch.offset ps.toList d x.toInt).toNat
/-- a field's value by its type: 0 int, 1 long, 2 a reference, 3 boolean -/
def zfv (M : zM) (a k : Nat) : Nat → Value
  | 0 => .int (M.1 a k)
  | 1 => .long (M.2.1 a k)
  | 2 => .ref (M.2.2.1 a k)
  | _ => .int (M.1 a k)
def zfg (M : zM) (a k : Nat) : Nat → List Prop
  | 2 => [M.2.2.1 a k < zNul]
  | _ => []
def zfp (st : List Value) (t k : Nat) (M : zM) (f : Nat → List Prop → zM → List Value → Option (List Prop × zRs)) : Option (List Prop × zRs) := match t, st with
  | 0, .int x :: .ref a :: r => f a [] (zsI M a k x) r
  | 1, .long x :: .ref a :: r => f a [] (zsL M a k x) r
  | 2, .ref b :: .ref a :: r => f a [b < zNul] (zsR M a k b) r
  | 3, .int x :: .ref a :: r => f a [x = 0 ∨ x = 1] (zsI M a k x) r
  | _, _ => none
def zald (st : List Value) (f : Int32 → Nat → List Value → Option (List Prop × zRs)) (g : Int32 → Nat → List Value → Option (List Prop × zRs)) : Option (List Prop × zRs) := match st with
  | .int i :: .ref a :: r => f i a r
  | .int i :: .retAddr j :: r => g i j r
  | _ => none
def zast (st : List Value) (f : Int32 → Int32 → Nat → List Value → Option (List Prop × zRs)) : Option (List Prop × zRs) := match st with
  | .int x :: .int i :: .ref a :: r => f x i a r
  | _ => none
def zastl (st : List Value) (f : Int64 → Int32 → Nat → List Value → Option (List Prop × zRs)) : Option (List Prop × zRs) := match st with
  | .long x :: .int i :: .ref a :: r => f x i a r
  | _ => none
def zasta (st : List Value) (f : Nat → Int32 → Nat → List Value → Option (List Prop × zRs)) : Option (List Prop × zRs) := match st with
  | .ref v :: .int i :: .ref a :: r => f v i a r
  | _ => none
def zdup (st : List Value) (f : Value → List Value → Option (List Prop × zRs)) : Option (List Prop × zRs) := match st with
  | v :: r => match zwide v with
    | true => none
    | false => f v r
  | [] => none
def zdup2 (st : List Value) (f : Value → Value → List Value → Option (List Prop × zRs)) : Option (List Prop × zRs) := match st with
  | v :: w :: r => match zwide v, zwide w with
    | false, false => f v w r
    | _, _ => none
  | _ => none
def znull (st : List Value) (f : Option Nat → List Value → Option (List Prop × zRs)) : Option (List Prop × zRs) := match st with
  | .null :: r => f none r
  | .ref a :: r => f (some a) r
  | _ => none
def zcal (nt z : Nat) (st : List Value) (f : List Value → List Value → Option (List Prop × zRs)) : Option (List Prop × zRs) := match zpop nt st [] with
  | some (as, r) => match Nat.ble (zcat r) 8, Nat.ble (zargs as).length (zml z) with
    | true, true => f as r
    | _, _ => none
  | none => none
def zrcv (as : List Value) (f : Option Nat → Nat → Option (List Prop × zRs)) : Option (List Prop × zRs) := match as with
  | .ref a :: _ => f (some a) 0
  | .retAddr j :: _ => f none j
  | _ => none
def zcpy (st : List Value) (f : Nat → Int32 → Nat → Int32 → Int32 → List Value → Option (List Prop × zRs)) : Option (List Prop × zRs) := match st with
  | .int n :: .int dp :: .ref b :: .int sp :: .ref a :: r => f a sp b dp n r
  | _ => none
/-- a stack small enough for a call -/
def zsm (r : List Value) (x : Option (List Prop × zRs)) : Option (List Prop × zRs) := match Nat.ble (zcat r) 8 with
  | true => x
  | false => none
/-- one instruction: under which condition, and what comes of it (X: the script) -/
def zst (X : (Nat → Int32) × Nat) (rk : Nat) (i : Instr) (aux pc : Nat) (ls st : List Value) (M : zM) : Option (List Prop × zRs) := match i with
  | .iconst _ => zgo [] (pc + 1) ls (.int (zicT aux) :: st) M
  | .bipush _ => zgo [] (pc + 2) ls (.int (zicT aux) :: st) M
  | .sipush _ => zgo [] (pc + 3) ls (.int (zicT aux) :: st) M
  | .lconst _ => zgo [] (pc + 1) ls (.long (zlc aux) :: st) M
  | .aconst_null => zgo [] (pc + 1) ls (.null :: st) M
  | .ldc _ => match aux with
    | 0 => none
    | a + 1 => match Nat.ble a 99 with
      | true => zgo [] (pc + 2) ls (.retAddr a :: st) M
      | false => zgo [] (pc + 2) ls (.int (Int32.ofNat a) :: st) M
  | .ldc_w _ => match aux with
    | 0 => none
    | a + 1 => match Nat.ble a 99 with
      | true => zgo [] (pc + 3) ls (.retAddr a :: st) M
      | false => zgo [] (pc + 3) ls (.int (Int32.ofNat a) :: st) M
  | .ldc2_w _ => zgo [] (pc + 3) ls (.long (zlc aux) :: st) M
  | .iload_n k => zldi ls k fun x => zgo [] (pc + 1) ls (.int x :: st) M
  | .iload k => zldi ls k fun x => zgo [] (pc + 2) ls (.int x :: st) M
  | .lload_n k => zldl ls k fun x => zgo [] (pc + 1) ls (.long x :: st) M
  | .lload k => zldl ls k fun x => zgo [] (pc + 2) ls (.long x :: st) M
  | .aload_n k => zlda ls k fun x => zgo [] (pc + 1) ls (x :: st) M
  | .aload k => zlda ls k fun x => zgo [] (pc + 2) ls (x :: st) M
  | .istore_n k => z1 st fun x r => zgo [] (pc + 1) (zst1 ls k (.int x)) r M
  | .istore k => z1 st fun x r => zgo [] (pc + 2) (zst1 ls k (.int x)) r M
  | .lstore_n k => z1l st fun x r => zgo [] (pc + 1) (zst2 ls k (.long x)) r M
  | .lstore k => z1l st fun x r => zgo [] (pc + 2) (zst2 ls k (.long x)) r M
  | .astore_n k => zsta st fun x r => zgo [] (pc + 1) (zst1 ls k x) r M
  | .astore k => zsta st fun x r => zgo [] (pc + 2) (zst1 ls k x) r M
  | .iinc k _ => zldi ls k fun x => zgo [] (pc + 3) (zst1 ls k (.int (x + zicT aux))) st M
  | .iadd => z2 st fun x y r => zgo [] (pc + 1) ls (.int (x + y) :: r) M
  | .isub => z2 st fun x y r => zgo [] (pc + 1) ls (.int (x - y) :: r) M
  | .imul => z2 st fun x y r => zgo [] (pc + 1) ls (.int (x * y) :: r) M
  | .iand => z2 st fun x y r => zgo [] (pc + 1) ls (.int (x &&& y) :: r) M
  | .ior => z2 st fun x y r => zgo [] (pc + 1) ls (.int (x ||| y) :: r) M
  | .ixor => z2 st fun x y r => zgo [] (pc + 1) ls (.int (x ^^^ y) :: r) M
  | .ishl => z2 st fun x y r => zgo [] (pc + 1) ls (.int (x <<< (y &&& 31)) :: r) M
  | .ishr => z2 st fun x y r => zgo [] (pc + 1) ls (.int (x >>> (y &&& 31)) :: r) M
  | .idiv => z2 st fun x y r => zgo [¬ y = 0] (pc + 1) ls (.int (x / y) :: r) M
  | .irem => z2 st fun x y r => zgo [¬ y = 0] (pc + 1) ls (.int (x - x / y * y) :: r) M
  | .ineg => z1 st fun x r => zgo [] (pc + 1) ls (.int (-x) :: r) M
  | .i2l => z1 st fun x r => zgo [] (pc + 1) ls (.long x.toInt64 :: r) M
  | .i2b => z1 st fun x r => zgo [] (pc + 1) ls (.int x.toInt8.toInt32 :: r) M
  | .i2c => z1 st fun x r => zgo [] (pc + 1) ls (.int (x.toUInt32 % 65536).toInt32 :: r) M
  | .l2i => z1l st fun x r => zgo [] (pc + 1) ls (.int x.toInt32 :: r) M
  | .ladd => z2l st fun x y r => zgo [] (pc + 1) ls (.long (x + y) :: r) M
  | .lsub => z2l st fun x y r => zgo [] (pc + 1) ls (.long (x - y) :: r) M
  | .lmul => z2l st fun x y r => zgo [] (pc + 1) ls (.long (x * y) :: r) M
  | .land => z2l st fun x y r => zgo [] (pc + 1) ls (.long (x &&& y) :: r) M
  | .lor => z2l st fun x y r => zgo [] (pc + 1) ls (.long (x ||| y) :: r) M
  | .ldiv => z2l st fun x y r => zgo [¬ y = 0] (pc + 1) ls (.long (x / y) :: r) M
  | .lrem => z2l st fun x y r => zgo [¬ y = 0] (pc + 1) ls (.long (x - x / y * y) :: r) M
  | .lcmp => z2l st fun x y r => zgo [] (pc + 1) ls (.int (lg_cmp x y) :: r) M
  | .dup => zdup st fun v r => zgo [] (pc + 1) ls (v :: v :: r) M
  | .dup2 => zdup2 st fun v w r => zgo [] (pc + 1) ls (v :: w :: v :: w :: r) M
  | .pop => zdup st fun _ r => zgo [] (pc + 1) ls r M
  | .goto _ => zgo [] aux ls st M
  | .ifCond c _ => z1 st fun x r => zgo [] (zif c x 0 aux (pc + 3)) ls r M
  | .if_icmp c _ => z2 st fun x y r => zgo [] (zif c x y aux (pc + 3)) ls r M
  | .ifnonnull _ => znull st fun x r => zgo [] (match x with | some _ => aux | none => pc + 3) ls r M
  | .tableswitch d lo hi offs => z1 st fun x r => zgo [] (zsw pc d lo hi offs x) ls r M
  | .lookupswitch d ps => z1 st fun x r => zgo [] (zlk pc d ps x) ls r M
  | .getfield _ => match st with
    | .ref a :: r => zgo (zis M a (aux / 100) :: zfg M a (aux % 100) (zft (aux / 100) (aux % 100))) (pc + 3) ls (zfv M a (aux % 100) (zft (aux / 100) (aux % 100)) :: r) M
    | .retAddr j :: r => match Nat.ble 100000 aux with
      | true => zgo [j < znS] (pc + 3) ls ((match aux - 100000 with | 0 => .retAddr (30 + j) | _ => .int 0) :: r) M
      | false => none
    | _ => none
  | .putfield _ => zfp st (zft (aux / 100) (aux % 100)) (aux % 100) M fun a G M' r => zgo (zis M a (aux / 100) :: G) (pc + 3) ls r M'
  | .getstatic _ => zgo [] (pc + 3) ls ((match aux with | 0 => .int 1 | 12 => .float 1 | a + 1 => .retAddr (60 + a)) :: st) M
  | .iaload => zald st (fun x a r => zgo [zis M a 20, vp_in x (zln a)] (pc + 1) ls (.int (M.1 a x.toNatClampNeg) :: r) M)
      (fun x j r => zgo [60 ≤ j, j ≤ 70, vp_in x (zxn X j)] (pc + 1) ls (.int (zxf X j x.toNatClampNeg) :: r) M)
  | .baload => zald st (fun x a r => zgo [zis M a aux, vp_in x (zln a)] (pc + 1) ls (.int (M.1 a x.toNatClampNeg) :: r) M)
      (fun x j r => zgo [30 ≤ j, j < 30 + znS, vp_in x (zxn X j)] (pc + 1) ls (.int (zxf X j x.toNatClampNeg) :: r) M)
  | .laload => zald st (fun x a r => zgo [zis M a 23, vp_in x (zln a)] (pc + 1) ls (.long (M.2.1 a x.toNatClampNeg) :: r) M) (fun _ _ _ => none)
  | .aaload => zald st (fun x a r => zgo [zis M a aux, vp_in x (zln a), M.2.2.1 a x.toNatClampNeg < zNul] (pc + 1) ls (.ref (M.2.2.1 a x.toNatClampNeg) :: r) M) (fun _ _ _ => none)
  | .iastore => zast st fun v x a r => zgo [zis M a 20, vp_in x (zln a)] (pc + 1) ls r (zsI M a x.toNatClampNeg v)
  | .bastore => zast st fun v x a r => zgo [zis M a aux, vp_in x (zln a)] (pc + 1) ls r (zsI M a x.toNatClampNeg (match aux with | 21 => v.toInt8.toInt32 | _ => v &&& 1))
  | .lastore => zastl st fun v x a r => zgo [zis M a 23, vp_in x (zln a)] (pc + 1) ls r (zsL M a x.toNatClampNeg v)
  | .aastore => zasta st fun v x a r => zgo [zis M a aux, vp_in x (zln a), zis M v (zel aux), v < zNul] (pc + 1) ls r (zsR M a x.toNatClampNeg v)
  | .arraylength => match st with
    | .ref a :: r => zgo [a < M.2.2.2, 20 ≤ (zsh a).1, (zsh a).1 < 30] (pc + 1) ls (.int (Int32.ofNat (zln a)) :: r) M
    | .retAddr j :: r => zgo [(30 ≤ j ∧ j < 30 + znS) ∨ j = 70] (pc + 1) ls (.int (Int32.ofNat (zxn X j)) :: r) M
    | _ => none
  | .new _ => zgo [M.2.2.2 < zNC, zsh M.2.2.2 = (aux, znf aux)] (pc + 3) ls (.ref M.2.2.2 :: st) (znw M)
  | .newarray _ => z1 st fun n r => zgo [M.2.2.2 < zNC, ¬ n < 0, zsh M.2.2.2 = (aux, n.toNatClampNeg)] (pc + 2) ls (.ref M.2.2.2 :: r) (znw M)
  | .anewarray _ => z1 st fun n r => zgo [M.2.2.2 < zNC, ¬ n < 0, zsh M.2.2.2 = (aux, n.toNatClampNeg)] (pc + 3) ls (.ref M.2.2.2 :: r) (znw M)
  | .multianewarray _ _ => z2 st fun n k r => zgo [M.2.2.2 + n.toNatClampNeg < zNC, ¬ n < 0, ¬ k < 0, zsh M.2.2.2 = (24, n.toNatClampNeg), ∀ j, j < n.toNatClampNeg → zsh (M.2.2.2 + 1 + j) = (20, k.toNatClampNeg), k.toNatClampNeg ≤ 3000] (pc + 4) ls (.ref M.2.2.2 :: r) (znm M n.toNatClampNeg)
  | .invokevirtual _ => zcal (aux % 10) (aux / 10) st fun as r => zrcv as fun o j => match o with
    | some a => some ([zis M a (zci (aux / 10))], .inr (.inr (aux / 10, as, M, pc + 3, ls, r)))
    | none => some ([zci (aux / 10) = 14, j < znS], .inr (.inr (aux / 10, as, M, pc + 3, ls, r)))
  | .invokestatic _ => match Nat.beq aux 9998 with
    | true => zcpy st fun a sp b dp n r => match Nat.ble (zcat r) 8 with
      | true => zgo [zis M a 20, zis M b 20, ¬ a = b, ¬ sp < 0, ¬ dp < 0, ¬ n < 0, sp.toNatClampNeg + n.toNatClampNeg ≤ zln a, dp.toNatClampNeg + n.toNatClampNeg ≤ zln b] (pc + 3) ls r (zrI M b (va_cpy (M.1 a) (M.1 b) sp.toNatClampNeg dp.toNatClampNeg n.toNatClampNeg))
      | false => none
    | false => match Nat.beq aux 9990 with
      | true => z2 st fun x y r => zsm r (zgo [] (pc + 3) ls (.int (if y < x then y else x) :: r) M)
      | false => match Nat.beq aux 9991 with
        | true => z2 st fun x y r => zsm r (zgo [] (pc + 3) ls (.int (if x < y then y else x) :: r) M)
        | false => match Nat.beq aux 9992 with
          | true => z1 st fun x r => zsm r (zgo [] (pc + 3) ls (.int (if 0 ≤ x then x else 0 - x) :: r) M)
          | false => zcal (aux % 10) (aux / 10) st fun as r => some ([], .inr (.inr (aux / 10, as, M, pc + 3, ls, r)))
  | .invokespecial _ => match Nat.beq aux 9999 with
    | true => match st with
      | .ref _ :: r => match Nat.ble (zcat r) 8 with
        | true => zgo [] (pc + 3) ls r M
        | false => none
      | _ => none
    | false => zcal (aux % 10) (aux / 10) st fun as r => zrcv as fun o _ => match o with
      | some _ => some ([], .inr (.inr (aux / 10, as, M, pc + 3, ls, r)))
      | none => none
  | .ireturn => match st with
    | [.int x] => some ([zrg rk x], .inl (some (.int x), M))
    | _ => none
  | .lreturn => match st with
    | [.long x] => some ([rk = 3], .inl (some (.long x), M))
    | _ => none
  | .areturn => match st with
    | [.ref a] => some ([rk = 4], .inl (some (.ref a), M))
    | [.retAddr a] => some ([rk = 4], .inl (some (.retAddr a), M))
    | _ => none
  | .return_ => match st with
    | [] => some ([rk = 0], .inl (none, M))
    | _ => none
  | _ => none
/-! ===== its run, and the run's limit ===== -/
def zall : List Prop → Prop
  | [] => True
  | [p] => p
  | p :: q :: l => p ∧ zall (q :: l)
/-- what came back, on the caller's stack -/
def zps (v : Option Value) (r : List Value) : List Value := match v with
  | some v => v :: r
  | none => r
noncomputable def zstp (X : (Nat → Int32) × Nat) (y : Nat) (c : zCf) : Option (List Prop × zRs) := match zt y c.1 with
  | some (i, aux) => zst X (zrk y) i aux c.1 c.2.1 c.2.2.1 c.2.2.2
  | none => none
def zrb (run : Nat → Nat → zCf → Option zO) (d y : Nat) (r : zRs) : Option zO := match r with
  | .inl o => some o
  | .inr (.inl c') => run d y c'
  | .inr (.inr (z, as, M, pc, ls, rest)) => match d with
    | 0 => none
    | d' + 1 => match run d' z (0, zloc (zml z) as, [], M) with
      | none => none
      | some o => run d y (pc, ls, zps o.1 rest, o.2)
noncomputable def zrun (X : (Nat → Int32) × Nat) : Nat → Nat → Nat → zCf → Option zO
  | 0, _, _, _ => none
  | n + 1, d, y, c => match zstp X y c with
    | none => none
    | some (gs, r) => @ite _ (zall gs) (Classical.propDecidable _) (zrb (zrun X n) d y r) none
theorem zrun_up (X : (Nat → Int32) × Nat) : ∀ (n d y : Nat) (c : zCf) (o : zO), zrun X n d y c = some o → zrun X (n + 1) d y c = some o := by
  intro n
  induction n with
  | zero => intro d y c o h; simp [zrun] at h
  | succ n ih =>
    intro d y c o h
    rw [zrun] at h ⊢
    cases hs : zstp X y c with
    | none => rw [hs] at h; simp at h
    | some q =>
      obtain ⟨gs, r⟩ := q
      rw [hs] at h
      dsimp only at h ⊢
      by_cases hg : zall gs
      · rw [if_pos hg] at h ⊢
        rcases r with o' | c' | ⟨z, as, M, pc, ls, rest⟩
        · exact h
        · exact ih _ _ _ _ h
        · dsimp only [zrb] at h ⊢
          cases d with
          | zero => simp at h
          | succ d =>
            dsimp only at h ⊢
            cases hz : zrun X n d z (0, zloc (zml z) as, [], M) with
            | none => rw [hz] at h; simp at h
            | some o1 =>
              rw [hz] at h
              rw [ih _ _ _ _ hz]
              exact ih _ _ _ _ h
      · rw [if_neg hg] at h
        simp at h
theorem zrun_le (X : (Nat → Int32) × Nat) {n m d y : Nat} {c : zCf} {o : zO} (h : zrun X n d y c = some o) (hm : n ≤ m) : zrun X m d y c = some o := by
  induction hm with
  | refl => exact h
  | step _ ih => exact zrun_up X _ _ _ _ _ ih
/-- the run's limit -/
noncomputable def zR (X : (Nat → Int32) × Nat) (d y : Nat) (c : zCf) : Option zO := @dite _ (∃ (n : Nat) (o : zO), zrun X n d y c = some o) (Classical.propDecidable _) (fun h => some (Classical.choose (Classical.choose_spec h))) (fun _ => none)
theorem zR_of (X : (Nat → Int32) × Nat) {n d y : Nat} {c : zCf} {o : zO} (h : zrun X n d y c = some o) : zR X d y c = some o := by
  have hx : ∃ (n : Nat) (o : zO), zrun X n d y c = some o := ⟨n, o, h⟩
  unfold zR
  rw [dif_pos hx]
  have h2 := Classical.choose_spec (Classical.choose_spec hx)
  have h3 := zrun_le X h (Nat.le_max_left n (Classical.choose hx))
  have h4 := zrun_le X h2 (Nat.le_max_right n (Classical.choose hx))
  rw [h3] at h4
  exact h4.symm
theorem zR_to (X : (Nat → Int32) × Nat) {d y : Nat} {c : zCf} {o : zO} (h : zR X d y c = some o) : ∃ n, zrun X n d y c = some o := by
  unfold zR at h
  by_cases hx : ∃ (n : Nat) (o : zO), zrun X n d y c = some o
  · rw [dif_pos hx] at h
    have h2 := Classical.choose_spec (Classical.choose_spec hx)
    exact ⟨_, by rw [h2]; exact h⟩
  · rw [dif_neg hx] at h
    cases h
/-- a whole call -/
noncomputable def zC (X : (Nat → Int32) × Nat) (d z : Nat) (as : List Value) (M : zM) : Option zO := zR X d z (0, zloc (zml z) as, [], M)
noncomputable def zfin (X : (Nat → Int32) × Nat) (d y : Nat) (r : zRs) : Option zO := match r with
  | .inl o => some o
  | .inr (.inl c) => zR X d y c
  | .inr (.inr (z, as, M, pc, ls, rest)) => match d with
    | 0 => none
    | d' + 1 => (zC X d' z as M).bind fun o => zR X d y (pc, ls, zps o.1 rest, o.2)
theorem zR_stp (X : (Nat → Int32) × Nat) {d y : Nat} {c : zCf} {gs : List Prop} {r : zRs} (h : zstp X y c = some (gs, r)) (hg : zall gs) : zR X d y c = zfin X d y r := by
  have key : ∀ n, zrun X (n + 1) d y c = zrb (zrun X n) d y r := by
    intro n
    rw [zrun, h]
    dsimp only
    rw [if_pos hg]
  rcases r with o' | c' | ⟨z, as, M, pc, ls, rest⟩
  · exact zR_of X (n := 1) (key 0)
  · show zR X d y c = zR X d y c'
    cases hz : zR X d y c' with
    | some o =>
      obtain ⟨n, hn⟩ := zR_to X hz
      exact zR_of X (n := n + 1) ((key n).trans hn)
    | none =>
      cases hz2 : zR X d y c with
      | none => rfl
      | some o =>
        obtain ⟨n, hn⟩ := zR_to X hz2
        have h3 := (key n).symm.trans (zrun_up X _ _ _ _ _ hn)
        have h4 : zR X d y c' = some o := zR_of X (n := n) h3
        rw [hz] at h4
        cases h4
  · cases d with
    | zero =>
      show zR X 0 y c = none
      cases hz2 : zR X 0 y c with
      | none => rfl
      | some o =>
        obtain ⟨n, hn⟩ := zR_to X hz2
        have h3 := (key n).symm.trans (zrun_up X _ _ _ _ _ hn)
        cases h3
    | succ d =>
      show zR X (d + 1) y c = (zC X d z as M).bind fun o => zR X (d + 1) y (pc, ls, zps o.1 rest, o.2)
      cases hz2 : zR X (d + 1) y c with
      | some o =>
        obtain ⟨n, hn⟩ := zR_to X hz2
        have h3 := (key n).symm.trans (zrun_up X _ _ _ _ _ hn)
        dsimp only [zrb] at h3
        cases h4 : zrun X n d z (0, zloc (zml z) as, [], M) with
        | none => rw [h4] at h3; cases h3
        | some o1 =>
          rw [h4] at h3
          dsimp only at h3
          have h5 : zC X d z as M = some o1 := zR_of X h4
          rw [h5, Option.bind_some, zR_of X h3]
      | none =>
        cases h5 : zC X d z as M with
        | none => rfl
        | some o1 =>
          rw [Option.bind_some]
          cases h6 : zR X (d + 1) y (pc, ls, zps o1.1 rest, o1.2) with
          | none => rfl
          | some o =>
            obtain ⟨n1, hn1⟩ := zR_to X h5
            obtain ⟨n2, hn2⟩ := zR_to X h6
            have h7 : zR X (d + 1) y c = some o := zR_of X (n := max n1 n2 + 1) ((key _).trans (by
              dsimp only [zrb]
              rw [zrun_le X hn1 (Nat.le_max_left n1 n2)]
              exact zrun_le X hn2 (Nat.le_max_right n1 n2)))
            rw [hz2] at h7
            cases h7
/-- many instructions in a row, the last of any kind -/
def zjs (X : (Nat → Int32) × Nat) (rk : Nat) (tab : Nat → Option (Instr × Nat)) : Nat → zCf → Option (List Prop × zRs)
  | 0, c => some ([], .inr (.inl c))
  | n + 1, c => match tab c.1 with
    | none => none
    | some (i, aux) => match zst X rk i aux c.1 c.2.1 c.2.2.1 c.2.2.2 with
      | none => none
      | some (gs, r) => match n with
        | 0 => some (gs, r)
        | _ + 1 => match r with
          | .inr (.inl c') => match zjs X rk tab n c' with
            | none => none
            | some (gs', r') => some (gs ++ gs', r')
          | _ => none
theorem zall_cons {p : Prop} {l : List Prop} : zall (p :: l) ↔ p ∧ zall l := by
  cases l with
  | nil => simp [zall]
  | cons q l => rfl
theorem zall_app {l l' : List Prop} : zall (l ++ l') ↔ zall l ∧ zall l' := by
  induction l with
  | nil => simp [zall]
  | cons p l ih => rw [List.cons_append, zall_cons, zall_cons, ih, and_assoc]
theorem zR_js (X : (Nat → Int32) × Nat) {d y rk : Nat} {tab : Nat → Option (Instr × Nat)} (hy : zt y = tab) (hk : zrk y = rk) : ∀ (n : Nat) {c : zCf} {gs : List Prop} {r : zRs}, zjs X rk tab n c = some (gs, r) → zall gs → zR X d y c = zfin X d y r := by
  intro n
  induction n with
  | zero =>
    intro c gs r h _
    simp only [zjs] at h
    cases h
    rfl
  | succ n ih =>
    intro c gs r h hg
    rw [zjs] at h
    cases ht : tab c.1 with
    | none => rw [ht] at h; cases h
    | some q =>
      obtain ⟨i, aux⟩ := q
      rw [ht] at h
      dsimp only at h
      cases hs : zst X rk i aux c.1 c.2.1 c.2.2.1 c.2.2.2 with
      | none => rw [hs] at h; cases h
      | some q =>
        obtain ⟨gs1, r1⟩ := q
        rw [hs] at h
        dsimp only at h
        have hst : zstp X y c = some (gs1, r1) := by
          unfold zstp
          rw [hy, ht, hk]
          exact hs
        cases n with
        | zero =>
          cases h
          exact zR_stp X hst hg
        | succ m =>
          dsimp only at h
          rcases r1 with o' | c' | q
          · cases h
          · dsimp only at h
            cases hj : zjs X rk tab (m + 1) c' with
            | none => rw [hj] at h; cases h
            | some q =>
              obtain ⟨gs2, r2⟩ := q
              rw [hj] at h
              cases h
              have h2 := zall_app.mp hg
              rw [zR_stp X hst h2.1]
              exact ih hj h2.2
          · cases h
theorem z_br (X : (Nat → Int32) × Nat) {d y : Nat} {P : Prop} {inst : Decidable P} {t f : Nat} {ls st : List Value} {M : zM} : zR X d y (@ite Nat P inst t f, ls, st, M) = @ite _ P inst (zR X d y (t, ls, st, M)) (zR X d y (f, ls, st, M)) := by
  split <;> rfl
def zbI (o : Option zO) (f : Int32 → zM → Option zO) : Option zO := match o with
  | some (some (.int r), M) => f r M
  | _ => none
def zbL (o : Option zO) (f : Int64 → zM → Option zO) : Option zO := match o with
  | some (some (.long r), M) => f r M
  | _ => none
def zbA (o : Option zO) (f : Nat → zM → Option zO) : Option zO := match o with
  | some (some (.ref r), M) => f r M
  | _ => none
def zbS (o : Option zO) (f : Nat → zM → Option zO) : Option zO := match o with
  | some (some (.retAddr r), M) => f r M
  | _ => none
def zbV (o : Option zO) (f : zM → Option zO) : Option zO := match o with
  | some (none, M) => f M
  | _ => none
def zgd (o : Option (List Prop × zRs)) : Prop := match o with
  | some (gs, _) => zall gs
  | none => False
noncomputable def zfo (X : (Nat → Int32) × Nat) (d y : Nat) (o : Option (List Prop × zRs)) : Option zO := match o with
  | some (_, r) => zfin X d y r
  | none => none
theorem zR_k (X : (Nat → Int32) × Nat) {d y rk : Nat} {tab : Nat → Option (Instr × Nat)} (hy : zt y = tab) (hk : zrk y = rk) (n : Nat) {c : zCf} (h : zgd (zjs X rk tab n c)) : zR X d y c = zfo X d y (zjs X rk tab n c) := by
  cases hj : zjs X rk tab n c with
  | none => rw [hj] at h; exact h.elim
  | some q =>
    obtain ⟨gs, r⟩ := q
    rw [hj] at h
    exact zR_js X hy hk n hj h
