/-! A small machine of our own: a value is (tag, number); a state is (time, lengths, contents).
Tags: 0 int, 1 long, 9 unknown, 10 int[], 11 long[], 12 byte[], 13 boolean[], 14 an int[] from outside (read alone), 20 + c an object of the class c.
Objects are numbered in the order in which they are made; all references in fields are set once, in a fixed order: the time counts makings and settings. -/
def z32 (x : Int) : Int := (x + 2147483648) % 4294967296 - 2147483648
def z64 (x : Int) : Int := (x + 9223372036854775808) % 18446744073709551616 - 9223372036854775808
def zand (x y : Int) : Int := (Int32.ofInt x &&& Int32.ofInt y).toInt
def zor (x y : Int) : Int := (Int32.ofInt x ||| Int32.ofInt y).toInt
def zxor (x y : Int) : Int := (Int32.ofInt x ^^^ Int32.ofInt y).toInt
def zshl (x y : Int) : Int := (Int32.ofInt x <<< (Int32.ofInt y &&& 31)).toInt
def zshr (x y : Int) : Int := (Int32.ofInt x >>> (Int32.ofInt y &&& 31)).toInt
def zushr (x y : Int) : Int := (((Int32.ofInt x).toUInt32 >>> ((Int32.ofInt y).toUInt32 &&& Int32.toUInt32 31)).toInt32).toInt
def zland (x y : Int) : Int := (Int64.ofInt x &&& Int64.ofInt y).toInt
def zlor (x y : Int) : Int := (Int64.ofInt x ||| Int64.ofInt y).toInt
def zlxor (x y : Int) : Int := (Int64.ofInt x ^^^ Int64.ofInt y).toInt
def zlshl (x y : Int) : Int := (Int64.ofInt x <<< ((Int32.ofInt y).toInt64 &&& 63)).toInt
def zlshr (x y : Int) : Int := (Int64.ofInt x >>> ((Int32.ofInt y).toInt64 &&& 63)).toInt
def zlushr (x y : Int) : Int := (((Int64.ofInt x).toUInt64 >>> ((Int32.ofInt y).toInt64.toUInt64 &&& Int64.toUInt64 63)).toInt64).toInt
def zi2b (x : Int) : Int := (x + 128) % 256 - 128
def zdiv (x y : Int) : Int := z32 (Int.tdiv x y)
def zrem (x y : Int) : Int := Int.tmod x y
def zcmp (x y : Int) : Int := if x < y then -1 else if x = y then 0 else 1
def zupd (H : Int → Int → Int) (o i v : Int) : Int → Int → Int := fun o' i' => if o' = o ∧ i' = i then v else H o' i'
def zlen (L : Int → Int) (o n : Int) : Int → Int := fun o' => if o' = o then n else L o'
def zcpy (H : Int → Int → Int) (s sp d dp n : Int) : Int → Int → Int := fun o' i' => if o' = d ∧ dp ≤ i' ∧ i' < dp + n then H s (sp + (i' - dp)) else H o' i'
abbrev zN : Type := (Nat × List zV × zS) ⊕ ((List (Prop × Nat) × Nat × List zV) ⊕ (Int ⊕ ((Nat × List zV × List zV) ⊕ Int)))
abbrev zR : Type := zN ⊕ (Prop × zN)
def zgo (pc : Nat) (st : List zV) (S : zS) : Option zR := some (.inl (.inl (pc, st, S)))
def zgg (g : Prop) (pc : Nat) (st : List zV) (S : zS) : Option zR := some (.inr (g, .inl (pc, st, S)))
def zbr (cs : List (Prop × Nat)) (d : Nat) (st : List zV) : Option zR := some (.inl (.inr (.inl (cs, d, st))))
def zret (v : Int) : Option zR := some (.inl (.inr (.inr (.inl v))))
def zcat (v : zV) : Nat := bif Nat.beq v.1 1 then 2 else 1
def zset1 (k : Nat) (v : zV) (ls : List zV) : List zV :=
  match k with
  | 0 => ls.set 0 v
  | j + 1 => (match ls[j]? with
    | some w => (bif Nat.beq w.1 1 then ls.set j (9, 0) else ls)
    | none => ls).set (j + 1) v
def zset2 (k : Nat) (v : zV) (ls : List zV) : List zV := (zset1 k v ls).set (k + 1) (9, 0)
/-- loads, stores, iinc: the place of the variable and the kind (0 int, 1 long, 2 reference; 10 more: a store; 20: iinc) -/
def zlk : Instr → Option (Nat × Nat)
  | .iload k => some (k, 0)
  | .iload_n k => some (k.val, 0)
  | .lload k => some (k, 1)
  | .lload_n k => some (k.val, 1)
  | .aload k => some (k, 2)
  | .aload_n k => some (k.val, 2)
  | .istore k => some (k, 10)
  | .istore_n k => some (k.val, 10)
  | .lstore k => some (k, 11)
  | .lstore_n k => some (k.val, 11)
  | .astore k => some (k, 12)
  | .astore_n k => some (k.val, 12)
  | .iinc k _ => some (k, 20)
  | _ => none
def zinc : Instr → Int
  | .iinc _ n => n
  | _ => 0
def ztg (kd t : Nat) : Bool := match kd with
  | 0 => Nat.beq t 0
  | 1 => Nat.beq t 1
  | _ => Nat.ble 10 t
def zloc (q : Nat × Nat) (n : Int) (ls st : List zV) : Option (List zV × List zV) :=
  bif Nat.blt q.2 10 then (match ls[q.1]? with
    | some v => bif ztg q.2 v.1 then some (ls, v :: st) else none
    | none => none)
  else bif Nat.beq q.2 20 then (match ls[q.1]? with
    | some v => bif Nat.beq v.1 0 then some (zset1 q.1 (0, z32 (v.2 + n)) ls, st) else none
    | none => none)
  else (match st with
    | v :: rest => bif ztg (q.2 - 10) v.1 then (bif Nat.beq q.2 11 then (bif Nat.blt (q.1 + 1) ls.length then some (zset2 q.1 v ls, rest) else none) else (bif Nat.blt q.1 ls.length then some (zset1 q.1 v ls, rest) else none)) else none
    | [] => none)
def zbin : Instr → Option (Int → Int → Int)
  | .iadd => some (fun x y => z32 (x + y))
  | .isub => some (fun x y => z32 (x - y))
  | .imul => some (fun x y => z32 (x * y))
  | .iand => some zand
  | .ior => some zor
  | .ixor => some zxor
  | .ishl => some zshl
  | .ishr => some zshr
  | .iushr => some zushr
  | _ => none
def zlb : Instr → Option (Int → Int → Int)
  | .ladd => some (fun x y => z64 (x + y))
  | .lsub => some (fun x y => z64 (x - y))
  | .land => some zland
  | .lor => some zlor
  | .lxor => some zlxor
  | _ => none
def zlsh : Instr → Option (Int → Int → Int)
  | .lshl => some zlshl
  | .lshr => some zlshr
  | .lushr => some zlushr
  | _ => none
def zcn : ClassFile.Cond → Int → Int → Prop
  | .eq, x, y => x = y
  | .ne, x, y => x ≠ y
  | .lt, x, y => x < y
  | .ge, x, y => y ≤ x
  | .gt, x, y => y < x
  | .le, x, y => x ≤ y
/-- tags of an array's class by newarray's operand -/
def zat : ArrayType → Nat
  | .int => 10
  | .long => 11
  | .byte => 12
  | .boolean => 13
  | _ => 99
def zswc (x : Int) : List (Int × Nat) → List (Prop × Nat)
  | [] => []
  | (k, t) :: r => (x = k, t) :: zswc x r
def znr (m : Nat) (rest : List zV) : Bool := Nat.ble (rest.map zcat).sum 8 && Nat.ble 1 (zrm m).1 && Nat.ble 32 (zrm m).2
def zcall (m r nx : Nat) (st : List zV) (S : zS) : Option zR :=
  bif Nat.ble 900 r then
    (bif Nat.beq r 900 then (match st with
      | v :: rest => bif Nat.ble 20 v.1 && znr m rest then zgo nx rest S else none
      | _ => none)
    else bif Nat.beq r 901 then (match st with
      | b :: a :: rest => bif Nat.beq a.1 0 && Nat.beq b.1 0 && znr m rest then zgo nx ((0, if a.2 ≤ b.2 then a.2 else b.2) :: rest) S else none
      | _ => none)
    else bif Nat.beq r 902 then (match st with
      | b :: a :: rest => bif Nat.beq a.1 0 && Nat.beq b.1 0 && znr m rest then zgo nx ((0, if a.2 ≤ b.2 then b.2 else a.2) :: rest) S else none
      | _ => none)
    else bif Nat.beq r 903 then (match st with
      | n :: dp :: d :: sp :: s :: rest => bif Nat.beq n.1 0 && Nat.beq dp.1 0 && Nat.beq d.1 11 && Nat.beq sp.1 0 && Nat.beq s.1 11 && znr m rest then
          zgg (0 ≤ n.2 ∧ 0 ≤ sp.2 ∧ 0 ≤ dp.2 ∧ sp.2 + n.2 ≤ S.2.1 s.2 ∧ dp.2 + n.2 ≤ S.2.1 d.2 ∧ s.2 ≠ d.2) nx rest (S.1, S.2.1, zcpy S.2.2 s.2 sp.2 d.2 dp.2 n.2) else none
      | _ => none)
    else none)
  else match zmi r with
    | some (tags, maxL, _) =>
      bif (((st.take tags.length).map (fun v => v.1)) == tags.reverse) && Nat.ble ((st.drop tags.length).map zcat).sum 8 && Nat.ble ((zrm r).1 + 1) (zrm m).1 && Nat.ble ((zrm r).2 + 8 + (maxL + 11)) (zrm m).2 then
        some (.inl (.inr (.inr (.inr (.inl (r, (st.take tags.length).reverse, st.drop tags.length)))))) else none
    | none => none
def zfield (md nx r : Nat) (st : List zV) (S : zS) : Option zR :=
  match zfl r with
  | some (ci, k, ft, tg, tm) => (match st with
    | (t, o) :: rest => bif Nat.beq t (20 + ci) then
        (bif Nat.ble 10 ft then (bif Nat.blt tm md then zgo nx ((ft, tg) :: rest) S else zgg (tm < S.1) nx ((ft, tg) :: rest) S)
         else zgo nx ((bif Nat.beq ft 3 then 0 else ft, S.2.2 o k) :: rest) S) else none
    | _ => none)
  | none => none
def zputf (nx r : Nat) (st : List zV) (S : zS) : Option zR :=
  match zfl r with
  | some (ci, k, ft, tg, tm) => (match st with
    | (u, v) :: (t, o) :: rest => bif Nat.beq t (20 + ci) then
        (bif Nat.ble 10 ft then (bif Nat.beq u ft then zgg (S.1 = tm ∧ v = tg) nx rest (S.1 + 1, S.2.1, S.2.2) else none)
         else bif Nat.beq ft 3 then (bif Nat.beq u 0 then zgg (v = 0 ∨ v = 1) nx rest (S.1, S.2.1, zupd S.2.2 o k v) else none)
         else bif Nat.beq u ft then zgo nx rest (S.1, S.2.1, zupd S.2.2 o k v) else none) else none
    | _ => none)
  | none => none
def zpure (md m : Nat) (i : Instr) (nx r : Nat) (st : List zV) (S : zS) : Option zR :=
  match zbin i with
  | some f => (match st with
    | (t, y) :: (u, x) :: rest => bif Nat.beq t 0 && Nat.beq u 0 then zgo nx ((0, f x y) :: rest) S else none
    | _ => none)
  | none => match zlb i with
  | some f => (match st with
    | (t, y) :: (u, x) :: rest => bif Nat.beq t 1 && Nat.beq u 1 then zgo nx ((1, f x y) :: rest) S else none
    | _ => none)
  | none => match zlsh i with
  | some f => (match st with
    | (t, y) :: (u, x) :: rest => bif Nat.beq t 0 && Nat.beq u 1 then zgo nx ((1, f x y) :: rest) S else none
    | _ => none)
  | none => match i with
  | .iconst n => zgo nx ((0, n) :: st) S
  | .bipush n => zgo nx ((0, n) :: st) S
  | .sipush n => zgo nx ((0, n) :: st) S
  | .ldc_w _ => bif Nat.beq r 0 then none else zgo nx ((0, (r : Int) - 2147483648) :: st) S
  | .ldc _ => bif Nat.beq r 0 then none else zgo nx ((0, (r : Int) - 2147483648) :: st) S
  | .lconst n => zgo nx ((1, (n.val : Int)) :: st) S
  | .ldc2_w _ => zgo nx ((1, (r : Int) - 9223372036854775808) :: st) S
  | .idiv => (match st with
    | (t, y) :: (u, x) :: rest => bif Nat.beq t 0 && Nat.beq u 0 then zgg (y ≠ 0) nx ((0, zdiv x y) :: rest) S else none
    | _ => none)
  | .irem => (match st with
    | (t, y) :: (u, x) :: rest => bif Nat.beq t 0 && Nat.beq u 0 then zgg (y ≠ 0) nx ((0, zrem x y) :: rest) S else none
    | _ => none)
  | .lcmp => (match st with
    | (t, y) :: (u, x) :: rest => bif Nat.beq t 1 && Nat.beq u 1 then zgo nx ((0, zcmp x y) :: rest) S else none
    | _ => none)
  | .i2l => (match st with
    | (t, x) :: rest => bif Nat.beq t 0 then zgo nx ((1, x) :: rest) S else none
    | _ => none)
  | .l2i => (match st with
    | (t, x) :: rest => bif Nat.beq t 1 then zgo nx ((0, z32 x) :: rest) S else none
    | _ => none)
  | .i2b => (match st with
    | (t, x) :: rest => bif Nat.beq t 0 then zgo nx ((0, zi2b x) :: rest) S else none
    | _ => none)
  | .dup => (match st with
    | a :: rest => bif Nat.beq (zcat a) 1 then zgo nx (a :: a :: rest) S else none
    | _ => none)
  | .pop => (match st with
    | a :: rest => bif Nat.beq (zcat a) 1 then zgo nx rest S else none
    | _ => none)
  | .dup2 => (match st with
    | a :: b :: rest => bif Nat.beq (zcat a) 1 && Nat.beq (zcat b) 1 then zgo nx (a :: b :: a :: b :: rest) S else none
    | _ => none)
  | .dup_x1 => (match st with
    | a :: b :: rest => bif Nat.beq (zcat a) 1 && Nat.beq (zcat b) 1 then zgo nx (a :: b :: a :: rest) S else none
    | _ => none)
  | .dup_x2 => (match st with
    | a :: b :: d :: rest => bif Nat.beq (zcat a) 1 && Nat.beq (zcat b) 1 && Nat.beq (zcat d) 1 then zgo nx (a :: b :: d :: a :: rest) S else none
    | _ => none)
  | .goto _ => zgo r st S
  | .ifCond c _ => (match st with
    | (t, x) :: rest => bif Nat.beq t 0 then zbr [(zcn c x 0, r)] nx rest else none
    | _ => none)
  | .if_icmp c _ => (match st with
    | (t, y) :: (u, x) :: rest => bif Nat.beq t 0 && Nat.beq u 0 then zbr [(zcn c x y, r)] nx rest else none
    | _ => none)
  | .tableswitch .. => (match st with
    | (t, x) :: rest => bif Nat.beq t 0 then zbr (zswc x (zsw r).1) (zsw r).2 rest else none
    | _ => none)
  | .lookupswitch .. => (match st with
    | (t, x) :: rest => bif Nat.beq t 0 then zbr (zswc x (zsw r).1) (zsw r).2 rest else none
    | _ => none)
  | .arraylength => (match st with
    | (t, o) :: rest => bif Nat.ble 10 t && Nat.ble t 14 then zgo nx ((0, S.2.1 o) :: rest) S else none
    | _ => none)
  | .iaload => (match st with
    | (t, j) :: (u, o) :: rest => bif Nat.beq t 0 && (Nat.beq u 10 || Nat.beq u 14) then zgg (0 ≤ j ∧ j < S.2.1 o) nx ((0, S.2.2 o j) :: rest) S else none
    | _ => none)
  | .laload => (match st with
    | (t, j) :: (u, o) :: rest => bif Nat.beq t 0 && Nat.beq u 11 then zgg (0 ≤ j ∧ j < S.2.1 o) nx ((1, S.2.2 o j) :: rest) S else none
    | _ => none)
  | .baload => (match st with
    | (t, j) :: (u, o) :: rest => bif Nat.beq t 0 && (Nat.beq u 12 || Nat.beq u 13) then zgg (0 ≤ j ∧ j < S.2.1 o) nx ((0, S.2.2 o j) :: rest) S else none
    | _ => none)
  | .iastore => (match st with
    | (w, v) :: (t, j) :: (u, o) :: rest => bif Nat.beq w 0 && Nat.beq t 0 && Nat.beq u 10 then zgg (0 ≤ j ∧ j < S.2.1 o) nx rest (S.1, S.2.1, zupd S.2.2 o j v) else none
    | _ => none)
  | .lastore => (match st with
    | (w, v) :: (t, j) :: (u, o) :: rest => bif Nat.beq w 1 && Nat.beq t 0 && Nat.beq u 11 then zgg (0 ≤ j ∧ j < S.2.1 o) nx rest (S.1, S.2.1, zupd S.2.2 o j v) else none
    | _ => none)
  | .bastore => (match st with
    | (w, v) :: (t, j) :: (u, o) :: rest => bif Nat.beq w 0 && Nat.beq t 0 && Nat.beq u 12 then zgg (0 ≤ j ∧ j < S.2.1 o) nx rest (S.1, S.2.1, zupd S.2.2 o j (zi2b v))
        else bif Nat.beq w 0 && Nat.beq t 0 && Nat.beq u 13 then zgg ((0 ≤ j ∧ j < S.2.1 o) ∧ (v = 0 ∨ v = 1)) nx rest (S.1, S.2.1, zupd S.2.2 o j v) else none
    | _ => none)
  | .getfield _ => zfield md nx r st S
  | .putfield _ => zputf nx r st S
  | .getstatic _ => zgo nx ((14, -(r : Int)) :: st) S
  | .newarray a => (match st, zal S.1 with
    | (t, n) :: rest, some (tag, o) => bif Nat.beq t 0 && Nat.beq tag (zat a) then zgg ((0 ≤ n ∧ n ≤ 1000000) ∧ ∀ j, S.2.2 o j = 0) nx ((tag, o) :: rest) (S.1 + 1, zlen S.2.1 o n, S.2.2) else none
    | _, _ => none)
  | .new _ => bif Nat.ble 1000 r then (bif Nat.ble (st.map zcat).sum 8 then some (.inr (zend ≤ S.1, .inr (.inr (.inr (.inr ((r : Int) - 1000)))))) else none)
    else (match zal S.1 with
    | some (tag, o) => bif Nat.beq tag r then zgg (∀ j, S.2.2 o j = 0) nx ((tag, o) :: st) (S.1 + 1, S.2.1, S.2.2) else none
    | _ => none)
  | .invokestatic _ => zcall m r nx st S
  | .invokevirtual _ => zcall m r nx st S
  | .invokespecial _ => zcall m r nx st S
  | .ireturn => (match st, zmi m with
    | [(t, v)], some (_, _, rt) => bif Nat.beq t 0 && Nat.beq rt 0 then zret v else bif Nat.beq t 0 && Nat.beq rt 3 then some (.inr (v = 0 ∨ v = 1, .inr (.inr (.inl v)))) else none
    | _, _ => none)
  | .lreturn => (match st, zmi m with
    | [(t, v)], some (_, _, rt) => bif Nat.beq t 1 && Nat.beq rt 1 then zret v else none
    | _, _ => none)
  | .return_ => (match st, zmi m with
    | [], some (_, _, rt) => bif Nat.beq rt 8 then zret 0 else none
    | _, _ => none)
  | _ => none
/-- a callee's variables -/
def zargs : List zV → List zV
  | [] => []
  | v :: r => bif Nat.beq v.1 1 then v :: (9, 0) :: zargs r else v :: zargs r
def zpad : Nat → List zV → List zV
  | 0, _ => []
  | n + 1, [] => (9, 0) :: zpad n []
  | n + 1, v :: r => v :: zpad n r
def zmkl (m : Nat) (args : List zV) : List zV := match zmi m with
  | some (_, maxL, _) => zpad maxL (zargs args)
  | none => []
def zpush (m : Nat) (v : Int) (rest : List zV) : List zV := match zmi m with
  | some (_, _, rt) => bif Nat.beq rt 8 then rest else (bif Nat.beq rt 1 then 1 else 0, v) :: rest
  | none => rest
noncomputable def zpick (F : Nat → Option (Int × Int × zS)) (d : Nat) : List (Prop × Nat) → Option (Int × Int × zS)
  | [] => F d
  | (c, t) :: r => @ite _ c (Classical.propDecidable c) (F t) (zpick F d r)
noncomputable def zfin (F : Nat → Nat → List zV → List zV → zS → Option (Int × Int × zS)) (m nx : Nat) (ls : List zV) (S : zS) : zN → Option (Int × Int × zS)
  | .inl (pc, st, S') => F m pc ls st S'
  | .inr (.inl (cs, d, st)) => zpick (fun t => F m t ls st S) d cs
  | .inr (.inr (.inl v)) => some (0, v, S)
  | .inr (.inr (.inr (.inl (m', args, rest)))) => (match F m' 0 (zmkl m' args) [] S with
    | none => none
    | some (c, v, S') => if c = 0 then F m nx ls (zpush m' v rest) S' else (match zhd m c with
      | some k => some (0, k, (S'.1 + 1, S'.2))
      | none => some (c, 0, S')))
  | .inr (.inr (.inr (.inr c))) => some (c, 0, S)
noncomputable def zone (md : Nat) (F : Nat → Nat → List zV → List zV → zS → Option (Int × Int × zS)) (m pc : Nat) (ls st : List zV) (S : zS) : Option (Int × Int × zS) :=
  match zcd m pc with
  | none => none
  | some (i, nx, r) => match zlk i with
    | some q => (match zloc q (zinc i) ls st with
      | none => none
      | some (ls', st') => F m nx ls' st' S)
    | none => (match zpure md m i nx r st S with
      | none => none
      | some (.inl N) => zfin F m nx ls S N
      | some (.inr (g, N)) => @ite _ g (Classical.propDecidable g) (zfin F m nx ls S N) none)
noncomputable def zex (md : Nat) : Nat → Nat → Nat → List zV → List zV → zS → Option (Int × Int × zS)
  | 0, _, _, _, _, _ => none
  | n + 1, m, pc, ls, st, S => zone md (zex md n) m pc ls st S
/-- it ends, and so -/
def zEnds (md m pc : Nat) (ls st : List zV) (S : zS) (Qr Qt : Int → zS → Prop) : Prop :=
  ∃ n c v S', zex md n m pc ls st S = some (c, v, S') ∧ ((c = 0 ∧ Qr v S') ∨ (c ≠ 0 ∧ Qt c S'))
def zmask : List Bool → List zV → List zV
  | _, [] => []
  | [], _ :: r => (9, 0) :: zmask [] r
  | b :: bs, v :: r => (bif b then v else (9, 0)) :: zmask bs r
/-- the next place: a loop's head is left as a goal of its own -/
def zto (md m : Nat) (f : Nat → List zV → List zV → zS → Prop) (Qr Qt : Int → zS → Prop) (pc : Nat) (ls st : List zV) (S : zS) : Prop := match zcut m pc with
  | none => f pc ls st S
  | some live => zEnds md m pc (zmask live ls) st S Qr Qt
def zall (f : Nat → Prop) (d : Nat) : List (Prop × Nat) → Prop
  | [] => f d
  | (c, t) :: r => (c → f t) ∧ (¬ c → zall f d r)
def zpost (md m : Nat) (f : Nat → List zV → List zV → zS → Prop) (Qr Qt : Int → zS → Prop) (nx : Nat) (ls : List zV) (S : zS) : zN → Prop
  | .inl (pc, st, S') => zto md m f Qr Qt pc ls st S'
  | .inr (.inl (cs, d, st)) => zall (fun t => zto md m f Qr Qt t ls st S) d cs
  | .inr (.inr (.inl v)) => Qr v S
  | .inr (.inr (.inr (.inl (m', args, rest)))) => zEnds md m' 0 (zmkl m' args) [] S (fun v S' => zto md m f Qr Qt nx ls (zpush m' v rest) S') (fun c S' => match zhd m c with
      | some k => Qr k (S'.1 + 1, S'.2)
      | none => Qt c S')
  | .inr (.inr (.inr (.inr c))) => c ≠ 0 ∧ Qt c S
def zwone (md : Nat) (Qr Qt : Int → zS → Prop) (f : Nat → List zV → List zV → zS → Prop) (m pc : Nat) (ls st : List zV) (S : zS) : Prop :=
  match zcd m pc with
  | none => False
  | some (i, nx, r) => match zlk i with
    | some q => (match zloc q (zinc i) ls st with
      | none => False
      | some (ls', st') => zto md m f Qr Qt nx ls' st' S)
    | none => (match zpure md m i nx r st S with
      | none => False
      | some (.inl N) => zpost md m f Qr Qt nx ls S N
      | some (.inr (g, N)) => g ∧ zpost md m f Qr Qt nx ls S N)
def zwp (md : Nat) (Qr Qt : Int → zS → Prop) (m : Nat) : Nat → Nat → List zV → List zV → zS → Prop
  | 0, _, _, _, _ => False
  | n + 1, pc, ls, st, S => zwone md Qr Qt (zwp md Qr Qt m n) m pc ls st S
