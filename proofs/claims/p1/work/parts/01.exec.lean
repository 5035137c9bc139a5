/-! THE EXECUTOR: what the bytecode of this claim does, as a function that the kernel can run (printed by wip/p1/mk.py out of wip/p1/src/01.exec.src). -/
/-- a value: a number; its last four bits say its kind, the rest is its payload. 0 an int, 1 the number of a register that is only named, 2 a long, 3 an int between two (lo * 2^32 + hi, each + 2^31), 4 a cell of the run, 5 null, 6 a cell that was there before, 7 a double, 8 a float, 9 nothing known, 10 a value of the start that nobody looks at, 11 an int as in 3, as a long, 12 an int of which the last six bits are known, 13 an int whose char lies between two -/
abbrev zv : Type := Nat
/-- a cell: what it is, its length (rows), what it holds -/
abbrev zc : Type := Nat × Nat × List Nat
abbrev zT1 : Type := zc × zc
abbrev zT2 : Type := zT1 × zT1
abbrev zT3 : Type := zT2 × zT2
abbrev zT4 : Type := zT3 × zT3
abbrev zT5 : Type := zT4 × zT4
abbrev zT6 : Type := zT5 × zT5
abbrev zT7 : Type := zT6 × zT6
abbrev zT8 : Type := zT7 × zT7
abbrev zT9 : Type := zT8 × zT8
/-- the heap: how many cells have a number here, how many were made, how many places they have together, the cells -/
abbrev zh : Type := Nat × Nat × Nat × zT9
/-- an end: 0 returned nothing, 1 a value, 2 threw -/
abbrev zo : Type := Nat × Nat × zh
abbrev zR : Type := Option zo
noncomputable def zg {T : Type} (f : T → Nat → (zc → zR) → zR) (t : T × T) (i : Nat) (k : zc → zR) : zR := (Prod.rec (motive := fun _ => zR) (fun a b => (@Nat.rec (fun _ => zR) (f a (Nat.shiftRight i 1) k) (fun _j _ => f b (Nat.shiftRight i 1) k) (Nat.land i 1))) (t))
noncomputable def zg0 (t : zc) (_ : Nat) (k : zc → zR) : zR := k t
noncomputable def zget : zT9 → Nat → (zc → zR) → zR := zg (zg (zg (zg (zg (zg (zg (zg (zg zg0))))))))
noncomputable def zp {T : Type} (f : T → Nat → zc → (T → zR) → zR) (t : T × T) (i : Nat) (c : zc) (k : T × T → zR) : zR := (Prod.rec (motive := fun _ => zR) (fun a b => (@Nat.rec (fun _ => zR) (f a (Nat.shiftRight i 1) c (fun a' => k (a', b))) (fun _j _ => f b (Nat.shiftRight i 1) c (fun b' => k (a, b'))) (Nat.land i 1))) (t))
noncomputable def zp0 (_ : zc) (_ : Nat) (c : zc) (k : zc → zR) : zR := k c
noncomputable def zset : zT9 → Nat → zc → (zT9 → zR) → zR := zp (zp (zp (zp (zp (zp (zp (zp (zp zp0))))))))
def znl {T : Type} (t : T) : T × T := (t, t)
def znil : zT9 := znl (znl (znl (znl (znl (znl (znl (znl (znl (99, 0, [])))))))))
/-- a number, reckoned out before it goes on -/
noncomputable def zf (n : Nat) (k : Nat → zR) : zR := (@Nat.rec (fun _ => zR) (k 0) (fun j _ => k (Nat.succ j)) (n))
noncomputable def zlg (l : List Nat) : Nat → (Nat → zR) → zR := List.rec (motive := fun _ => Nat → (Nat → zR) → zR) (fun _ _ => none) (fun a _ ih i k => (@Nat.rec (fun _ => zR) (k a) (fun j _ => ih j k) (i))) l
noncomputable def zls (l : List Nat) : Nat → Nat → (List Nat → zR) → zR := List.rec (motive := fun _ => Nat → Nat → (List Nat → zR) → zR) (fun _ _ _ => none) (fun a t ih i v k => (@Nat.rec (fun _ => zR) (k (v :: t)) (fun j _ => ih j v (fun t' => k (a :: t'))) (i))) l
noncomputable def zrep (n v : Nat) : List Nat → (List Nat → zR) → zR := Nat.rec (motive := fun _ => List Nat → (List Nat → zR) → zR) (fun acc k => k acc) (fun _ ih acc k => ih (v :: acc) k) n
/-- what the run is told: how many registers are named, the script -/
abbrev zctx : Type := Nat × List Nat
abbrev zI : Type := Nat → Nat → Nat → List Nat → List Nat → zh → zR
def zS : Type := zctx → zI → Nat → Nat → List Nat → List Nat → zh → zR
noncomputable def zpop (st : List Nat) (k : Nat → List Nat → zR) : zR := (List.rec (motive := fun _ => zR) (none) (fun v t _ => k v t) (st))
/-- is the kind among these -/
noncomputable def zin (ms v : Nat) (k : zR) : zR := (@Nat.rec (fun _ => zR) (none) (fun _j _ => k) (Nat.land (Nat.shiftRight ms (Nat.land v 15)) 1))
noncomputable def zkd (kd v : Nat) (k : Nat → zR) : zR := (@Bool.rec (fun _ => zR) (none) (k (Nat.shiftRight v 4)) (Nat.beq (Nat.land v 15) kd))
/-- the second of a place's words is free again when a long or double is overwritten -/
noncomputable def zst (l : List Nat) : Nat → Nat → (List Nat → zR) → zR := List.rec (motive := fun _ => Nat → Nat → (List Nat → zR) → zR) (fun _ _ _ => none) (fun a t ih i v k => (@Nat.rec (fun _ => zR) (k (v :: t)) (fun j _ => (@Nat.rec (fun _ => zR) ((List.rec (motive := fun _ => zR) (none) (fun _b t' _ => (@Nat.rec (fun _ => zR) (k (a :: v :: t')) (fun _j _ => k (9 :: v :: t')) (Nat.land (Nat.shiftRight 18564 (Nat.land a 15)) 1))) (t))) (fun _j _ => ih j v (fun t' => k (a :: t'))) (j))) (i))) l
/-- between which numbers (+ 2^31) an int lies -/
noncomputable def zrng (v : Nat) (k : Nat → Nat → zR) : zR := (@Bool.rec (fun _ => zR) ((@Bool.rec (fun _ => zR) ((@Bool.rec (fun _ => zR) (none) (k (Nat.shiftRight v 36) (Nat.land (Nat.shiftRight v 4) 4294967295)) (Nat.beq (Nat.land v 15) 3))) (k 2147483648 2147483655) (Nat.beq (Nat.land v 15) 1))) (zf (Nat.shiftRight (Nat.mod (Nat.add v 34359738368) 68719476736) 4) fun b => k b b) (Nat.beq (Nat.land v 15) 0))
/-- how two ints lie: 0 less, 1 alike, 2 more, 3 not alike, 4 not less, 5 not more -/
noncomputable def zcm2 (x y : Nat) (k : Nat → zR) : zR := zrng x fun a b => zrng y fun c d => (@Bool.rec (fun _ => zR) ((@Bool.rec (fun _ => zR) ((@Bool.rec (fun _ => zR) ((@Bool.rec (fun _ => zR) (none) (k 5) (Nat.ble b c))) ((@Bool.rec (fun _ => zR) (k 4) (k 1) (Nat.ble b c))) (Nat.ble d a))) (k 2) (Nat.ble (Nat.succ d) a))) (k 0) (Nat.ble (Nat.succ b) c))
noncomputable def zcmp (nt x y : Nat) (k : Nat → zR) : zR := (@Bool.rec (fun _ => zR) (zcm2 x y k) ((@Bool.rec (fun _ => zR) (zcm2 x y k) ((@Bool.rec (fun _ => zR) ((@Bool.rec (fun _ => zR) (none) ((@Bool.rec (fun _ => zR) (none) (k 3) (Nat.ble (Nat.succ (Nat.shiftRight y 4)) nt))) (Nat.ble (Nat.succ (Nat.shiftRight x 4)) nt))) (k 1) (Nat.beq x y))) (Nat.beq (Nat.land y 15) 1))) (Nat.beq (Nat.land x 15) 1))
/-- taken (t), not taken (f), or not known -/
noncomputable def zdec (c q : Nat) (t f : zR) : zR := (@Nat.rec (fun _ => zR) (f) (fun j _ => (@Nat.rec (fun _ => zR) (t) (fun _j _ => none) (j))) (Nat.land (Nat.shiftRight 1924410807310241569284 (Nat.mul 2 (Nat.add (Nat.mul 6 c) q))) 3))
/-- the tests of two ints' numbers (+ 2^31) -/
def zte : Nat → Nat → Bool := Nat.beq
def ztl (a b : Nat) : Bool := Nat.ble (Nat.succ a) b
def zti (n : Nat) : Nat := Nat.mul n 16
/-- the cells that were there: no. 0 the script's row (never read here), two empty rows, the cache of small Integers, five texts with their bytes, the Integers -/
def zbytes (l : List Nat) : zc := (22, l.length, l.map zti)
def zstr (k : Nat) : zc := (14, 0, [Nat.add (zti k) 6, 0, 0, 0])
def zext : List zc := [(98, 0, []), (20, 0, []), (26, 0, []), (29, 256, (List.range 256).map fun k => Nat.add (zti (Nat.add 14 k)) 6),
  zstr 5, zbytes [115, 108, 99, 116], zstr 7, zbytes [43, 45, 42, 47, 37, 109, 103, 99, 38, 124, 94, 110, 60, 62], zstr 9, zbytes [45, 97, 126, 113], zstr 11, zbytes [49, 48, 102],
  zstr 13, zbytes [48, 49, 50, 51, 52, 53, 54, 55, 56, 57, 97, 98, 99, 100, 101, 102, 103, 104, 105, 106, 107, 108, 109, 110, 111, 112, 113, 114, 115, 116, 117, 118, 119, 120, 121, 122]] ++ (List.range 256).map fun k => (15, 0, [Nat.mod (Nat.add (zti k) 68719474688) 68719476736])
noncomputable def zeg (l : List zc) : Nat → (zc → zR) → zR := List.rec (motive := fun _ => Nat → (zc → zR) → zR) (fun _ _ => none) (fun a _ ih i k => (@Nat.rec (fun _ => zR) (k a) (fun j _ => ih j k) (i))) l
/-- a cell of the run, by its number -/
noncomputable def zcel (h : zh) (a : Nat) (k : Nat → Nat → List Nat → zR) : zR := (Prod.rec (motive := fun _ => zR) (fun n r => (Prod.rec (motive := fun _ => zR) (fun _cs r => (Prod.rec (motive := fun _ => zR) (fun _sl t => (@Bool.rec (fun _ => zR) (none) (zget t a fun c => (Prod.rec (motive := fun _ => zR) (fun tag r => (Prod.rec (motive := fun _ => zR) (fun len vs => k tag len vs) (r))) (c))) (Nat.ble (Nat.succ a) n))) (r))) (r))) (h))
/-- the cell behind a reference -/
noncomputable def zcell (h : zh) (v : Nat) (k : Nat → Nat → List Nat → zR) : zR := (@Bool.rec (fun _ => zR) ((@Bool.rec (fun _ => zR) (none) (zeg zext (Nat.shiftRight v 4) fun c => (Prod.rec (motive := fun _ => zR) (fun tag r => (Prod.rec (motive := fun _ => zR) (fun len vs => k tag len vs) (r))) (c))) (Nat.beq (Nat.land v 15) 6))) (zcel h (Nat.shiftRight v 4) k) (Nat.beq (Nat.land v 15) 4))
noncomputable def zsetc (h : zh) (a : Nat) (c : zc) (k : zh → zR) : zR := (Prod.rec (motive := fun _ => zR) (fun n r => (Prod.rec (motive := fun _ => zR) (fun cs r => (Prod.rec (motive := fun _ => zR) (fun sl t => zset t a c fun t' => k (n, cs, sl, t')) (r))) (r))) (h))
noncomputable def znewc (h : zh) (c : zc) (len : Nat) (k : Nat → zh → zR) : zR := (Prod.rec (motive := fun _ => zR) (fun n r => (Prod.rec (motive := fun _ => zR) (fun cs r => (Prod.rec (motive := fun _ => zR) (fun sl t => (@Bool.rec (fun _ => zR) (none) (zf (Nat.succ n) fun n' => zf (Nat.succ cs) fun cs' => zf (Nat.add sl len) fun sl' => zset t n c fun t' => k n (n', cs', sl', t')) (Nat.ble (Nat.succ n) 512))) (r))) (r))) (h))
/-- at most so many words on the stack -/
noncomputable def zsm (st : List Nat) : Nat → zR → zR := List.rec (motive := fun _ => Nat → zR → zR) (fun _ k => k) (fun a _ ih n k => (@Nat.rec (fun _ => zR) (none) (fun j _ => (@Nat.rec (fun _ => zR) (ih j k) (fun _j _ => (@Nat.rec (fun _ => zR) (none) (fun i _ => ih i k) (j))) (Nat.land (Nat.shiftRight 18564 (Nat.land a 15)) 1))) (n))) st
noncomputable def zargs (n : Nat) : List Nat → List Nat → (List Nat → List Nat → zR) → zR := Nat.rec (motive := fun _ => List Nat → List Nat → (List Nat → List Nat → zR) → zR) (fun st acc k => k acc st) (fun _ ih st acc k => (List.rec (motive := fun _ => zR) (none) (fun v t _ => ih t (v :: acc) k) (st))) n
/-- a method's locals at its entry: the arguments, then nothing known -/
noncomputable def zent (as : List Nat) : Nat → (List Nat → zR) → zR := List.rec (motive := fun _ => Nat → (List Nat → zR) → zR) (fun n k => zrep n 9 [] k) (fun a _ ih n k => (@Nat.rec (fun _ => zR) (none) (fun j _ => (@Nat.rec (fun _ => zR) (ih j fun l => k (a :: l)) (fun _j _ => (@Nat.rec (fun _ => zR) (none) (fun i _ => ih i fun l => k (a :: 9 :: l)) (j))) (Nat.land (Nat.shiftRight 18564 (Nat.land a 15)) 1))) (n))) as
-- the instructions
noncomputable def s_k (v nx : Nat) : zS := fun _ ih m dep ls st h => ih m nx dep ls (v :: st) h
noncomputable def s_ld (ms i nx : Nat) : zS := fun _ ih m dep ls st h => zlg ls i fun v => zin ms v (ih m nx dep ls (v :: st) h)
noncomputable def s_s1 (ms i nx : Nat) : zS := fun _ ih m dep ls st h => zpop st fun v t => zin ms v (zst ls i v fun l => ih m nx dep l t h)
noncomputable def s_s2 (ms i nx : Nat) : zS := fun _ ih m dep ls st h => zpop st fun v t => zin ms v (zst ls i v fun l => zls l (Nat.succ i) 9 fun l2 => ih m nx dep l2 t h)
noncomputable def s_inc (i d nx : Nat) : zS := fun _ ih m dep ls st h => zlg ls i fun v => (@Bool.rec (fun _ => zR) (none) (zf (Nat.mod (Nat.add v d) 68719476736) fun r => zst ls i r fun l => ih m nx dep l st h) (Nat.beq (Nat.land v 15) 0))
noncomputable def zc1 (v : Nat) (k : zR) : zR := (@Nat.rec (fun _ => zR) (k) (fun _j _ => none) (Nat.land (Nat.shiftRight 18564 (Nat.land v 15)) 1))
noncomputable def s_dup (nx : Nat) : zS := fun _ ih m dep ls st h => zpop st fun v t => zc1 v (ih m nx dep ls (v :: v :: t) h)
noncomputable def s_pop (nx : Nat) : zS := fun _ ih m dep ls st h => zpop st fun v t => zc1 v (ih m nx dep ls t h)
noncomputable def s_dx1 (nx : Nat) : zS := fun _ ih m dep ls st h => zpop st fun v t => zpop t fun w t => zc1 v (zc1 w (ih m nx dep ls (v :: w :: v :: t) h))
noncomputable def s_dup2 (nx : Nat) : zS := fun _ ih m dep ls st h => zpop st fun v t => zc1 v (zpop t fun w t => zc1 w (ih m nx dep ls (v :: w :: v :: w :: t) h))
/-- of two numbers; where one of them isn't one: f2 -/
noncomputable def zbin (kx ky : Nat) (f f2 : Nat → Nat → (Nat → zR) → zR) (nx : Nat) : zS := fun _ ih m dep ls st h => zpop st fun y t => zpop t fun x t => (@Bool.rec (fun _ => zR) (f2 x y fun q => ih m nx dep ls (q :: t) h) ((@Bool.rec (fun _ => zR) (f2 x y fun q => ih m nx dep ls (q :: t) h) (f x y fun q => ih m nx dep ls (q :: t) h) (Nat.beq (Nat.land y 15) ky))) (Nat.beq (Nat.land x 15) kx))
noncomputable def zuna (kx : Nat) (f f2 : Nat → (Nat → zR) → zR) (nx : Nat) : zS := fun _ ih m dep ls st h => zpop st fun x t => (@Bool.rec (fun _ => zR) (f2 x fun q => ih m nx dep ls (q :: t) h) (f x fun q => ih m nx dep ls (q :: t) h) (Nat.beq (Nat.land x 15) kx))
def zno (_ _ : Nat) (_ : Nat → zR) : zR := none
def zno1 (_ : Nat) (_ : Nat → zR) : zR := none
/-- an int between two -/
noncomputable def zivl (lo hi : Nat) (k : Nat → zR) : zR := zf (Nat.add (Nat.shiftLeft lo 36) (Nat.add (Nat.shiftLeft hi 4) 3)) k
/-- a number added (+ 2^31): no going round -/
noncomputable def zaddI (x y : Nat) (k : Nat → zR) : zR := zrng x fun a b => zrng y fun c d => (@Bool.rec (fun _ => zR) (none) ((@Bool.rec (fun _ => zR) (none) (zivl (Nat.sub (Nat.add a c) 2147483648) (Nat.sub (Nat.add b d) 2147483648) k) (Nat.ble (Nat.add b d) 6442450943))) (Nat.ble 2147483648 (Nat.add a c)))
noncomputable def zsubI (x y : Nat) (k : Nat → zR) : zR := zrng x fun a b => zrng y fun c d => (@Bool.rec (fun _ => zR) (none) ((@Bool.rec (fun _ => zR) (none) (zivl (Nat.sub (Nat.add a 2147483648) d) (Nat.sub (Nat.add b 2147483648) c) k) (Nat.ble (Nat.add b 2147483648) (Nat.add c 4294967295)))) (Nat.ble d (Nat.add a 2147483648)))
noncomputable def s_iadd : Nat → zS := zbin 0 0 (fun x y => zf (Nat.mod (Nat.add x y) 68719476736)) zaddI
noncomputable def s_isub : Nat → zS := zbin 0 0 (fun x y => zf (Nat.mod (Nat.add x (Nat.sub 68719476736 y)) 68719476736)) zsubI
noncomputable def s_imul : Nat → zS := zbin 0 0 (fun x y => zf (Nat.mod (Nat.mul x (Nat.shiftRight y 4)) 68719476736)) zno
/-- the last six bits are known -/
noncomputable def zandI (x y : Nat) (k : Nat → zR) : zR := (@Bool.rec (fun _ => zR) (none) ((@Bool.rec (fun _ => zR) (none) (zf (Nat.sub x 12) k) (Nat.beq y 1008))) (Nat.beq (Nat.land x 15) 12))
noncomputable def s_iand : Nat → zS := zbin 0 0 (fun x y => zf (Nat.land x y)) zandI
noncomputable def s_ior : Nat → zS := zbin 0 0 (fun x y => zf (Nat.lor x y)) zno
noncomputable def s_ixor : Nat → zS := zbin 0 0 (fun x y => zf (Nat.xor x y)) zno
noncomputable def s_ishl : Nat → zS := zbin 0 0 (fun x y => zf (Nat.mod (Nat.shiftLeft x (Nat.mod (Nat.shiftRight y 4) 32)) 68719476736)) zno
/-- of a number from 0 on, between two: both ends shifted -/
noncomputable def zshrI (x y : Nat) (k : Nat → zR) : zR := (@Bool.rec (fun _ => zR) (none) (zrng x fun a b => (@Bool.rec (fun _ => zR) (none) (zf (Nat.mod (Nat.shiftRight y 4) 32) fun s => zivl (Nat.add 2147483648 (Nat.shiftRight (Nat.sub a 2147483648) s)) (Nat.add 2147483648 (Nat.shiftRight (Nat.sub b 2147483648) s)) k) (Nat.ble 2147483648 a))) (Nat.beq (Nat.land y 15) 0))
noncomputable def s_ishr : Nat → zS := zbin 0 0 (fun x y k => zf (Nat.mod (Nat.shiftRight y 4) 32) fun s => (@Bool.rec (fun _ => zR) (zf (Nat.shiftLeft (Nat.shiftRight x (Nat.add s 4)) 4) k) (zf (Nat.sub 68719476720 (Nat.shiftLeft (Nat.shiftRight (Nat.sub 68719476720 x) (Nat.add s 4)) 4)) k) (Nat.ble 34359738368 x))) zshrI
noncomputable def s_iushr : Nat → zS := zbin 0 0 (fun x y => zf (Nat.shiftLeft (Nat.shiftRight x (Nat.add 4 (Nat.mod (Nat.shiftRight y 4) 32))) 4)) zshrI
/-- of numbers from 0 on, by a number above 0 -/
noncomputable def zdv (w x y : Nat) (k : zR) : zR := (@Bool.rec (fun _ => zR) (none) ((@Bool.rec (fun _ => zR) (none) ((@Bool.rec (fun _ => zR) (k) (none) (Nat.beq (Nat.shiftRight y 4) 0))) (Nat.ble (Nat.succ y) w))) (Nat.ble (Nat.succ x) w))
noncomputable def zdivI (x y : Nat) (k : Nat → zR) : zR := (@Bool.rec (fun _ => zR) (none) (zdv 34359738368 0 y (zrng x fun a b => (@Bool.rec (fun _ => zR) (none) (zivl (Nat.add 2147483648 (Nat.div (Nat.sub a 2147483648) (Nat.shiftRight y 4))) (Nat.add 2147483648 (Nat.div (Nat.sub b 2147483648) (Nat.shiftRight y 4))) k) (Nat.ble 2147483648 a)))) (Nat.beq (Nat.land y 15) 0))
noncomputable def zremI (x y : Nat) (k : Nat → zR) : zR := (@Bool.rec (fun _ => zR) (none) (zdv 34359738368 0 y (zrng x fun a _ => (@Bool.rec (fun _ => zR) (none) (zivl 2147483648 (Nat.add 2147483647 (Nat.shiftRight y 4)) k) (Nat.ble 2147483648 a)))) (Nat.beq (Nat.land y 15) 0))
noncomputable def s_idiv : Nat → zS := zbin 0 0 (fun x y k => zdv 34359738368 x y (zf (Nat.shiftLeft (Nat.div x y) 4) k)) zdivI
noncomputable def s_irem : Nat → zS := zbin 0 0 (fun x y k => zdv 34359738368 x y (zf (Nat.mod x y) k)) zremI
noncomputable def s_ladd : Nat → zS := zbin 2 2 (fun x y => zf (Nat.add (Nat.mod (Nat.sub (Nat.add x y) 4) 295147905179352825856) 2)) zno
noncomputable def s_lsub : Nat → zS := zbin 2 2 (fun x y => zf (Nat.add (Nat.mod (Nat.sub (Nat.add x 295147905179352825856) y) 295147905179352825856) 2)) zno
noncomputable def s_lmul : Nat → zS := zbin 2 2 (fun x y => zf (Nat.add (Nat.mod (Nat.mul (Nat.sub x 2) (Nat.shiftRight y 4)) 295147905179352825856) 2)) zno
noncomputable def s_land : Nat → zS := zbin 2 2 (fun x y => zf (Nat.land x y)) zno
noncomputable def s_lor : Nat → zS := zbin 2 2 (fun x y => zf (Nat.lor x y)) zno
noncomputable def s_lxor : Nat → zS := zbin 2 2 (fun x y => zf (Nat.add (Nat.xor x y) 2)) zno
/-- 0 shifted is 0, by any number -/
noncomputable def zshz (x y : Nat) (k : Nat → zR) : zR := (@Bool.rec (fun _ => zR) (none) ((@Bool.rec (fun _ => zR) (none) (k 2) (Nat.beq (Nat.land y 15) 3))) (Nat.beq x 2))
noncomputable def s_lshl : Nat → zS := zbin 2 0 (fun x y => zf (Nat.add (Nat.mod (Nat.shiftLeft (Nat.sub x 2) (Nat.mod (Nat.shiftRight y 4) 64)) 295147905179352825856) 2)) zshz
noncomputable def s_lshr : Nat → zS := zbin 2 0 (fun x y k => zf (Nat.mod (Nat.shiftRight y 4) 64) fun s => (@Bool.rec (fun _ => zR) (zf (Nat.add (Nat.shiftLeft (Nat.shiftRight x (Nat.add s 4)) 4) 2) k) (zf (Nat.sub 295147905179352825842 (Nat.shiftLeft (Nat.shiftRight (Nat.sub 295147905179352825842 x) (Nat.add s 4)) 4)) k) (Nat.ble 147573952589676412928 x))) zshz
noncomputable def s_lushr : Nat → zS := zbin 2 0 (fun x y => zf (Nat.add (Nat.shiftLeft (Nat.shiftRight x (Nat.add 4 (Nat.mod (Nat.shiftRight y 4) 64))) 4) 2)) zshz
noncomputable def s_ldiv : Nat → zS := zbin 2 2 (fun x y k => zdv 147573952589676412928 x y (zf (Nat.add (Nat.shiftLeft (Nat.div (Nat.shiftRight x 4) (Nat.shiftRight y 4)) 4) 2) k)) zno
noncomputable def s_lrem : Nat → zS := zbin 2 2 (fun x y k => zdv 147573952589676412928 x y (zf (Nat.add (Nat.shiftLeft (Nat.mod (Nat.shiftRight x 4) (Nat.shiftRight y 4)) 4) 2) k)) zno
noncomputable def s_ddiv : Nat → zS := zbin 7 7 (fun x y k => (@Bool.rec (fun _ => zR) (none) ((@Bool.rec (fun _ => zR) (none) (k 7) (Nat.beq y 73931091482914062343))) (Nat.beq x 7))) zno
noncomputable def s_dcmpl : Nat → zS := zbin 7 7 (fun x y k => (@Bool.rec (fun _ => zR) (none) ((@Bool.rec (fun _ => zR) (none) (k 0) (Nat.beq y 7))) (Nat.beq x 7))) zno
noncomputable def s_ineg : Nat → zS := zuna 0 (fun x => zf (Nat.mod (Nat.sub 68719476736 x) 68719476736)) (fun x => zsubI 0 x)
noncomputable def s_lneg : Nat → zS := zuna 2 (fun x => zf (Nat.add (Nat.mod (Nat.sub 295147905179352825858 x) 295147905179352825856) 2)) zno1
/-- an int between two, as a long -/
noncomputable def zi2lI (x : Nat) (k : Nat → zR) : zR := zrng x fun a b => zf (Nat.add (Nat.shiftLeft a 36) (Nat.add (Nat.shiftLeft b 4) 11)) k
noncomputable def s_i2l : Nat → zS := zuna 0 (fun x k => (@Bool.rec (fun _ => zR) (zf (Nat.add x 2) k) (zf (Nat.add x 295147905110633349122) k) (Nat.ble 34359738368 x))) zi2lI
noncomputable def s_l2i : Nat → zS := zuna 2 (fun x => zf (Nat.mod (Nat.sub x 2) 68719476736)) zno1
/-- an int whose char lies between two -/
noncomputable def zi2cI (x : Nat) (k : Nat → zR) : zR := (@Bool.rec (fun _ => zR) (none) ((@Bool.rec (fun _ => zR) (zivl (Nat.add 2147483648 (Nat.shiftRight x 36)) (Nat.add 2147483648 (Nat.land (Nat.shiftRight x 4) 4294967295)) k) (zf (Nat.shiftLeft (Nat.shiftRight x 36) 4) k) (Nat.beq (Nat.shiftRight x 36) (Nat.land (Nat.shiftRight x 4) 4294967295)))) (Nat.beq (Nat.land x 15) 13))
noncomputable def s_i2b : Nat → zS := zuna 0 (fun x k => zf (Nat.mod x 4096) fun r => (@Bool.rec (fun _ => zR) (zf r k) (zf (Nat.add r 68719472640) k) (Nat.ble 2048 r))) zno1
noncomputable def s_i2c : Nat → zS := zuna 0 (fun x => zf (Nat.mod x 1048576)) zi2cI
noncomputable def s_i2d : Nat → zS := zuna 0 (fun x k => (@Bool.rec (fun _ => zR) (none) (k 7) (Nat.beq x 0))) zno1
noncomputable def s_lcmp (nx : Nat) : zS := fun _ ih m dep ls st h => zpop st fun y t => zpop t fun x t => (@Bool.rec (fun _ => zR) (none) ((@Bool.rec (fun _ => zR) ((@Bool.rec (fun _ => zR) (none) (zf (Nat.shiftRight (Nat.mod (Nat.add y 147573952589676412928) 295147905179352825856) 4) fun b => zf (Nat.add 9223372034707292160 (Nat.shiftRight x 36)) fun lo => zf (Nat.add 9223372034707292160 (Nat.land (Nat.shiftRight x 4) 4294967295)) fun hi =>
      (@Bool.rec (fun _ => zR) ((@Bool.rec (fun _ => zR) ((@Bool.rec (fun _ => zR) ((@Bool.rec (fun _ => zR) (none) (zivl 2147483647 2147483648 fun q => ih m nx dep ls (q :: t) h) (Nat.ble hi b))) (zivl 2147483648 2147483649 fun q => ih m nx dep ls (q :: t) h) (Nat.ble b lo))) (ih m nx dep ls (16 :: t) h) (Nat.ble (Nat.succ b) lo))) (ih m nx dep ls (68719476720 :: t) h) (Nat.ble (Nat.succ hi) b))) (Nat.beq (Nat.land x 15) 11))) (zf (Nat.mod (Nat.add x 147573952589676412928) 295147905179352825856) fun a => zf (Nat.mod (Nat.add y 147573952589676412928) 295147905179352825856) fun b => (@Bool.rec (fun _ => zR) ((@Bool.rec (fun _ => zR) (ih m nx dep ls (16 :: t) h) (ih m nx dep ls (68719476720 :: t) h) (Nat.ble a b))) (ih m nx dep ls (0 :: t) h) (Nat.beq a b))) (Nat.beq (Nat.land x 15) 2))) (Nat.beq (Nat.land y 15) 2))
/-- a branch on one int: of a number the test t0 tells it -/
noncomputable def s_if (c : Nat) (t0 : Nat → Bool) (t nx : Nat) : zS := fun ctx ih m dep ls st h => zpop st fun x r => (@Bool.rec (fun _ => zR) (zcmp ctx.1 x 0 fun q => zdec c q (ih m t dep ls r h) (ih m nx dep ls r h)) ((@Bool.rec (fun _ => zR) (ih m nx dep ls r h) (ih m t dep ls r h) (t0 x))) (Nat.beq (Nat.land x 15) 0))
noncomputable def s_ic (c : Nat) (t0 : Nat → Nat → Bool) (t nx : Nat) : zS := fun ctx ih m dep ls st h => zpop st fun y r => zpop r fun x r => (@Bool.rec (fun _ => zR) (zcmp ctx.1 x y fun q => zdec c q (ih m t dep ls r h) (ih m nx dep ls r h)) ((@Bool.rec (fun _ => zR) (ih m nx dep ls r h) (ih m t dep ls r h) (t0 x y))) (Nat.beq (Nat.land (Nat.lor x y) 15) 0))
def zi_eq (x : Nat) : Bool := Nat.beq x 0
def zi_ne (x : Nat) : Bool := Nat.ble 1 x
def zi_lt (x : Nat) : Bool := Nat.ble 34359738368 x
def zi_ge (x : Nat) : Bool := Nat.ble x 34359738367
def zi_gt (x : Nat) : Bool := Nat.ble 34359738369 (Nat.mod (Nat.add x 34359738368) 68719476736)
def zi_le (x : Nat) : Bool := Nat.ble (Nat.mod (Nat.add x 34359738368) 68719476736) 34359738368
def zu_eq (x y : Nat) : Bool := Nat.beq x y
def zu_ne (x y : Nat) : Bool := Nat.beq (Nat.sub 1 (Nat.add (Nat.sub x y) (Nat.sub y x))) 0
def zu_lt (x y : Nat) : Bool := Nat.ble (Nat.succ (Nat.mod (Nat.add x 34359738368) 68719476736)) (Nat.mod (Nat.add y 34359738368) 68719476736)
def zu_ge (x y : Nat) : Bool := Nat.ble (Nat.mod (Nat.add y 34359738368) 68719476736) (Nat.mod (Nat.add x 34359738368) 68719476736)
def zu_gt (x y : Nat) : Bool := Nat.ble (Nat.succ (Nat.mod (Nat.add y 34359738368) 68719476736)) (Nat.mod (Nat.add x 34359738368) 68719476736)
def zu_le (x y : Nat) : Bool := Nat.ble (Nat.mod (Nat.add x 34359738368) 68719476736) (Nat.mod (Nat.add y 34359738368) 68719476736)
noncomputable def s_ac (c t nx : Nat) : zS := fun _ ih m dep ls st h => zpop st fun y r => zpop r fun x r => zkd 4 x fun _ => zkd 4 y fun _ => (@Bool.rec (fun _ => zR) ((@Nat.rec (fun _ => zR) (ih m nx dep ls r h) (fun _j _ => ih m t dep ls r h) (c))) ((@Nat.rec (fun _ => zR) (ih m t dep ls r h) (fun _j _ => ih m nx dep ls r h) (c))) (Nat.beq x y))
noncomputable def s_nl (c t nx : Nat) : zS := fun _ ih m dep ls st h => zpop st fun x r => (@Bool.rec (fun _ => zR) (zkd 4 x fun _ => (@Nat.rec (fun _ => zR) (ih m nx dep ls r h) (fun _j _ => ih m t dep ls r h) (c))) ((@Nat.rec (fun _ => zR) (ih m t dep ls r h) (fun _j _ => ih m nx dep ls r h) (c))) (Nat.beq x 5))
noncomputable def s_go (t : Nat) : zS := fun _ ih m dep ls st h => ih m t dep ls st h
/-- a switch: the numbers (as values) with their places -/
noncomputable def zsw (nt x : Nat) (d : Nat) (k : Nat → zR) (l : List (Nat × Nat)) : zR := List.rec (motive := fun _ => zR) (k d) (fun a _ ih => (Prod.rec (motive := fun _ => zR) (fun n t => (@Bool.rec (fun _ => zR) (zcmp nt x n fun q => zdec 0 q (k t) ih) ((@Bool.rec (fun _ => zR) (ih) (k t) (Nat.beq x n))) (Nat.beq (Nat.land x 15) 0))) (a))) l
noncomputable def s_sw (ps : List (Nat × Nat)) (d : Nat) : zS := fun ctx ih m dep ls st h => zpop st fun x r => zin 11 x (zsw ctx.1 x d (fun t => ih m t dep ls r h) ps)
noncomputable def s_ret (ms : Nat) : zS := fun _ _ _ _ _ st h => zpop st fun v r => zin ms v ((List.rec (motive := fun _ => zR) (some (1, v, h)) (fun _a _b _ => none) (r)))
noncomputable def s_rv : zS := fun _ _ _ _ _ st h => (List.rec (motive := fun _ => zR) (some (0, 9, h)) (fun _a _b _ => none) (st))
noncomputable def s_gf (ci i nx : Nat) : zS := fun _ ih m dep ls st h => zpop st fun r t => zcell h r fun tag _ vs => (@Bool.rec (fun _ => zR) (none) (zlg vs i fun v => ih m nx dep ls (v :: t) h) (Nat.beq tag ci))
/-- may a value go into a field or place of that type: 0 int, 1 boolean, 2 byte, 3 char, 4 long, 5 reference, 6 double -/
noncomputable def zfit (ft v : Nat) (k : zR) : zR := (@Nat.rec (fun _ => zR) (zin 12299 v k) (fun ft _ => (@Nat.rec (fun _ => zR) ((@Bool.rec (fun _ => zR) (none) ((@Bool.rec (fun _ => zR) (none) (k) (Nat.ble v 16))) (Nat.beq (Nat.land v 15) 0))) (fun ft _ => (@Nat.rec (fun _ => zR) ((@Bool.rec (fun _ => zR) (none) ((@Bool.rec (fun _ => zR) ((@Bool.rec (fun _ => zR) (none) (k) (Nat.ble 68719474688 v))) (k) (Nat.ble v 2047))) (Nat.beq (Nat.land v 15) 0))) (fun ft _ => (@Nat.rec (fun _ => zR) ((@Bool.rec (fun _ => zR) (none) ((@Bool.rec (fun _ => zR) (none) (k) (Nat.ble v 1048575))) (Nat.beq (Nat.land v 15) 0))) (fun ft _ => (@Nat.rec (fun _ => zR) (zin 2052 v k) (fun ft _ => (@Nat.rec (fun _ => zR) (zin 112 v k) (fun _j _ => zin 128 v k) (ft))) (ft))) (ft))) (ft))) (ft))) (ft))
noncomputable def s_pf (ci i ft nx : Nat) : zS := fun _ ih m dep ls st h => zpop st fun v t => zpop t fun r t => zkd 4 r fun a => zcel h a fun tag len vs => (@Bool.rec (fun _ => zR) (none) (zfit ft v (zls vs i v fun vs' => zsetc h a (tag, len, vs') fun h' => ih m nx dep ls t h')) (Nat.beq tag ci))
noncomputable def s_al (nx : Nat) : zS := fun ctx ih m dep ls st h => zpop st fun r t => (@Bool.rec (fun _ => zR) (zcell h r fun tag len _ => (@Bool.rec (fun _ => zR) (none) ((@Bool.rec (fun _ => zR) (none) (ih m nx dep ls (Nat.mul len 16 :: t) h) (Nat.ble tag 31))) (Nat.ble 20 tag))) (ih m nx dep ls (zti ctx.2.length :: t) h) (Nat.beq r 6))
/-- of a row that is known at named places only: the number of the name, the cell, and so on -/
noncomputable def zsy (l : List Nat) : Nat → (Nat → zR) → zR := List.rec (motive := fun _ => Nat → (Nat → zR) → zR) (fun _ _ => none) (fun a t ih q k => (@Bool.rec (fun _ => zR) (ih q k) (k (Nat.add (Nat.shiftLeft (Nat.shiftRight a 4) 4) 4)) (Nat.beq (Nat.land a 15) (Nat.shiftRight q 4)))) l
noncomputable def s_ald (nx : Nat) : zS := fun _ ih m dep ls st h => zpop st fun i t => zpop t fun r t => (@Bool.rec (fun _ => zR) ((@Bool.rec (fun _ => zR) (none) (zkd 4 r fun a => zcel h a fun tag _ vs => (@Bool.rec (fun _ => zR) (none) ((@Bool.rec (fun _ => zR) (none) (zsy vs i fun v => ih m nx dep ls (v :: t) h) (Nat.ble tag 31))) (Nat.ble 30 tag))) (Nat.beq (Nat.land i 15) 1))) (zcell h r fun tag len vs => (@Bool.rec (fun _ => zR) (none) ((@Bool.rec (fun _ => zR) (none) ((@Bool.rec (fun _ => zR) (none) (zlg vs (Nat.shiftRight i 4) fun v => ih m nx dep ls (v :: t) h) (Nat.ble (Nat.succ (Nat.shiftRight i 4)) len))) (Nat.ble tag 29))) (Nat.ble 20 tag))) (Nat.beq (Nat.land i 15) 0))
noncomputable def s_sld (nx : Nat) : zS := fun ctx ih m dep ls st h => zpop st fun i t => zpop t fun r t => zkd 0 i fun n => (@Bool.rec (fun _ => zR) (none) (zlg ctx.2 n fun v => ih m nx dep ls (v :: t) h) (Nat.beq r 6))
/-- what may go into a row: its type's number -/
noncomputable def s_ast (tg ft nx : Nat) : zS := fun _ ih m dep ls st h => zpop st fun v t => zpop t fun i t => zpop t fun r t => zkd 0 i fun n => zkd 4 r fun a => zcel h a fun tag len vs => (@Bool.rec (fun _ => zR) (none) ((@Bool.rec (fun _ => zR) (none) (zfit ft v (zls vs n v fun vs' => zsetc h a (tag, len, vs') fun h' => ih m nx dep ls t h')) (Nat.ble (Nat.succ n) len))) (Nat.beq tag tg))
noncomputable def zsyp (l : List Nat) : Nat → Nat → (List Nat → zR) → zR := List.rec (motive := fun _ => Nat → Nat → (List Nat → zR) → zR) (fun _ _ _ => none) (fun a t ih q b k => (@Bool.rec (fun _ => zR) (ih q b fun r' => k (a :: r')) (k (Nat.add (Nat.shiftLeft b 4) (Nat.shiftRight q 4) :: t)) (Nat.beq (Nat.land a 15) (Nat.shiftRight q 4)))) l
/-- a thing (of class ct) into a row of references (of kind tg) -/
noncomputable def s_aas (tg ct nx : Nat) : zS := fun _ ih m dep ls st h => zpop st fun v t => zpop t fun i t => zpop t fun r t => zkd 4 r fun a => zcel h a fun tag len vs => zcell h v fun c _ _ => (@Bool.rec (fun _ => zR) (none) ((@Bool.rec (fun _ => zR) ((@Bool.rec (fun _ => zR) (none) ((@Bool.rec (fun _ => zR) (none) (zkd 4 v fun b => zsyp vs i b fun vs' => zsetc h a (tag, len, vs') fun h' => ih m nx dep ls t h') (Nat.beq tag 31))) (Nat.beq (Nat.land i 15) 1))) ((@Bool.rec (fun _ => zR) (none) ((@Bool.rec (fun _ => zR) (none) (zls vs (Nat.shiftRight i 4) v fun vs' => zsetc h a (tag, len, vs') fun h' => ih m nx dep ls t h') (Nat.ble (Nat.succ (Nat.shiftRight i 4)) len))) (Nat.beq tag tg))) (Nat.beq (Nat.land i 15) 0))) (Nat.beq c ct))
noncomputable def s_new (ci len : Nat) (fs : List Nat) (nx : Nat) : zS := fun _ ih m dep ls st h => znewc h (ci, 0, fs) len fun a h' => ih m nx dep ls (Nat.add (Nat.mul a 16) 4 :: st) h'
noncomputable def s_na (tg d nx : Nat) : zS := fun _ ih m dep ls st h => zpop st fun x t => zkd 0 x fun n => (@Bool.rec (fun _ => zR) (none) (zrep n d [] fun vs => znewc h (tg, n, vs) n fun a h' => ih m nx dep ls (Nat.add (Nat.mul a 16) 4 :: t) h') (Nat.ble n 65535))
noncomputable def s_oi (nx : Nat) : zS := fun _ ih m dep ls st h => zpop st fun r t => zkd 4 r fun _ => zsm t 8 (ih m nx dep ls t h)
/-- a row's first places are those of another one -/
noncomputable def zcpf (n : Nat) : List Nat → List Nat → (List Nat → zR) → zR := Nat.rec (motive := fun _ => List Nat → List Nat → (List Nat → zR) → zR) (fun _ d k => k d) (fun _ ih s d k => (List.rec (motive := fun _ => zR) (none) (fun a s _ => (List.rec (motive := fun _ => zR) (none) (fun _b d _ => ih s d fun r => k (a :: r)) (d))) (s))) n
noncomputable def s_cp (nx : Nat) : zS := fun _ ih m dep ls st h => zpop st fun n t => zpop t fun dp t => zpop t fun d t => zpop t fun sp t => zpop t fun s t => zkd 0 n fun n => zkd 4 d fun a => zkd 4 s fun b => (@Bool.rec (fun _ => zR) (none) ((@Bool.rec (fun _ => zR) (none) (zcel h a fun tag len vs => zcel h b fun tag2 len2 vs2 => (@Bool.rec (fun _ => zR) (none) ((@Bool.rec (fun _ => zR) (none) ((@Bool.rec (fun _ => zR) (none) ((@Bool.rec (fun _ => zR) (none) (zsm t 8 ((@Bool.rec (fun _ => zR) (zcpf n vs2 vs fun vs' => zsetc h a (tag, len, vs') fun h' => ih m nx dep ls t h') (none) (Nat.beq a b)))) (Nat.ble n len2))) (Nat.ble n len))) (Nat.beq tag2 20))) (Nat.beq tag 20))) (Nat.beq sp 0))) (Nat.beq dp 0))
noncomputable def zhs (e : Nat) (no : zR) (k : Nat → Nat → zR) (l : List (Nat × Nat × Nat)) : zR := List.rec (motive := fun _ => zR) no (fun a _ ih => (Prod.rec (motive := fun _ => zR) (fun x r => (Prod.rec (motive := fun _ => zR) (fun i nx => (@Bool.rec (fun _ => zR) (ih) (k i nx) (Nat.beq e x))) (r))) (a))) l
noncomputable def s_thr (e : Nat) : zS := fun _ _ _ _ _ st h => zsm st 8 ((Prod.rec (motive := fun _ => zR) (fun n r => (Prod.rec (motive := fun _ => zR) (fun cs r => (Prod.rec (motive := fun _ => zR) (fun sl t => zf (Nat.succ cs) fun cs' => zf (Nat.add sl 6) fun sl' => some (2, e, (n, cs', sl', t))) (r))) (r))) (h)))
/-- a call: the receiver's class (99: not asked), the method, its locals, how many arguments, does it answer, the handlers -/
noncomputable def s_call (vi mi mx na rv : Nat) (hs : List (Nat × Nat × Nat)) (nx : Nat) : zS := fun _ ih m dep ls st h => zargs na st [] fun as rest => zsm rest 8 ((@Nat.rec (fun _ => zR) (none) (fun d _ => zent as mx fun l =>
  (fun k : zR => (@Bool.rec (fun _ => zR) ((List.rec (motive := fun _ => zR) (none) (fun r _t _ => zcell h r fun tag _ _ => (@Bool.rec (fun _ => zR) (none) (k) (Nat.beq tag vi))) (as))) (k) (Nat.beq vi 99))) ((Option.rec (motive := fun _ => zR) (none) (fun o => (Prod.rec (motive := fun _ => zR) (fun c r => (Prod.rec (motive := fun _ => zR) (fun v h' => (@Bool.rec (fun _ => zR) ((@Bool.rec (fun _ => zR) (none) ((@Nat.rec (fun _ => zR) (ih m nx dep ls rest h') (fun _j _ => ih m nx dep ls (v :: rest) h') (rv))) (Nat.beq c rv))) (zhs v (some (2, v, h')) (fun i nx => zst ls i 9 fun l => ih m nx dep l [] h') hs) (Nat.beq c 2))) (r))) (o))) (ih mi 0 d l [] h)))) (dep))) 
