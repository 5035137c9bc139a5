/-! THE EXECUTOR: what the bytecode of this claim does, as a function that the kernel can run. -/
/-- a value: its kind and a number. 0 an int, 1 an int that is only named, 2 a long, 3 a named int as a long, 4 a cell of the run, 5 null, 6 a cell that was there before, 7 a double, 8 a float, 9 nothing known, 10 a value of the start, never looked at -/
abbrev zv : Type := Nat × Nat
/-- a cell: what it is, its length (rows), what it holds -/
abbrev zc : Type := Nat × Nat × List zv
def zT : Nat → Type
  | 0 => zc
  | d + 1 => zT d × zT d
def zget : (d : Nat) → zT d → Nat → zc
  | 0, t, _ => t
  | d + 1, t, i => match (t : zT d × zT d) with
    | (a, b) => cond (Nat.beq (Nat.mod i 2) 0) (zget d a (Nat.div i 2)) (zget d b (Nat.div i 2))
def zput : (d : Nat) → zT d → Nat → zc → zT d
  | 0, _, _, c => c
  | d + 1, t, i, c => match (t : zT d × zT d) with
    | (a, b) => cond (Nat.beq (Nat.mod i 2) 0) ((zput d a (Nat.div i 2) c, b) : zT d × zT d) ((a, zput d b (Nat.div i 2) c) : zT d × zT d)
def znil : (d : Nat) → zT d
  | 0 => (99, 0, [])
  | d + 1 => ((znil d, znil d) : zT d × zT d)
/-- the heap: how many cells have a number here, how many were made, how many places they have together, the cells -/
abbrev zh : Type := Nat × Nat × Nat × zT 9
/-- an end: 0 returned nothing, 1 a value, 2 threw -/
abbrev zo : Type := Nat × zv × zh
abbrev zR : Type := Option zo
def zset : (d : Nat) → zT d → Nat → zc → (zT d → zR) → zR
  | 0, _, _, c, k => k c
  | d + 1, t, i, c, k => match (t : zT d × zT d) with
    | (a, b) => cond (Nat.beq (Nat.mod i 2) 0) (zset d a (Nat.div i 2) c (fun a' => k ((a', b) : zT d × zT d))) (zset d b (Nat.div i 2) c (fun b' => k ((a, b') : zT d × zT d)))
/-- a number, reckoned out before it goes on -/
def zf (n : Nat) (k : Nat → zR) : zR := match n with
  | 0 => k 0
  | j + 1 => k (Nat.succ j)
def zlg : List zv → Nat → (zv → zR) → zR
  | [], _, _ => none
  | a :: t, i, k => match i with
    | 0 => k a
    | j + 1 => zlg t j k
def zls : List zv → Nat → zv → (List zv → zR) → zR
  | [], _, _, _ => none
  | a :: t, i, v, k => match i with
    | 0 => k (v :: t)
    | j + 1 => zls t j v (fun t' => k (a :: t'))
def zrep : Nat → zv → List zv → (List zv → zR) → zR
  | 0, _, acc, k => k acc
  | n + 1, v, acc, k => zrep n v (v :: acc) k
/-- what the run is told of names: where each lies (from, to, not at; all + 2^31), what reckoning with it gives, the script -/
abbrev zctx : Type := List (Nat × Nat × List Nat) × List (List Nat × zv) × List zv
abbrev zI : Type := Nat → Nat → Nat → List zv → List zv → zh → zR
abbrev zS : Type := zctx → zI → Nat → Nat → List zv → List zv → zh → zR
def zpop (st : List zv) (k : zv → List zv → zR) : zR := match st with
  | [] => none
  | v :: t => k v t
def zkd (kd : Nat) (v : zv) (k : Nat → zR) : zR := match v with
  | (a, n) => cond (Nat.beq a kd) (k n) none
def zin (lo hi : Nat) (v : zv) (k : zR) : zR := match v with
  | (a, _) => cond (Nat.ble lo a) (cond (Nat.ble a hi) k none) none
def zc2 (k : Nat) : Bool := cond (Nat.beq k 2) true (cond (Nat.beq k 3) true (Nat.beq k 7))
def zst (l : List zv) (i : Nat) (v : zv) (k : List zv → zR) : zR := match i with
  | 0 => zls l 0 v k
  | j + 1 => zlg l j (fun w => cond (zc2 w.1) (zls l j (9, 0) (fun l1 => zls l1 (j + 1) v k)) (zls l (j + 1) v k))
def zleq : List Nat → List Nat → Bool
  | [], [] => true
  | a :: s, b :: t => cond (Nat.beq a b) (zleq s t) false
  | _, _ => false
def zfact : List (List Nat × zv) → List Nat → (zv → zR) → zR
  | [], _, _ => none
  | (a, v) :: t, q, k => cond (zleq a q) (k v) (zfact t q k)
def zrl : List (Nat × Nat × List Nat) → Nat → (Nat → Nat → List Nat → zR) → zR
  | [], _, _ => none
  | (a, b, x) :: t, i, k => match i with
    | 0 => k a b x
    | j + 1 => zrl t j k
def zmem : List Nat → Nat → Bool
  | [], _ => false
  | a :: t, n => cond (Nat.beq a n) true (zmem t n)
/-- an int's number, moved so that the order is the numbers' own -/
def zb (a : Nat) : Nat := Nat.mod (Nat.add a 2147483648) 4294967296
def zbl (a : Nat) : Nat := Nat.mod (Nat.add a 9223372036854775808) 18446744073709551616
/-- how two ints lie: 0 less, 1 alike, 2 more, 3 not alike -/
def zcmp (ctx : zctx) (x y : zv) (k : Nat → zR) : zR := match x, y with
  | (a, n), (b, r) => cond (Nat.beq a 0)
    (cond (Nat.beq b 0) (zf (zb n) fun n => zf (zb r) fun r => cond (Nat.beq n r) (k 1) (cond (Nat.ble n r) (k 0) (k 2)))
      (cond (Nat.beq b 1) (zf (zb n) fun n => zrl ctx.1 r fun lo hi ex => cond (Nat.ble (Nat.succ hi) n) (k 2) (cond (Nat.ble (Nat.succ n) lo) (k 0) (cond (zmem ex n) (k 3) none))) none))
    (cond (Nat.beq a 1)
      (cond (Nat.beq b 0) (zf (zb r) fun r => zrl ctx.1 n fun lo hi ex => cond (Nat.ble (Nat.succ hi) r) (k 0) (cond (Nat.ble (Nat.succ r) lo) (k 2) (cond (zmem ex r) (k 3) none)))
        (cond (Nat.beq b 1) (cond (Nat.beq n r) (k 1) (zfact ctx.2.1 [40, n, r] fun _ => k 3)) none)) none)
def zif (c q : Nat) (t f : zR) : zR :=
  cond (Nat.beq c 0) (cond (Nat.beq q 1) t f) (cond (Nat.beq c 1) (cond (Nat.beq q 1) f t)
    (cond (Nat.beq q 3) none (cond (Nat.beq c 2) (cond (Nat.beq q 0) t f) (cond (Nat.beq c 3) (cond (Nat.beq q 0) f t) (cond (Nat.beq c 4) (cond (Nat.beq q 2) t f) (cond (Nat.beq q 2) f t))))))
/-- the cells that were there: the script's row is no. 0 (never read here), two empty rows, the cache of small Integers, five texts with their bytes, the Integers -/
def zbytes (l : List Nat) : zc := (22, l.length, l.map fun n => (0, n))
def zstr (k : Nat) : zc := (14, 0, [(6, k), (0, 0), (0, 0), (0, 0)])
def zext : List zc := [(98, 0, []), (20, 0, []), (26, 0, []), (29, 256, (List.range 256).map fun k => (6, 14 + k)),
  zstr 5, zbytes [115, 108, 99, 116], zstr 7, zbytes [43, 45, 42, 47, 37, 109, 103, 99, 38, 124, 94, 110, 60, 62], zstr 9, zbytes [45, 97, 126, 113], zstr 11, zbytes [49, 48, 102],
  zstr 13, zbytes [48, 49, 50, 51, 52, 53, 54, 55, 56, 57, 97, 98, 99, 100, 101, 102, 103, 104, 105, 106, 107, 108, 109, 110, 111, 112, 113, 114, 115, 116, 117, 118, 119, 120, 121, 122]]
def zeg : List zc → Nat → (zc → zR) → zR
  | [], _, _ => none
  | a :: t, i, k => match i with
    | 0 => k a
    | j + 1 => zeg t j k
/-- the cell behind a reference -/
def zcell (h : zh) (v : zv) (k : Nat → Nat → List zv → zR) : zR := match v with
  | (kd, a) => cond (Nat.beq kd 4) (match h with
      | (n, _, _, t) => cond (Nat.ble (Nat.succ a) n) (match zget 9 t a with
        | (tag, len, vs) => k tag len vs) none)
    (cond (Nat.beq kd 6) (zeg zext a fun c => match c with
      | (tag, len, vs) => k tag len vs) none)
def zsetc (h : zh) (a : Nat) (c : zc) (k : zh → zR) : zR := match h with
  | (n, cs, sl, t) => zset 9 t a c fun t' => k (n, cs, sl, t')
def znewc (h : zh) (c : zc) (len : Nat) (k : Nat → zh → zR) : zR := match h with
  | (n, cs, sl, t) => cond (Nat.ble (Nat.succ n) 512) (zf (Nat.succ n) fun n' => zf (Nat.succ cs) fun cs' => zf (Nat.add sl len) fun sl' => zset 9 t n c fun t' => k n (n', cs', sl', t')) none
def zsum : List zv → Nat
  | [] => 0
  | (k, _) :: t => Nat.add (cond (zc2 k) 2 1) (zsum t)
def zargs : Nat → List zv → List zv → (List zv → List zv → zR) → zR
  | 0, st, acc, k => k acc st
  | n + 1, st, acc, k => match st with
    | [] => none
    | v :: t => zargs n t (v :: acc) k
/-- a method's locals at its entry: the arguments, then nothing known -/
def zent : List zv → Nat → (List zv → zR) → zR
  | [], n, k => zrep n (9, 0) [] k
  | (kd, a) :: t, n, k => cond (zc2 kd) (match n with
      | 0 => none
      | m + 1 => match m with
        | 0 => none
        | n' + 1 => zent t n' fun l => k ((kd, a) :: (9, 0) :: l))
    (match n with
      | 0 => none
      | n' + 1 => zent t n' fun l => k ((kd, a) :: l))
-- the instructions
def s_k (v : zv) (nx : Nat) : zS := fun _ ih m dep ls st h => ih m nx dep ls (v :: st) h
def s_ld (lo hi i nx : Nat) : zS := fun _ ih m dep ls st h => zlg ls i fun v => match v with
  | (a, n) => cond (Nat.ble lo a) (cond (Nat.ble a hi) (ih m nx dep ls ((a, n) :: st) h) (cond (Nat.beq lo 4) (cond (Nat.beq a 10) none none) none)) none
def s_s1 (lo hi i nx : Nat) : zS := fun _ ih m dep ls st h => zpop st fun v t => zin lo hi v (zst ls i v fun l => ih m nx dep l t h)
def s_s2 (lo hi i nx : Nat) : zS := fun _ ih m dep ls st h => zpop st fun v t => zin lo hi v (zst ls i v fun l => zls l (i + 1) (9, 0) fun l2 => ih m nx dep l2 t h)
def s_inc (i d nx : Nat) : zS := fun _ ih m dep ls st h => zlg ls i fun v => zkd 0 v fun n => zf (Nat.mod (Nat.add n d) 4294967296) fun r => zst ls i (0, r) fun l => ih m nx dep l st h
def s_dup (nx : Nat) : zS := fun _ ih m dep ls st h => zpop st fun v t => cond (zc2 v.1) none (ih m nx dep ls (v :: v :: t) h)
def s_pop (nx : Nat) : zS := fun _ ih m dep ls st h => zpop st fun v t => cond (zc2 v.1) none (ih m nx dep ls t h)
def s_dx1 (nx : Nat) : zS := fun _ ih m dep ls st h => zpop st fun v t => zpop t fun w t => cond (zc2 v.1) none (cond (zc2 w.1) none (ih m nx dep ls (v :: w :: v :: t) h))
def s_dup2 (nx : Nat) : zS := fun _ ih m dep ls st h => zpop st fun v t => cond (zc2 v.1) none (zpop t fun w t => cond (zc2 w.1) none (ih m nx dep ls (v :: w :: v :: w :: t) h))
/-- of two: both are numbers (then f), or the names' table says it -/
def zbin (op kx ky kr : Nat) (f : Nat → Nat → (Nat → zR) → zR) (nx : Nat) : zS := fun ctx ih m dep ls st h => zpop st fun y t => zpop t fun x t => match x, y with
  | (a, n), (b, r) => cond (Nat.beq a kx) (cond (Nat.beq b ky) (f n r fun q => ih m nx dep ls ((kr, q) :: t) h) (zfact ctx.2.1 [op, a, n, b, r] fun v => ih m nx dep ls (v :: t) h)) (zfact ctx.2.1 [op, a, n, b, r] fun v => ih m nx dep ls (v :: t) h)
def zuna (op kx kr : Nat) (f : Nat → (Nat → zR) → zR) (nx : Nat) : zS := fun ctx ih m dep ls st h => zpop st fun x t => match x with
  | (a, n) => cond (Nat.beq a kx) (f n fun q => ih m nx dep ls ((kr, q) :: t) h) (zfact ctx.2.1 [op, a, n] fun v => ih m nx dep ls (v :: t) h)
def z32 (n : Nat) : Nat := Nat.mod n 4294967296
def z64 (n : Nat) : Nat := Nat.mod n 18446744073709551616
def s_iadd : Nat → zS := zbin 1 0 0 0 fun a b => zf (z32 (Nat.add a b))
def s_isub : Nat → zS := zbin 2 0 0 0 fun a b => zf (z32 (Nat.add a (Nat.sub 4294967296 (z32 b))))
def s_imul : Nat → zS := zbin 3 0 0 0 fun a b => zf (z32 (Nat.mul a b))
def s_iand : Nat → zS := zbin 4 0 0 0 fun a b => zf (z32 (Nat.land a b))
def s_ior : Nat → zS := zbin 5 0 0 0 fun a b => zf (z32 (Nat.lor a b))
def s_ixor : Nat → zS := zbin 6 0 0 0 fun a b => zf (z32 (Nat.xor a b))
def s_ishl : Nat → zS := zbin 7 0 0 0 fun a b => zf (z32 (Nat.shiftLeft a (Nat.mod b 32)))
def zsar (w a s : Nat) : Nat := cond (Nat.ble (Nat.succ a) (Nat.div w 2)) (Nat.shiftRight a s) (Nat.sub (Nat.sub w 1) (Nat.shiftRight (Nat.sub (Nat.sub w 1) a) s))
def s_ishr : Nat → zS := zbin 8 0 0 0 fun a b => zf (zsar 4294967296 (z32 a) (Nat.mod b 32))
def s_iushr : Nat → zS := zbin 9 0 0 0 fun a b => zf (Nat.shiftRight (z32 a) (Nat.mod b 32))
def zdv (w a b : Nat) (k : zR) : zR := cond (Nat.ble (Nat.succ a) w) (cond (Nat.ble (Nat.succ b) w) (cond (Nat.beq b 0) none k) none) none
def s_idiv : Nat → zS := zbin 10 0 0 0 fun a b k => zdv 2147483648 a b (zf (Nat.div a b) k)
def s_irem : Nat → zS := zbin 11 0 0 0 fun a b k => zdv 2147483648 a b (zf (Nat.mod a b) k)
def s_ladd : Nat → zS := zbin 12 2 2 2 fun a b => zf (z64 (Nat.add a b))
def s_lsub : Nat → zS := zbin 13 2 2 2 fun a b => zf (z64 (Nat.add a (Nat.sub 18446744073709551616 (z64 b))))
def s_lmul : Nat → zS := zbin 14 2 2 2 fun a b => zf (z64 (Nat.mul a b))
def s_land : Nat → zS := zbin 15 2 2 2 fun a b => zf (z64 (Nat.land a b))
def s_lor : Nat → zS := zbin 16 2 2 2 fun a b => zf (z64 (Nat.lor a b))
def s_lxor : Nat → zS := zbin 17 2 2 2 fun a b => zf (z64 (Nat.xor a b))
def s_lshl : Nat → zS := zbin 18 2 0 2 fun a b => zf (z64 (Nat.shiftLeft a (Nat.mod b 64)))
def s_lshr : Nat → zS := zbin 19 2 0 2 fun a b => zf (zsar 18446744073709551616 (z64 a) (Nat.mod b 64))
def s_lushr : Nat → zS := zbin 20 2 0 2 fun a b => zf (Nat.shiftRight (z64 a) (Nat.mod b 64))
def s_ldiv : Nat → zS := zbin 21 2 2 2 fun a b k => zdv 9223372036854775808 a b (zf (Nat.div a b) k)
def s_lrem : Nat → zS := zbin 22 2 2 2 fun a b k => zdv 9223372036854775808 a b (zf (Nat.mod a b) k)
def s_ddiv : Nat → zS := zbin 23 7 7 7 fun a b k => cond (Nat.beq a 0) (cond (Nat.beq b 4620693217682128896) (k 0) none) none
def s_dcmpl : Nat → zS := zbin 24 7 7 0 fun a b k => cond (Nat.beq a 0) (cond (Nat.beq b 0) (k 0) none) none
def s_ineg : Nat → zS := zuna 30 0 0 fun a => zf (z32 (Nat.sub 4294967296 (z32 a)))
def s_lneg : Nat → zS := zuna 31 2 2 fun a => zf (z64 (Nat.sub 18446744073709551616 (z64 a)))
def s_i2l (nx : Nat) : zS := fun _ ih m dep ls st h => zpop st fun x t => match x with
  | (a, n) => cond (Nat.beq a 0) (zf (z32 n) fun n => cond (Nat.ble (Nat.succ n) 2147483648) (ih m nx dep ls ((2, n) :: t) h) (zf (Nat.add n 18446744069414584320) fun q => ih m nx dep ls ((2, q) :: t) h)) (cond (Nat.beq a 1) (ih m nx dep ls ((3, n) :: t) h) none)
def s_l2i (nx : Nat) : zS := fun ctx ih m dep ls st h => zpop st fun x t => match x with
  | (a, n) => cond (Nat.beq a 2) (zf (z32 n) fun q => ih m nx dep ls ((0, q) :: t) h) (cond (Nat.beq a 3) (ih m nx dep ls ((1, n) :: t) h) (zfact ctx.2.1 [33, a, n] fun v => ih m nx dep ls (v :: t) h))
def s_i2b : Nat → zS := zuna 34 0 0 fun a => zf (cond (Nat.ble (Nat.succ (Nat.mod a 256)) 128) (Nat.mod a 256) (Nat.add (Nat.mod a 256) 4294967040))
def s_i2c : Nat → zS := zuna 35 0 0 fun a => zf (Nat.mod a 65536)
def s_i2d : Nat → zS := zuna 36 0 7 fun a k => cond (Nat.beq a 0) (k 0) none
def s_lcmp (nx : Nat) : zS := fun ctx ih m dep ls st h => zpop st fun y t => zpop t fun x t => match x, y with
  | (a, n), (b, r) => cond (Nat.beq a 2)
    (cond (Nat.beq b 2) (zf (zbl n) fun n => zf (zbl r) fun r => cond (Nat.beq n r) (ih m nx dep ls ((0, 0) :: t) h) (cond (Nat.ble n r) (ih m nx dep ls ((0, 4294967295) :: t) h) (ih m nx dep ls ((0, 1) :: t) h))) (zfact ctx.2.1 [41, a, n, b, r] fun v => ih m nx dep ls (v :: t) h))
    (cond (Nat.beq a 3)
      (cond (Nat.beq b 2) (zf (zbl r) fun r => zrl ctx.1 n fun lo hi _ => cond (Nat.ble (Nat.succ (Nat.add hi 9223372034707292160)) r) (ih m nx dep ls ((0, 4294967295) :: t) h) (cond (Nat.ble (Nat.succ r) (Nat.add lo 9223372034707292160)) (ih m nx dep ls ((0, 1) :: t) h) (zfact ctx.2.1 [41, a, n, b, r] fun v => ih m nx dep ls (v :: t) h))) none)
      (zfact ctx.2.1 [41, a, n, b, r] fun v => ih m nx dep ls (v :: t) h))
def s_if (c t nx : Nat) : zS := fun ctx ih m dep ls st h => zpop st fun x r => zcmp ctx x (0, 0) fun q => zif c q (ih m t dep ls r h) (ih m nx dep ls r h)
def s_ic (c t nx : Nat) : zS := fun ctx ih m dep ls st h => zpop st fun y r => zpop r fun x r => zcmp ctx x y fun q => zif c q (ih m t dep ls r h) (ih m nx dep ls r h)
def s_ac (c t nx : Nat) : zS := fun _ ih m dep ls st h => zpop st fun y r => zpop r fun x r => zkd 4 x fun a => zkd 4 y fun b => cond (Nat.beq a b) (cond (Nat.beq c 0) (ih m t dep ls r h) (ih m nx dep ls r h)) (cond (Nat.beq c 0) (ih m nx dep ls r h) (ih m t dep ls r h))
def s_nl (c t nx : Nat) : zS := fun _ ih m dep ls st h => zpop st fun x r => match x with
  | (a, _) => cond (Nat.beq a 5) (cond (Nat.beq c 0) (ih m t dep ls r h) (ih m nx dep ls r h)) (cond (Nat.beq a 4) (cond (Nat.beq c 0) (ih m nx dep ls r h) (ih m t dep ls r h)) none)
def s_go (t : Nat) : zS := fun _ ih m dep ls st h => ih m t dep ls st h
def zsw (ctx : zctx) (x : zv) (d : Nat) (k : Nat → zR) : List (Nat × Nat) → zR
  | [] => k d
  | (n, t) :: r => zcmp ctx x (0, n) fun q => cond (Nat.beq q 1) (k t) (zsw ctx x d k r)
def s_sw (ps : List (Nat × Nat)) (d : Nat) : zS := fun ctx ih m dep ls st h => zpop st fun x r => zin 0 1 x (zsw ctx x d (fun t => ih m t dep ls r h) ps)
def s_ret (lo hi : Nat) : zS := fun _ _ _ _ _ st h => zpop st fun v r => zin lo hi v (match r with
  | [] => some (1, v, h)
  | _ :: _ => none)
def s_rv : zS := fun _ _ _ _ _ st h => match st with
  | [] => some (0, (9, 0), h)
  | _ :: _ => none
def s_gf (ci k nx : Nat) : zS := fun _ ih m dep ls st h => zpop st fun r t => zcell h r fun tag _ vs => cond (Nat.beq tag ci) (zlg vs k fun v => ih m nx dep ls (v :: t) h) none
/-- may a value go into a field or place of that type: 0 int, 1 boolean, 2 byte, 3 char, 4 long, 5 reference, 6 double -/
def zfit (ft : Nat) (v : zv) (k : zR) : zR := match v with
  | (a, n) => cond (Nat.beq ft 0) (cond (Nat.ble a 1) k none) (cond (Nat.beq ft 4) (cond (Nat.beq a 2) k (cond (Nat.beq a 3) k none))
    (cond (Nat.beq ft 5) (cond (Nat.ble 4 a) (cond (Nat.ble a 6) k none) none) (cond (Nat.beq ft 6) (cond (Nat.beq a 7) k none)
    (cond (Nat.beq a 0) (cond (Nat.beq ft 1) (cond (Nat.ble n 1) k none) (cond (Nat.beq ft 2) (cond (Nat.ble n 127) k (cond (Nat.ble 4294967168 n) (cond (Nat.ble n 4294967295) k none) none)) (cond (Nat.beq ft 3) (cond (Nat.ble n 65535) k none) none))) none))))
def s_pf (ci k ft nx : Nat) : zS := fun _ ih m dep ls st h => zpop st fun v t => zpop t fun r t => zkd 4 r fun a => zcell h r fun tag len vs => cond (Nat.beq tag ci) (zfit ft v (zls vs k v fun vs' => zsetc h a (tag, len, vs') fun h' => ih m nx dep ls t h')) none
def s_al (nx : Nat) : zS := fun ctx ih m dep ls st h => zpop st fun r t => match r with
  | (kd, a) => cond (Nat.beq kd 6) (cond (Nat.beq a 0) (ih m nx dep ls ((0, ctx.2.2.length) :: t) h) (zcell h r fun tag len _ => cond (Nat.ble 20 tag) (cond (Nat.ble tag 31) (ih m nx dep ls ((0, len) :: t) h) none) none)) (zcell h r fun tag len _ => cond (Nat.ble 20 tag) (cond (Nat.ble tag 31) (ih m nx dep ls ((0, len) :: t) h) none) none)
def zsy : List zv → Nat → (Nat → zR) → zR
  | [], _, _ => none
  | (t, a) :: r, q, k => cond (Nat.beq t q) (k a) (zsy r q k)
def s_ald (nx : Nat) : zS := fun _ ih m dep ls st h => zpop st fun i t => zpop t fun r t => match i with
  | (ki, n) => cond (Nat.beq ki 0) (zcell h r fun tag len vs => cond (Nat.ble 20 tag) (cond (Nat.ble tag 29) (cond (Nat.ble (Nat.succ n) len) (zlg vs n fun v => ih m nx dep ls (v :: t) h) none) none) none)
    (cond (Nat.beq ki 1) (zkd 4 r fun _ => zcell h r fun tag _ vs => cond (Nat.ble 30 tag) (cond (Nat.ble tag 31) (zsy vs n fun a => ih m nx dep ls ((4, a) :: t) h) none) none) none)
def s_sld (nx : Nat) : zS := fun ctx ih m dep ls st h => zpop st fun i t => zpop t fun r t => zkd 0 i fun n => zkd 6 r fun a => cond (Nat.beq a 0) (zlg ctx.2.2 n fun v => ih m nx dep ls (v :: t) h) none
/-- what may go into a row: its type's number -/
def zft (tag : Nat) : Nat := cond (Nat.beq tag 20) 0 (cond (Nat.beq tag 21) 4 (cond (Nat.beq tag 22) 2 (cond (Nat.beq tag 23) 3 (cond (Nat.beq tag 24) 6 9))))
def s_ast (tg nx : Nat) : zS := fun _ ih m dep ls st h => zpop st fun v t => zpop t fun i t => zpop t fun r t => zkd 0 i fun n => zkd 4 r fun a => zcell h r fun tag len vs => cond (Nat.beq tag tg) (cond (Nat.ble (Nat.succ n) len) (zfit (zft tg) v (zls vs n v fun vs' => zsetc h a (tag, len, vs') fun h' => ih m nx dep ls t h')) none) none
def zsyp : List zv → Nat → Nat → (List zv → zR) → zR
  | [], _, _, _ => none
  | (t, a) :: r, q, b, k => cond (Nat.beq t q) (k ((t, b) :: r)) (zsyp r q b fun r' => k ((t, a) :: r'))
/-- what may go into a row of references: the row's kind, the thing's -/
def zel (tag ct : Nat) : Bool := cond (Nat.beq tag 25) (Nat.beq ct 7) (cond (Nat.beq tag 26) (Nat.beq ct 15) (cond (Nat.beq tag 27) (Nat.beq ct 20) (cond (Nat.beq tag 28) (Nat.beq ct 9) (cond (Nat.beq tag 30) (Nat.beq ct 7) (cond (Nat.beq tag 31) (Nat.beq ct 9) false)))))
def s_aas (nx : Nat) : zS := fun _ ih m dep ls st h => zpop st fun v t => zpop t fun i t => zpop t fun r t => zkd 4 r fun a => zcell h r fun tag len vs => zcell h v fun ct _ _ => cond (zel tag ct) (match i with
  | (ki, n) => cond (Nat.beq ki 0) (cond (Nat.ble tag 29) (cond (Nat.ble (Nat.succ n) len) (zls vs n v fun vs' => zsetc h a (tag, len, vs') fun h' => ih m nx dep ls t h') none) none)
    (cond (Nat.beq ki 1) (cond (Nat.ble 30 tag) (zkd 4 v fun b => zsyp vs n b fun vs' => zsetc h a (tag, len, vs') fun h' => ih m nx dep ls t h') none) none)) none
def s_new (ci : Nat) (fs : List zv) (nx : Nat) : zS := fun _ ih m dep ls st h => znewc h (ci, 0, fs) fs.length fun a h' => ih m nx dep ls ((4, a) :: st) h'
def s_na (tg : Nat) (d : zv) (nx : Nat) : zS := fun _ ih m dep ls st h => zpop st fun x t => zkd 0 x fun n => cond (Nat.ble n 65535) (zrep n d [] fun vs => znewc h (tg, n, vs) n fun a h' => ih m nx dep ls ((4, a) :: t) h') none
def s_oi (nx : Nat) : zS := fun _ ih m dep ls st h => zpop st fun r t => zkd 4 r fun _ => cond (Nat.ble (zsum t) 8) (ih m nx dep ls t h) none
def zupd (sp dp n : Nat) (src dst : List zv) : List zv := (List.range dst.length).map fun j => cond (Nat.ble dp j) (cond (Nat.ble (Nat.succ j) (Nat.add dp n)) (src.getD (Nat.add sp (Nat.sub j dp)) (9, 0)) (dst.getD j (9, 0))) (dst.getD j (9, 0))
/-- a row's first places are those of another one -/
def zcpf : Nat → List zv → List zv → (List zv → zR) → zR
  | 0, _, d, k => k d
  | n + 1, s, d, k => match s with
    | [] => none
    | a :: s => match d with
      | [] => none
      | _ :: d => zcpf n s d fun r => k (a :: r)
def s_cp (nx : Nat) : zS := fun _ ih m dep ls st h => zpop st fun n t => zpop t fun dp t => zpop t fun d t => zpop t fun sp t => zpop t fun s t => zkd 0 n fun n => zkd 0 dp fun dp => zkd 0 sp fun sp => zkd 4 d fun a => zkd 4 s fun b => cond (Nat.beq dp 0) (cond (Nat.beq sp 0) (zcell h d fun tag len vs => zcell h s fun tag2 len2 vs2 => cond (Nat.beq tag 20) (cond (Nat.beq tag2 20) (cond (Nat.ble n len) (cond (Nat.ble n len2) (cond (Nat.ble (zsum t) 8) (cond (Nat.beq a b) none (zcpf n vs2 vs fun vs' => zsetc h a (tag, len, vs') fun h' => ih m nx dep ls t h')) none) none) none) none) none) none) none
def zhs (e : Nat) (none' : zR) (k : Nat → Nat → zR) : List (Nat × Nat × Nat) → zR
  | [] => none'
  | (x, i, nx) :: r => cond (Nat.beq e x) (k i nx) (zhs e none' k r)
def s_thr (e : Nat) : zS := fun _ _ _ _ _ st h => cond (Nat.ble (zsum st) 8) (match h with
  | (n, cs, sl, t) => zf (Nat.succ cs) fun cs' => zf (Nat.add sl 6) fun sl' => some (2, (e, 0), (n, cs', sl', t))) none
def s_call (vi mi mx na rv : Nat) (hs : List (Nat × Nat × Nat)) (nx : Nat) : zS := fun _ ih m dep ls st h => zargs na st [] fun as rest =>
  cond (Nat.ble (zsum rest) 8) (cond (match as with
    | [] => Nat.beq vi 99
    | r :: _ => cond (Nat.beq vi 99) true (match zcell h r (fun tag _ _ => cond (Nat.beq tag vi) (some (0, (9, 0), h)) none) with
      | none => false
      | some _ => true)) (match dep with
    | 0 => none
    | d + 1 => zent as mx fun l => match ih mi 0 d l [] h with
      | none => none
      | some (c, v, h') => cond (Nat.beq c 2) (zhs v.1 (some (2, v, h')) (fun i nx => zst ls i (9, 0) fun l => ih m nx dep l [] h') hs)
        (cond (Nat.beq c rv) (cond (Nat.beq rv 0) (ih m nx dep ls rest h') (ih m nx dep ls (v :: rest) h')) none)) none) none
