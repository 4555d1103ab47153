def rmI (x y : Int32) : Int32 := x - x / y * y
def shlI (x y : Int32) : Int32 := x <<< (y &&& 31)
def shrI (x y : Int32) : Int32 := x >>> (y &&& 31)
def n8I (x : Int32) : Int32 := x.toInt8.toInt32
def n16I (x : Int32) : Int32 := x.toInt16.toInt32
def shlL (x : Int64) (y : Int32) : Int64 := x <<< (y.toInt64 &&& 63)
def shrL (x : Int64) (y : Int32) : Int64 := x >>> (y.toInt64 &&& 63)

def f_X10_slants (h : Mem)  : Option Int32 :=
some (gI h 3 5)


def f_X10_seed (h : Mem) (a1 : Int32) : Option (Int32 × Mem) :=
nm (gI h 2 9) fun x1 =>
nm (sI h 2 9 a1) fun h2 =>
some (x1, h2)


def f_X10_within (h : Mem) (a0 : Int32) (a1 : Int32) (a2 : Int32) : Option Int32 :=
join (rZ (iI 0) (some (iI 0))) fun (K1 : Option Int32) =>
if a0 < a1 then (K1)
else (if a2 < a0 then (K1)
else (rZ (iI 1) (some (iI 1))))


def f_X10_held (h : Mem) (a0 : Int32) (a1 : Int32) (a2 : Int32) : Option Int32 :=
some (mxI a1 (mnI a2 a0))


def f_X10_quotient (h : Mem) (a0 : Int32) (a1 : Int32) : Option Int32 :=
if ¬ a1 = 0 then (nz a1 <|
some (a0 / a1))
else (some (iI 0))


def f_X10_rest (h : Mem) (a0 : Int32) (a1 : Int32) : Option Int32 :=
if ¬ a1 = 0 then (nz a1 <|
some (rmI a0 a1))
else (some (iI 0))


def f_X11_in (h : Mem) (a0 : Int32) (a1 : Int32) (a2 : Int32) : Option Int32 :=
join (rZ (iI 0) (some (iI 0))) fun (K1 : Option Int32) =>
if a0 < a1 then (K1)
else (if a2 < a0 then (K1)
else (rZ (iI 1) (some (iI 1))))


def f_X11_errs (h : Mem) (a1 : Int32) : Option (Int32 × Mem) :=
ald h 77 6 ((iI (-1000000000)) - a1) fun v1 =>
ast h 77 6 ((iI (-1000000000)) - a1) (v1 + (iI 1)) fun h2 =>
some (a1, h2)


def f_X11_held (h : Mem) (a0 : Int32) (a1 : Int32) (a2 : Int32) : Option Int32 :=
if a1 ≤ a0 then (if a0 ≤ a2 then (some a0)
else (some a2))
else (some a1)

def f_X11_moveAll_k3 (q1 : Nat) (n1 : Nat) (q2 : Nat) (n2 : Nat) : Int32 → Mem → (Int32 → Mem → Option Mem) → Option Mem :=
fun (x1 : Int32) (h2 : Mem) (K3 : (Int32 → Mem → Option Mem)) =>
if (iI 305) ≤ x1 then (some h2)
else (ald h2 q1 n1 x1 fun v4 =>
ast h2 q2 n2 x1 v4 fun h5 =>
nm (x1 + iI 1) fun x6 =>
K3 x6 h5)

def f_X11_moveAll (h : Mem) (q1 : Nat) (n1 : Nat) (q2 : Nat) (n2 : Nat) : Option Mem :=
lo2 (f_X11_moveAll_k3 q1 n1 q2 n2) 1000000 (iI 0) h


def f_X11_many (h : Mem)  : Option Int32 :=
ald h 73 305 (iI 0) fun v1 =>
ald h 73 305 (iI 1) fun v2 =>
some (v1 * v2)


def f_X11_windows (h : Mem)  : Option Int32 :=
ald h 73 305 (iI 0) fun v1 =>
ald h 73 305 (iI 1) fun v2 =>
some ((iI 2) * (v1 + v2))


def f_X11_isSquare (h : Mem) (a1 : Int32) : Option Int32 :=
cal (f_X11_many h) fun v1 =>
cal (f_X11_in h a1 (iI 0) (v1 - (iI 1))) fun v2 =>
rZ v2 (some v2)


def f_X11_isWindow (h : Mem) (a1 : Int32) : Option Int32 :=
cal (f_X11_windows h) fun v1 =>
cal (f_X11_in h a1 (iI 0) (v1 - (iI 1))) fun v2 =>
rZ v2 (some v2)


def f_X11_its (h : Mem) (a1 : Int32) (a2 : Int32) : Option Int32 :=
ald h 73 305 (((iI 10) + ((iI 5) * a1)) + a2) fun v1 =>
some v1


def f_X11_puts (h : Mem) (a1 : Int32) (a2 : Int32) (a3 : Int32) : Option Mem :=
ast h 73 305 (((iI 10) + ((iI 5) * a1)) + a2) a3 fun h1 =>
some h1

def f_X11_hall_k10  : Int32 → Mem → (Int32 → Mem → Option (Int32 × Mem)) → Option (Int32 × Mem) :=
fun (x8 : Int32) (h9 : Mem) (K10 : (Int32 → Mem → Option (Int32 × Mem))) =>
if (iI 135) ≤ x8 then (cal (f_X11_windows h9) fun v11 =>
some (v11, h9))
else (ast h9 73 305 x8 (iI 0) fun h12 =>
nm (x8 + iI 1) fun x13 =>
K10 x13 h12)

def f_X11_hall (h : Mem) (a1 : Int32) (a2 : Int32) : Option (Int32 × Mem) :=
cal (f_X11_in h a1 (iI 1) (iI 5)) fun v1 =>
join (cal2 (f_X11_errs h (iI (-1000000001))) fun v3 h4 =>
some (v3, h4)) fun (K2 : Option (Int32 × Mem)) =>
if v1 = 0 then (K2)
else (cal (f_X11_in h a2 (iI 1) (iI 5)) fun v5 =>
if ¬ v5 = 0 then (ast h 73 305 (iI 0) a1 fun h6 =>
ast h6 73 305 (iI 1) a2 fun h7 =>
lo2 f_X11_hall_k10 1000000 (iI 10) h7)
else (K2))


def f_X11_square (h : Mem) (a1 : Int32) (a2 : Int32) (a3 : Int32) : Option (Int32 × Mem) :=
cal (f_X11_isSquare h a1) fun v1 =>
join (cal2 (f_X11_errs h (iI (-1000000001))) fun v3 h4 =>
some (v3, h4)) fun (K2 : Option (Int32 × Mem)) =>
if v1 = 0 then (K2)
else (cal (f_X11_in h a2 (iI 0) (iI 69)) fun v5 =>
if v5 = 0 then (K2)
else (cal (f_X11_in h a3 (iI 0) (iI 1)) fun v6 =>
if ¬ v6 = 0 then (cal (f_X11_its h a1 (iI 0)) fun v7 =>
nz (iI 10) <|
cal (f_X11_puts h a1 (iI 0) (a2 / (iI 10))) fun h8 =>
nz (iI 10) <|
cal (f_X11_puts h8 a1 (iI 1) (rmI a2 (iI 10))) fun h9 =>
cal (f_X11_puts h9 a1 (iI 2) a3) fun h10 =>
cal (f_X11_puts h10 a1 (iI 3) (iI 0)) fun h11 =>
some (v7, h11))
else (K2)))


def f_X11_doesThrow (h : Mem) (a1 : Int32) : Option Int32 :=
cal (f_X11_its h a1 (iI 0)) fun v1 =>
join (rZ (iI 1) (some (iI 1))) fun (K2 : Option Int32) =>
if v1 = (iI 1) then (K2)
else (if v1 = (iI 4) then (K2)
else (if ¬ v1 = (iI 5) then (rZ (iI 0) (some (iI 0)))
else (K2)))


def f_X11_doesStop (h : Mem) (a1 : Int32) : Option Int32 :=
cal (f_X11_its h a1 (iI 0)) fun v1 =>
join (rZ (iI 1) (some (iI 1))) fun (K2 : Option Int32) =>
if v1 = (iI 3) then (K2)
else (if ¬ v1 = (iI 6) then (rZ (iI 0) (some (iI 0)))
else (K2))


def f_X11_canTurn (h : Mem) (a1 : Int32) : Option Int32 :=
cal (f_X11_its h a1 (iI 0)) fun v1 =>
join (rZ (iI 1) (some (iI 1))) fun (K2 : Option Int32) =>
if v1 = (iI 1) then (K2)
else (if ¬ v1 = (iI 5) then (rZ (iI 0) (some (iI 0)))
else (K2))


def f_X11_above (h : Mem) (a0 : Int32) : Option Int32 :=
if ¬ a0 = 0 then (join (some (iI 1)) fun (K1 : Option Int32) =>
if a0 = (iI 4) then (K1)
else (if ¬ a0 = (iI 5) then (if ¬ a0 = (iI 6) then (some (iI 0))
else (some (iI 2)))
else (K1)))
else (some (iI (-1)))

def f_X11_as_k8 (h : Mem) (a1 : Int32) (a2 : Int32) : Int32 → (Int32 → Option (Int32 × Mem)) → Option (Int32 × Mem) :=
fun (x7 : Int32) (K8 : (Int32 → Option (Int32 × Mem))) =>
join (if 0 ≤ x7 then (cal (f_X11_its h a1 (iI 1)) fun v10 =>
some (v10, h))
else (cal2 (f_X11_errs h (iI (-1000000005))) fun v11 h12 =>
some (v11, h12))) fun (K9 : Option (Int32 × Mem)) =>
if x7 < 0 then (K9)
else (if x7 = a2 then (K9)
else (cal (f_X11_above h x7) fun v13 =>
K8 v13))

def f_X11_as (h : Mem) (a1 : Int32) (a2 : Int32) : Option (Int32 × Mem) :=
cal (f_X11_isSquare h a1) fun v1 =>
join (cal2 (f_X11_errs h (iI (-1000000001))) fun v3 h4 =>
some (v3, h4)) fun (K2 : Option (Int32 × Mem)) =>
if v1 = 0 then (K2)
else (cal (f_X11_in h a2 (iI 0) (iI 6)) fun v5 =>
if ¬ v5 = 0 then (cal (f_X11_its h a1 (iI 0)) fun v6 =>
lo1 (f_X11_as_k8 h a1 a2) 1000000 v6)
else (K2))


def f_X11_takes (h : Mem) (a1 : Int32) : Option Mem :=
ald h 73 305 (iI 2) fun v1 =>
cal (f_X11_held h (v1 + a1) (iI (-99999)) (iI 99999)) fun v2 =>
ast h 73 305 (iI 2) v2 fun h3 =>
some h3


def f_X11_flips (h : Mem) (a1 : Int32) : Option Mem :=
cal (f_X11_its h a1 (iI 2)) fun v1 =>
cal (f_X11_puts h a1 (iI 2) ((iI 1) - v1)) fun h2 =>
some h2

def f_X11_slantBits_k3 (h : Mem) : Int32 → Int32 → (Int32 → Int32 → Option Int32) → Option Int32 :=
fun (x1 : Int32) (x2 : Int32) (K3 : (Int32 → Int32 → Option Int32)) =>
cal (f_X11_many h) fun v4 =>
if v4 ≤ x2 then (some x1)
else (cal (f_X11_its h x2 (iI 2)) fun v5 =>
nm (x1 ||| (shlI v5 x2)) fun x6 =>
nm (x2 + iI 1) fun x7 =>
K3 x6 x7)

def f_X11_slantBits (h : Mem)  : Option Int32 :=
lo2 (f_X11_slantBits_k3 h) 1000000 (iI 0) (iI 0)


def f_X11_slants (h : Mem)  : Option Int32 :=
cal (f_X11_slantBits h) fun v1 =>
some v1


def f_X11_enters (h : Mem) (a1 : Int32) : Option Mem :=
ald h 73 305 (iI 1) fun v1 =>
ald h 73 305 (iI 0) fun v2 =>
nm (sI h 72 10 (iI 0)) fun h3 =>
nm (sI h3 72 11 (iI 0)) fun h4 =>
if v1 ≤ a1 then (if (v1 + v2) ≤ a1 then (if (((iI 2) * v1) + v2) ≤ a1 then (nm (sI h4 72 7 ((a1 - ((iI 2) * v1)) - v2)) fun h5 =>
nm (sI h5 72 8 (iI 0)) fun h6 =>
nm (sI h6 72 9 (iI 1)) fun h7 =>
some h7)
else (nm (sI h4 72 7 (v2 - (iI 1))) fun h8 =>
nm (sI h8 72 8 ((a1 - v1) - v2)) fun h9 =>
nm (sI h9 72 9 (iI 0)) fun h10 =>
some h10))
else (nm (sI h4 72 7 (a1 - v1)) fun h11 =>
nm (sI h11 72 8 (v1 - (iI 1))) fun h12 =>
nm (sI h12 72 9 (iI 3)) fun h13 =>
some h13))
else (nm (sI h4 72 7 (iI 0)) fun h14 =>
nm (sI h14 72 8 a1) fun h15 =>
nm (sI h15 72 9 (iI 2)) fun h16 =>
some h16)

def f_X11_goesOn_k2 (h : Mem) : Int32 → Option Mem :=
fun (x1 : Int32) =>
nm (sI h 72 7 ((gI h 72 7) + x1)) fun h3 =>
if ¬ (gI h3 72 9) = (iI 1) then (if ¬ (gI h3 72 9) = (iI 3) then (nm (sI h3 72 8 ((gI h3 72 8) + (iI 0))) fun h4 =>
some h4)
else (nm (sI h3 72 8 ((gI h3 72 8) + (iI (-1)))) fun h5 =>
some h5))
else (nm (sI h3 72 8 ((gI h3 72 8) + (iI 1))) fun h6 =>
some h6)

def f_X11_goesOn (h : Mem)  : Option Mem :=
join ((f_X11_goesOn_k2 h)) fun (K2 : Int32 → Option Mem) =>
if ¬ (gI h 72 9) = 0 then (if ¬ (gI h 72 9) = (iI 2) then (K2 (iI 0))
else (K2 (iI 1)))
else (K2 (iI (-1)))


def f_X11_isOut (h : Mem)  : Option Int32 :=
ald h 73 305 (iI 0) fun v1 =>
cal (f_X11_in h (gI h 72 7) (iI 0) (v1 - (iI 1))) fun v2 =>
join (rZ (iI 1) (some (iI 1))) fun (K3 : Option Int32) =>
if v2 = 0 then (K3)
else (ald h 73 305 (iI 1) fun v4 =>
cal (f_X11_in h (gI h 72 8) (iI 0) (v4 - (iI 1))) fun v5 =>
if ¬ v5 = 0 then (rZ (iI 0) (some (iI 0)))
else (K3))


def f_X11_windowThere (h : Mem)  : Option Int32 :=
ald h 73 305 (iI 1) fun v1 =>
ald h 73 305 (iI 0) fun v2 =>
if ¬ (gI h 72 9) = 0 then (if ¬ (gI h 72 9) = (iI 1) then (if ¬ (gI h 72 9) = (iI 2) then (some ((((iI 2) * v1) + v2) + (gI h 72 7)))
else (some ((v1 + v2) + (gI h 72 8))))
else (some (v1 + (gI h 72 7))))
else (some (gI h 72 8))


def f_X11_thrown (h : Mem) (a0 : Int32) (a1 : Int32) : Option Int32 :=
if ¬ a1 = 0 then (some ((iI 3) - a0))
else (some (a0 ^^^ (iI 1)))


def f_X11_turns (h : Mem) (a1 : Int32) : Option Mem :=
cal (f_X11_its h a1 (iI 0)) fun v1 =>
if ¬ v1 = (iI 5) then (if ¬ v1 = (iI 1) then (some h)
else (cal (f_X11_flips h a1) fun h2 =>
some h2))
else (cal (f_X11_its h a1 (iI 3)) fun v3 =>
cal (f_X11_puts h a1 (iI 3) (v3 + (iI 1))) fun h4 =>
cal (f_X11_its h4 a1 (iI 3)) fun v5 =>
cal (f_X11_its h4 a1 (iI 1)) fun v6 =>
nz (iI 3) <|
if ¬ v5 = ((iI 2) + (rmI v6 (iI 3))) then (some h4)
else (cal (f_X11_puts h4 a1 (iI 3) (iI 0)) fun h7 =>
cal (f_X11_flips h7 a1) fun h8 =>
some h8))

def f_X11_comesInto_k4 (h1 : Mem) (a1 : Int32) : Int32 → Option (Int32 × Mem) :=
fun (x3 : Int32) =>
cal (f_X11_puts h1 a1 (iI 4) x3) fun h5 =>
cal (f_X11_doesThrow h5 a1) fun v6 =>
join (fun (h7 : Mem) =>
cal (f_X11_doesStop h7 a1) fun v9 =>
rZ v9 (some (v9, h7))) fun (K8 : Mem → Option (Int32 × Mem)) =>
if v6 = 0 then (K8 h5)
else (cal (f_X11_its h5 a1 (iI 2)) fun v10 =>
cal (f_X11_thrown h5 (gI h5 72 9) v10) fun v11 =>
nm (sI h5 72 9 v11) fun h12 =>
nm (sI h12 72 11 ((gI h12 72 11) + (iI 1))) fun h13 =>
cal (f_X11_turns h13 a1) fun h14 =>
K8 h14)

def f_X11_comesInto (h : Mem) (a1 : Int32) : Option (Int32 × Mem) :=
nm (sI h 72 10 ((gI h 72 10) + (iI 1))) fun h1 =>
cal (f_X11_its h1 a1 (iI 4)) fun v2 =>
join ((f_X11_comesInto_k4 h1 a1)) fun (K4 : Int32 → Option (Int32 × Mem)) =>
if (iI 9999) ≤ v2 then (K4 (iI 9999))
else (cal (f_X11_its h1 a1 (iI 4)) fun v15 =>
K4 (v15 + (iI 1)))

def f_X11_goes_k19 (h5 : Mem) (x17 : Int32) (K14 : Int32 → Mem → Option (Int32 × Mem)) : Int32 → Option (Int32 × Mem) :=
fun (x18 : Int32) =>
rZ x18 <| nm (sI h5 72 15 x18) fun h20 =>
join (fun (x21 : Int32) =>
nm (sI h20 72 14 x21) fun h23 =>
cal2 (f_X11_comesInto h23 x17) fun v24 h25 =>
K14 v24 h25) fun (K22 : Int32 → Option (Int32 × Mem)) =>
if ¬ (gI h20 72 10) = (gI h20 72 13) then (K22 (gI h20 72 14))
else (K22 x17)

def f_X11_goes_k11 (K6 : Int32 → Mem → Option (Int32 × Mem)) (h5 : Mem) : Int32 → Option (Int32 × Mem) :=
fun (x10 : Int32) =>
join (fun (x12 : Int32) (h13 : Mem) =>
if ¬ x12 = 0 then (K6 x12 h13)
else (cal (f_X11_goesOn h13) fun h15 =>
K6 x12 h15)) fun (K14 : Int32 → Mem → Option (Int32 × Mem)) =>
if ¬ x10 = 0 then (K14 x10 h5)
else (ald h5 73 305 (iI 1) fun v16 =>
nm ((v16 * (gI h5 72 7)) + (gI h5 72 8)) fun x17 =>
join ((f_X11_goes_k19 h5 x17 K14)) fun (K19 : Int32 → Option (Int32 × Mem)) =>
join (K19 (iI 1)) fun (K26 : Option (Int32 × Mem)) =>
if ¬ (gI h5 72 15) = 0 then (K26)
else (if ¬ x17 = (gI h5 72 12) then (K19 (iI 0))
else (K26)))

def f_X11_goes_k6  : Int32 → Mem → (Int32 → Mem → Option (Int32 × Mem)) → Option (Int32 × Mem) :=
fun (x4 : Int32) (h5 : Mem) (K6 : (Int32 → Mem → Option (Int32 × Mem))) =>
join (if x4 = 0 then (cal (f_X11_windowThere h5) fun v8 =>
some (v8, h5))
else (some ((iI 100), h5))) fun (K7 : Option (Int32 × Mem)) =>
if ¬ x4 = 0 then (K7)
else (cal (f_X11_isOut h5) fun v9 =>
if ¬ v9 = 0 then (K7)
else (join ((f_X11_goes_k11 K6 h5)) fun (K11 : Int32 → Option (Int32 × Mem)) =>
if ¬ (gI h5 72 10) = (iI 5000) then (K11 (iI 0))
else (K11 (iI 1))))

def f_X11_goes (h : Mem) (a1 : Int32) : Option (Int32 × Mem) :=
cal (f_X11_enters h a1) fun h1 =>
rZ (iI 0) <| nm (sI h1 72 15 (iI 0)) fun h2 =>
nm (sI h2 72 14 (iI (-1))) fun h3 =>
lo2 f_X11_goes_k6 1000000 (iI 0) h3

def f_X11_bits_k3 (a0 : Int32) : Int32 → Int32 → (Int32 → Int32 → Option Int32) → Option Int32 :=
fun (x1 : Int32) (x2 : Int32) (K3 : (Int32 → Int32 → Option Int32)) =>
if (iI 25) ≤ x2 then (some x1)
else (nm (x1 + ((shrI a0 x2) &&& (iI 1))) fun x4 =>
nm (x2 + iI 1) fun x5 =>
K3 x4 x5)

def f_X11_bits (h : Mem) (a0 : Int32) : Option Int32 :=
lo2 (f_X11_bits_k3 a0) 1000000 (iI 0) (iI 0)


def f_X11_out (h : Mem) (a1 : Int32) (a2 : Int32) : Option (Int32 × Mem) :=
cal (f_X11_isWindow h a1) fun v1 =>
join (cal2 (f_X11_errs h (iI (-1000000001))) fun v3 h4 =>
some (v3, h4)) fun (K2 : Option (Int32 × Mem)) =>
if v1 = 0 then (K2)
else (cal (f_X11_in h a2 (iI 0) (iI 3)) fun v5 =>
if ¬ v5 = 0 then (cal (f_X11_moveAll h 73 305 75 305) fun h6 =>
cal (f_X11_slantBits h6) fun v7 =>
cal2 (f_X11_goes h6 a1) fun v8 h9 =>
cal (f_X11_slantBits h9) fun v10 =>
cal (f_X11_bits h9 (v7 ^^^ v10)) fun v11 =>
cal (f_X11_moveAll h9 75 305 73 305) fun h12 =>
if ¬ a2 = 0 then (if ¬ a2 = (iI 1) then (if ¬ a2 = (iI 2) then (some (v11, h12))
else (some ((gI h12 72 11), h12)))
else (some ((gI h12 72 10), h12)))
else (some (v8, h12)))
else (K2))


def f_X11_way (h : Mem) (a1 : Int32) (a2 : Int32) : Option (Int32 × Mem) :=
cal (f_X11_isWindow h a1) fun v1 =>
join (cal2 (f_X11_errs h (iI (-1000000001))) fun v3 h4 =>
some (v3, h4)) fun (K2 : Option (Int32 × Mem)) =>
if v1 = 0 then (K2)
else (if 0 ≤ a2 then (cal (f_X11_moveAll h 73 305 75 305) fun h5 =>
nm (sI h5 72 13 a2) fun h6 =>
cal2 (f_X11_goes h6 a1) fun v7 h8 =>
nm (sI h8 72 13 (iI (-1))) fun h9 =>
cal (f_X11_moveAll h9 75 305 73 305) fun h10 =>
join (cal2 (f_X11_errs h10 (iI (-1000000002))) fun v12 h13 =>
some (v12, h13)) fun (K11 : Option (Int32 × Mem)) =>
if v7 < 0 then (K11)
else (if 0 ≤ (gI h10 72 14) then (some ((gI h10 72 14), h10))
else (K11)))
else (K2))

def f_X11_comesBack_k7 (a1 : Int32) (a2 : Int32) : Mem → Option Mem :=
fun (h6 : Mem) =>
cal (f_X11_doesThrow h6 a1) fun v8 =>
join (fun (x9 : Int32) =>
nz (iI 4) <|
nm (sI h6 72 9 (rmI (x9 + (iI 2)) (iI 4))) fun h11 =>
some h11) fun (K10 : Int32 → Option Mem) =>
if v8 = 0 then (K10 a2)
else (cal (f_X11_its h6 a1 (iI 2)) fun v12 =>
cal (f_X11_thrown h6 a2 v12) fun v13 =>
K10 v13)

def f_X11_comesBack_k14 (v1 : Int32) (K7 : Mem → Option Mem) (h5 : Mem) (a1 : Int32) : Option Mem :=
if ¬ v1 = (iI 5) then (if ¬ v1 = (iI 1) then (K7 h5)
else (cal (f_X11_flips h5 a1) fun h15 =>
K7 h15))
else (cal (f_X11_its h5 a1 (iI 1)) fun v16 =>
nz (iI 3) <|
cal (f_X11_puts h5 a1 (iI 3) ((iI 1) + (rmI v16 (iI 3)))) fun h17 =>
cal (f_X11_flips h17 a1) fun h18 =>
K7 h18)

def f_X11_comesBack_k4 (h : Mem) (a1 : Int32) (a2 : Int32) (v1 : Int32) : Int32 → Option Mem :=
fun (x3 : Int32) =>
cal (f_X11_puts h a1 (iI 4) x3) fun h5 =>
join ((f_X11_comesBack_k7 a1 a2)) fun (K7 : Mem → Option Mem) =>
join ((f_X11_comesBack_k14 v1 K7 h5 a1)) fun (K14 : Option Mem) =>
if ¬ v1 = (iI 5) then (K14)
else (cal (f_X11_its h5 a1 (iI 3)) fun v19 =>
if v19 ≤ 0 then (K14)
else (cal (f_X11_its h5 a1 (iI 3)) fun v20 =>
cal (f_X11_puts h5 a1 (iI 3) (v20 - (iI 1))) fun h21 =>
K7 h21))

def f_X11_comesBack (h : Mem) (a1 : Int32) (a2 : Int32) : Option Mem :=
cal (f_X11_its h a1 (iI 0)) fun v1 =>
cal (f_X11_its h a1 (iI 4)) fun v2 =>
join ((f_X11_comesBack_k4 h a1 a2 v1)) fun (K4 : Int32 → Option Mem) =>
if v2 ≤ 0 then (K4 (iI 0))
else (cal (f_X11_its h a1 (iI 4)) fun v22 =>
K4 (v22 - (iI 1)))

def f_X11_undo_k7 (x4 : Int32) (h5 : Mem) : Option (Int32 × Mem) :=
if ¬ x4 = 0 then (cal (f_X11_windowThere h5) fun v8 =>
some (v8, h5))
else (cal (f_X11_moveAll h5 75 305 73 305) fun h9 =>
cal2 (f_X11_errs h9 (iI (-1000000003))) fun v10 h11 =>
some (v10, h11))

def f_X11_undo_k17 (K6 : Int32 → Mem → Option (Int32 × Mem)) (h5 : Mem) (x14 : Int32) : Int32 → Option (Int32 × Mem) :=
fun (x16 : Int32) =>
if x16 = 0 then (K6 x16 h5)
else (nm (sI h5 72 10 ((gI h5 72 10) + (iI 1))) fun h18 =>
nz (iI 4) <|
cal (f_X11_comesBack h18 x14 (rmI ((gI h18 72 9) + (iI 2)) (iI 4))) fun h19 =>
cal (f_X11_goesOn h19) fun h20 =>
K6 x16 h20)

def f_X11_undo_k6  : Int32 → Mem → (Int32 → Mem → Option (Int32 × Mem)) → Option (Int32 × Mem) :=
fun (x4 : Int32) (h5 : Mem) (K6 : (Int32 → Mem → Option (Int32 × Mem))) =>
join ((f_X11_undo_k7 x4 h5)) fun (K7 : Option (Int32 × Mem)) =>
if x4 = 0 then (K7)
else (cal (f_X11_isOut h5) fun v12 =>
if ¬ v12 = 0 then (K7)
else (ald h5 73 305 (iI 1) fun v13 =>
nm ((v13 * (gI h5 72 7)) + (gI h5 72 8)) fun x14 =>
cal (f_X11_doesStop h5 x14) fun v15 =>
join ((f_X11_undo_k17 K6 h5 x14)) fun (K17 : Int32 → Option (Int32 × Mem)) =>
join (K17 (iI 0)) fun (K21 : Option (Int32 × Mem)) =>
if ¬ v15 = 0 then (K21)
else (if (iI 5000) ≤ (gI h5 72 10) then (K21)
else (K17 (iI 1)))))

def f_X11_undo (h : Mem) (a1 : Int32) : Option (Int32 × Mem) :=
cal (f_X11_isWindow h a1) fun v1 =>
if ¬ v1 = 0 then (cal (f_X11_moveAll h 73 305 75 305) fun h2 =>
cal (f_X11_enters h2 a1) fun h3 =>
lo2 f_X11_undo_k6 1000000 (iI 1) h3)
else (cal2 (f_X11_errs h (iI (-1000000001))) fun v22 h23 =>
some (v22, h23))


def f_X11_byteAt (h : Mem) (a1 : Int32) : Option Int32 :=
if (gI h 72 18) ≤ a1 then (some (iI (-1)))
else (ald h 73 305 (((iI 205) + ((iI 50) * (gI h 72 16))) + a1) fun v1 =>
some v1)


def f_X11_isDigit (h : Mem) (a0 : Int32) : Option Int32 :=
cal (f_X11_in h a0 (iI 48) (iI 57)) fun v1 =>
rZ v1 (some v1)


def f_X11_fails (h : Mem)  : Option (Int32 × Mem) :=
rZ (iI 0) <| nm (sI h 72 23 (iI 0)) fun h1 =>
some ((iI 0), h1)

def f_X11_number_k4  : Int32 → Int32 → Mem → (Int32 → Int32 → Mem → Option (Int32 × Mem)) → Option (Int32 × Mem) :=
fun (x1 : Int32) (x2 : Int32) (h3 : Mem) (K4 : (Int32 → Int32 → Mem → Option (Int32 × Mem))) =>
if (iI 4) ≤ x2 then (some (x1, h3))
else (cal (f_X11_byteAt h3 (gI h3 72 17)) fun v5 =>
cal (f_X11_isDigit h3 v5) fun v6 =>
if v6 = 0 then (some (x1, h3))
else (cal (f_X11_byteAt h3 (gI h3 72 17)) fun v7 =>
nm ((((iI 10) * x1) + v7) - (iI 48)) fun x8 =>
nm (sI h3 72 17 ((gI h3 72 17) + (iI 1))) fun h9 =>
nm (x2 + iI 1) fun x10 =>
K4 x8 x10 h9))

def f_X11_number (h : Mem)  : Option (Int32 × Mem) :=
lo3 f_X11_number_k4 1000000 (iI 0) (iI 0) h

def f_X11_named_k13 (h : Mem) (x3 : Int32) (x7 : Int32) : Option (Int32 × Mem) :=
nm (sI h 72 17 ((gI h 72 17) + (iI 1))) fun h14 =>
if x3 = 0 then (if x7 = 0 then (some ((gI h14 72 22), h14))
else (some ((gI h14 72 21), h14)))
else (some ((gI h14 72 20), h14))

def f_X11_named_k12 (h : Mem) (x3 : Int32) (x7 : Int32) : Int32 → Option (Int32 × Mem) :=
fun (x11 : Int32) =>
join ((f_X11_named_k13 h x3 x7)) fun (K13 : Option (Int32 × Mem)) =>
if ¬ x3 = 0 then (K13)
else (if ¬ x7 = 0 then (K13)
else (if ¬ x11 = 0 then (K13)
else (cal2 (f_X11_fails h) fun v15 h16 =>
some (v15, h16))))

def f_X11_named_k8 (h : Mem) (x3 : Int32) (a1 : Int32) : Int32 → Option (Int32 × Mem) :=
fun (x7 : Int32) =>
join (fun (x9 : Int32) =>
join ((f_X11_named_k12 h x3 x7)) fun (K12 : Int32 → Option (Int32 × Mem)) =>
if ¬ a1 = x9 then (K12 (iI 0))
else (K12 (iI 1))) fun (K10 : Int32 → Option (Int32 × Mem)) =>
if ¬ (gI h 72 16) = 0 then (K10 (iI 116))
else (K10 (iI 109))

def f_X11_named_k4 (h : Mem) (a1 : Int32) : Int32 → Option (Int32 × Mem) :=
fun (x3 : Int32) =>
join (fun (x5 : Int32) =>
join ((f_X11_named_k8 h x3 a1)) fun (K8 : Int32 → Option (Int32 × Mem)) =>
if ¬ a1 = x5 then (K8 (iI 0))
else (K8 (iI 1))) fun (K6 : Int32 → Option (Int32 × Mem)) =>
if ¬ (gI h 72 16) = 0 then (K6 (iI 111))
else (K6 (iI 99))

def f_X11_named (h : Mem) (a1 : Int32) : Option (Int32 × Mem) :=
join (fun (x1 : Int32) =>
join ((f_X11_named_k4 h a1)) fun (K4 : Int32 → Option (Int32 × Mem)) =>
if ¬ a1 = x1 then (K4 (iI 0))
else (K4 (iI 1))) fun (K2 : Int32 → Option (Int32 × Mem)) =>
if ¬ (gI h 72 16) = 0 then (K2 (iI 105))
else (K2 (iI 114))

def b_X11_factor_k8 (v1 : Int32) : Int32 → Mem → Option (Int32 × Mem) :=
fun (x6 : Int32) (h7 : Mem) =>
nm (sI h7 72 19 ((gI h7 72 19) - (iI 1))) fun h9 =>
if ¬ v1 = (iI 33) then (if (gI h9 72 23) = 0 then (cal2 (f_X11_fails h9) fun v10 h11 =>
some (v10, h11))
else (cal (f_X11_byteAt h9 (gI h9 72 17)) fun v12 =>
if ¬ v12 = (iI 41) then (cal2 (f_X11_fails h9) fun v13 h14 =>
some (v13, h14))
else (nm (sI h9 72 17 ((gI h9 72 17) + (iI 1))) fun h15 =>
some (x6, h15))))
else (if ¬ x6 = 0 then (some ((iI 0), h9))
else (some ((iI 1), h9)))

def b_X11_factor_k3 (h : Mem) (v1 : Int32) (rec : Nat → Mem → Option (Int32 × Mem)) : Option (Int32 × Mem) :=
if ¬ (gI h 72 19) = (iI 5) then (nm (sI h 72 19 ((gI h 72 19) + (iI 1))) fun h4 =>
nm (sI h4 72 17 ((gI h4 72 17) + (iI 1))) fun h5 =>
join ((b_X11_factor_k8 v1)) fun (K8 : Int32 → Mem → Option (Int32 × Mem)) =>
if ¬ v1 = (iI 33) then (cal2 (rec 5 h5) fun v16 h17 =>
K8 v16 h17)
else (cal2 (rec 0 h5) fun v18 h19 =>
K8 v18 h19))
else (cal2 (f_X11_fails h) fun v20 h21 =>
some (v20, h21))

def b_X11_factor (rec : Nat → Mem → Option (Int32 × Mem))  (h : Mem) : Option (Int32 × Mem) :=
cal (f_X11_byteAt h (gI h 72 17)) fun v1 =>
cal (f_X11_isDigit h v1) fun v2 =>
if v2 = 0 then (join ((b_X11_factor_k3 h v1 rec)) fun (K3 : Option (Int32 × Mem)) =>
if v1 = (iI 33) then (K3)
else (if v1 = (iI 40) then (K3)
else (cal2 (f_X11_named h v1) fun v22 h23 =>
some (v22, h23))))
else (cal2 (f_X11_number h) fun v24 h25 =>
some (v24, h25))

def b_X11_product_k7 (h4 : Mem) (rec : Nat → Mem → Option (Int32 × Mem)) (K5 : Int32 → Mem → Option (Int32 × Mem)) (x3 : Int32) : Option (Int32 × Mem) :=
cal (f_X11_byteAt h4 (gI h4 72 17)) fun v8 =>
nm (sI h4 72 17 ((gI h4 72 17) + (iI 1))) fun h9 =>
cal2 (rec 0 h9) fun v10 h11 =>
join (fun (x12 : Int32) =>
K5 x12 h11) fun (K13 : Int32 → Option (Int32 × Mem)) =>
if ¬ v8 = (iI 42) then (if ¬ v10 = 0 then (if ¬ v8 = (iI 47) then (nz v10 <|
K13 (rmI x3 v10))
else (nz v10 <|
K13 (x3 / v10)))
else (K13 (iI 0)))
else (K13 (x3 * v10))

def b_X11_product_k5 (rec : Nat → Mem → Option (Int32 × Mem)) : Int32 → Mem → (Int32 → Mem → Option (Int32 × Mem)) → Option (Int32 × Mem) :=
fun (x3 : Int32) (h4 : Mem) (K5 : (Int32 → Mem → Option (Int32 × Mem))) =>
if (gI h4 72 23) = 0 then (some (x3, h4))
else (cal (f_X11_byteAt h4 (gI h4 72 17)) fun v6 =>
join ((b_X11_product_k7 h4 rec K5 x3)) fun (K7 : Option (Int32 × Mem)) =>
if v6 = (iI 42) then (K7)
else (cal (f_X11_byteAt h4 (gI h4 72 17)) fun v14 =>
if v14 = (iI 47) then (K7)
else (cal (f_X11_byteAt h4 (gI h4 72 17)) fun v15 =>
if ¬ v15 = (iI 37) then (some (x3, h4))
else (K7))))

def b_X11_product (rec : Nat → Mem → Option (Int32 × Mem))  (h : Mem) : Option (Int32 × Mem) :=
cal2 (rec 0 h) fun v1 h2 =>
lo2 (b_X11_product_k5 rec) 1000000 v1 h2

def b_X11_sum_k7 (h4 : Mem) (rec : Nat → Mem → Option (Int32 × Mem)) (K5 : Int32 → Mem → Option (Int32 × Mem)) (x3 : Int32) : Option (Int32 × Mem) :=
cal (f_X11_byteAt h4 (gI h4 72 17)) fun v8 =>
nm (sI h4 72 17 ((gI h4 72 17) + (iI 1))) fun h9 =>
cal2 (rec 1 h9) fun v10 h11 =>
join (fun (x12 : Int32) =>
K5 x12 h11) fun (K13 : Int32 → Option (Int32 × Mem)) =>
if ¬ v8 = (iI 43) then (K13 (x3 - v10))
else (K13 (x3 + v10))

def b_X11_sum_k5 (rec : Nat → Mem → Option (Int32 × Mem)) : Int32 → Mem → (Int32 → Mem → Option (Int32 × Mem)) → Option (Int32 × Mem) :=
fun (x3 : Int32) (h4 : Mem) (K5 : (Int32 → Mem → Option (Int32 × Mem))) =>
if (gI h4 72 23) = 0 then (some (x3, h4))
else (cal (f_X11_byteAt h4 (gI h4 72 17)) fun v6 =>
join ((b_X11_sum_k7 h4 rec K5 x3)) fun (K7 : Option (Int32 × Mem)) =>
if v6 = (iI 43) then (K7)
else (cal (f_X11_byteAt h4 (gI h4 72 17)) fun v14 =>
if ¬ v14 = (iI 45) then (some (x3, h4))
else (K7)))

def b_X11_sum (rec : Nat → Mem → Option (Int32 × Mem))  (h : Mem) : Option (Int32 × Mem) :=
cal2 (rec 1 h) fun v1 h2 =>
lo2 (b_X11_sum_k5 rec) 1000000 v1 h2

def b_X11_compared_k5 (h2 : Mem) (rec : Nat → Mem → Option (Int32 × Mem)) (x3 : Int32) (v1 : Int32) : Option (Int32 × Mem) :=
nm (sI h2 72 17 ((gI h2 72 17) + (iI 1))) fun h6 =>
cal2 (rec 2 h6) fun v7 h8 =>
join (fun (x9 : Int32) =>
if x9 = 0 then (some ((iI 0), h8))
else (some ((iI 1), h8))) fun (K10 : Int32 → Option (Int32 × Mem)) =>
if ¬ x3 = (iI 60) then (if ¬ x3 = (iI 61) then (if v1 ≤ v7 then (K10 (iI 0))
else (K10 (iI 1)))
else (if ¬ v1 = v7 then (K10 (iI 0))
else (K10 (iI 1))))
else (if v7 ≤ v1 then (K10 (iI 0))
else (K10 (iI 1)))

def b_X11_compared_k4 (h2 : Mem) (rec : Nat → Mem → Option (Int32 × Mem)) (v1 : Int32) : Int32 → Option (Int32 × Mem) :=
fun (x3 : Int32) =>
join ((b_X11_compared_k5 h2 rec x3 v1)) fun (K5 : Option (Int32 × Mem)) =>
if x3 = (iI 60) then (K5)
else (if x3 = (iI 61) then (K5)
else (if x3 = (iI 62) then (K5)
else (some (v1, h2))))

def b_X11_compared (rec : Nat → Mem → Option (Int32 × Mem))  (h : Mem) : Option (Int32 × Mem) :=
cal2 (rec 2 h) fun v1 h2 =>
join ((b_X11_compared_k4 h2 rec v1)) fun (K4 : Int32 → Option (Int32 × Mem)) =>
if (gI h2 72 23) = 0 then (K4 (iI (-1)))
else (cal (f_X11_byteAt h2 (gI h2 72 17)) fun v11 =>
K4 v11)

def b_X11_both_k5 (rec : Nat → Mem → Option (Int32 × Mem)) : Int32 → Mem → (Int32 → Mem → Option (Int32 × Mem)) → Option (Int32 × Mem) :=
fun (x3 : Int32) (h4 : Mem) (K5 : (Int32 → Mem → Option (Int32 × Mem))) =>
if (gI h4 72 23) = 0 then (some (x3, h4))
else (cal (f_X11_byteAt h4 (gI h4 72 17)) fun v6 =>
if ¬ v6 = (iI 38) then (some (x3, h4))
else (nm (sI h4 72 17 ((gI h4 72 17) + (iI 1))) fun h7 =>
cal2 (rec 3 h7) fun v8 h9 =>
join (fun (x10 : Int32) =>
K5 x10 h9) fun (K11 : Int32 → Option (Int32 × Mem)) =>
join (K11 (iI 0)) fun (K12 : Option (Int32 × Mem)) =>
if x3 = 0 then (K12)
else (if v8 = 0 then (K12)
else (K11 (iI 1)))))

def b_X11_both (rec : Nat → Mem → Option (Int32 × Mem))  (h : Mem) : Option (Int32 × Mem) :=
cal2 (rec 3 h) fun v1 h2 =>
lo2 (b_X11_both_k5 rec) 1000000 v1 h2

def b_X11_whole_k5 (rec : Nat → Mem → Option (Int32 × Mem)) : Int32 → Mem → (Int32 → Mem → Option (Int32 × Mem)) → Option (Int32 × Mem) :=
fun (x3 : Int32) (h4 : Mem) (K5 : (Int32 → Mem → Option (Int32 × Mem))) =>
if (gI h4 72 23) = 0 then (some (x3, h4))
else (cal (f_X11_byteAt h4 (gI h4 72 17)) fun v6 =>
if ¬ v6 = (iI 124) then (some (x3, h4))
else (nm (sI h4 72 17 ((gI h4 72 17) + (iI 1))) fun h7 =>
cal2 (rec 4 h7) fun v8 h9 =>
join (fun (x10 : Int32) =>
K5 x10 h9) fun (K11 : Int32 → Option (Int32 × Mem)) =>
join (K11 (iI 1)) fun (K12 : Option (Int32 × Mem)) =>
if ¬ x3 = 0 then (K12)
else (if v8 = 0 then (K11 (iI 0))
else (K12))))

def b_X11_whole (rec : Nat → Mem → Option (Int32 × Mem))  (h : Mem) : Option (Int32 × Mem) :=
cal2 (rec 4 h) fun v1 h2 =>
lo2 (b_X11_whole_k5 rec) 1000000 v1 h2

def g_WALK : Nat → Nat → Mem → Option (Int32 × Mem)
  | 0, _, _ => none
  | n + 1, k, h => match k with
    | 0 => b_X11_factor (g_WALK n)  h
    | 1 => b_X11_product (g_WALK n)  h
    | 2 => b_X11_sum (g_WALK n)  h
    | 3 => b_X11_compared (g_WALK n)  h
    | 4 => b_X11_both (g_WALK n)  h
    | 5 => b_X11_whole (g_WALK n)  h
    | _ => none


def f_X11_walks (h : Mem) (a1 : Int32) (a2 : Int32) (a3 : Int32) (a4 : Int32) : Option (Int32 × Mem) :=
nm (sI h 72 16 a1) fun h1 =>
nm (sI h1 72 17 (iI 0)) fun h2 =>
ald h2 73 305 ((iI 7) + a1) fun v3 =>
nm (sI h2 72 18 v3) fun h4 =>
nm (sI h4 72 19 (iI 0)) fun h5 =>
rZ (iI 1) <| nm (sI h5 72 23 (iI 1)) fun h6 =>
nm (sI h6 72 20 a2) fun h7 =>
nm (sI h7 72 21 a3) fun h8 =>
nm (sI h8 72 22 a4) fun h9 =>
cal2 (g_WALK 48 5 h9) fun v10 h11 =>
join (rZ (iI 0) <| nm (sI h11 72 23 (iI 0)) fun h13 =>
some (v10, h13)) fun (K12 : Option (Int32 × Mem)) =>
if (gI h11 72 23) = 0 then (K12)
else (if ¬ (gI h11 72 17) = (gI h11 72 18) then (K12)
else (rZ (iI 1) <| nm (sI h11 72 23 (iI 1)) fun h14 =>
some (v10, h14)))


def f_X11_lawOf (h : Mem) (a1 : Int32) (a2 : Int32) (a3 : Int32) (a4 : Int32) : Option (Int32 × Mem) :=
ald h 73 305 ((iI 7) + a1) fun v1 =>
if 0 ≤ v1 then (cal2 (f_X11_walks h a1 a2 a3 a4) fun v2 h3 =>
if ¬ a1 = 0 then (cal (f_X11_held h3 v2 (iI (-99)) (iI 99)) fun v4 =>
some (v4, h3))
else (cal (f_X11_held h3 v2 (iI 0) (iI 99)) fun v5 =>
some (v5, h3)))
else (if ¬ a1 = 0 then (some ((iI 0), h))
else (cal (f_X11_held h ((iI 5) + a4) (iI 0) (iI 99)) fun v6 =>
some (v6, h)))


def f_X11_law (h : Mem) (a1 : Int32) (a2 : Int32) (a3 : Int32) (a4 : Int32) : Option (Int32 × Mem) :=
cal (f_X11_in h a1 (iI 0) (iI 1)) fun v1 =>
if v1 = 0 then (cal2 (f_X11_errs h (iI (-1000000001))) fun v2 h3 =>
some (v2, h3))
else (cal2 (f_X11_lawOf h a1 a2 a3 a4) fun v4 h5 =>
some (v4, h5))

def f_X11_feed_k5 (a2 : Int32) (a1 : Int64) : Int32 → Mem → (Int32 → Mem → Option (Int32 × Mem)) → Option (Int32 × Mem) :=
fun (x3 : Int32) (h4 : Mem) (K5 : (Int32 → Mem → Option (Int32 × Mem))) =>
if a2 ≤ x3 then (ald h4 73 305 (iI 5) fun v6 =>
some (v6, h4))
else (ald h4 73 305 (iI 5) fun v7 =>
ast h4 73 305 ((iI 135) + v7) (Int64.toInt32 ((shrL a1 ((iI 8) * x3)) &&& (iL 255))) fun h8 =>
ald h8 73 305 (iI 5) fun v9 =>
ast h8 73 305 (iI 5) (v9 + (iI 1)) fun h10 =>
nm (x3 + iI 1) fun x11 =>
K5 x11 h10)

def f_X11_feed (h : Mem) (a1 : Int64) (a2 : Int32) : Option (Int32 × Mem) :=
cal (f_X11_in h a2 (iI 1) (iI 8)) fun v1 =>
if ¬ v1 = 0 then (ald h 73 305 (iI 5) fun v2 =>
if (v2 + a2) ≤ (iI 50) then (lo2 (f_X11_feed_k5 a2 a1) 1000000 (iI 0) h)
else (cal2 (f_X11_errs h (iI (-1000000004))) fun v12 h13 =>
some (v12, h13)))
else (cal2 (f_X11_errs h (iI (-1000000001))) fun v14 h15 =>
some (v14, h15))

def f_X11_text_k11 (h9 : Mem) : Int32 → Option (Int32 × Mem) :=
fun (x10 : Int32) =>
nm (gI h9 72 17) fun x12 =>
join (fun (h13 : Mem) =>
ast h13 73 305 (iI 5) (iI 0) fun h15 =>
if x10 = 0 then (some (((iI (-10)) - x12), h15))
else (some ((iI 1), h15))) fun (K14 : Mem → Option (Int32 × Mem)) =>
if ¬ x10 = 0 then (K14 h9)
else (cal (f_X11_moveAll h9 76 305 73 305) fun h16 =>
K14 h16)

def f_X11_text_k5 (a1 : Int32) : Int32 → Mem → (Int32 → Mem → Option (Int32 × Mem)) → Option (Int32 × Mem) :=
fun (x3 : Int32) (h4 : Mem) (K5 : (Int32 → Mem → Option (Int32 × Mem))) =>
if (iI 50) ≤ x3 then (ald h4 73 305 (iI 5) fun v6 =>
ast h4 73 305 ((iI 7) + a1) v6 fun h7 =>
cal2 (f_X11_walks h7 a1 (iI 1) (iI 1) (iI 1)) fun v8 h9 =>
join ((f_X11_text_k11 h9)) fun (K11 : Int32 → Option (Int32 × Mem)) =>
join (K11 (iI 0)) fun (K17 : Option (Int32 × Mem)) =>
if (gI h9 72 23) = 0 then (K17)
else (if ¬ v8 = v8 then (K17)
else (K11 (iI 1))))
else (ald h4 73 305 ((iI 135) + x3) fun v18 =>
ast h4 73 305 (((iI 205) + ((iI 50) * a1)) + x3) v18 fun h19 =>
nm (x3 + iI 1) fun x20 =>
K5 x20 h19)

def f_X11_text (h : Mem) (a1 : Int32) : Option (Int32 × Mem) :=
cal (f_X11_in h a1 (iI 0) (iI 1)) fun v1 =>
if ¬ v1 = 0 then (cal (f_X11_moveAll h 73 305 76 305) fun h2 =>
lo2 (f_X11_text_k5 a1) 1000000 (iI 0) h2)
else (cal2 (f_X11_errs h (iI (-1000000001))) fun v21 h22 =>
some (v21, h22))

def f_X11_standsAs_k3 (h : Mem) (q1 : Nat) (n1 : Nat) : Int32 → Int32 → (Int32 → Int32 → Option Int32) → Option Int32 :=
fun (x1 : Int32) (x2 : Int32) (K3 : (Int32 → Int32 → Option Int32)) =>
cal (f_X11_many h) fun v4 =>
if v4 ≤ x2 then (rZ x1 (some x1))
else (nm ((iI 10) + ((iI 5) * x2)) fun x5 =>
join (fun (x6 : Int32) =>
nm (x2 + iI 1) fun x8 =>
K3 x6 x8) fun (K7 : Int32 → Option Int32) =>
join (K7 (iI 0)) fun (K9 : Option Int32) =>
if x1 = 0 then (K9)
else (ald h 73 305 (x5 + (iI 2)) fun v10 =>
ald h q1 n1 (x5 + (iI 2)) fun v11 =>
if ¬ v10 = v11 then (K9)
else (ald h 73 305 (x5 + (iI 3)) fun v12 =>
ald h q1 n1 (x5 + (iI 3)) fun v13 =>
if ¬ v12 = v13 then (K9)
else (K7 (iI 1)))))

def f_X11_standsAs (h : Mem) (q1 : Nat) (n1 : Nat) : Option Int32 :=
lo2 (f_X11_standsAs_k3 h q1 n1) 1000000 (iI 1) (iI 0)

def f_X11_round_k7 (h5 : Mem) (x4 : Int32) (x3 : Int32) : Option (Int32 × Mem) :=
cal (f_X11_moveAll h5 75 305 73 305) fun h8 =>
if x4 = 0 then (cal2 (f_X11_errs h8 (iI (-1000000002))) fun v9 h10 =>
some (v9, h10))
else (some (x3, h8))

def f_X11_round_k6 (a1 : Int32) : Int32 → Int32 → Mem → (Int32 → Int32 → Mem → Option (Int32 × Mem)) → Option (Int32 × Mem) :=
fun (x3 : Int32) (x4 : Int32) (h5 : Mem) (K6 : (Int32 → Int32 → Mem → Option (Int32 × Mem))) =>
join ((f_X11_round_k7 h5 x4 x3)) fun (K7 : Option (Int32 × Mem)) =>
if (iI 400) ≤ x3 then (K7)
else (if ¬ x4 = 0 then (K7)
else (cal2 (f_X11_goes h5 a1) fun v11 h12 =>
nm (x3 + iI 1) fun x13 =>
join (fun (x14 : Int32) =>
K6 x13 x14 h12) fun (K15 : Int32 → Option (Int32 × Mem)) =>
join (K15 (iI 0)) fun (K16 : Option (Int32 × Mem)) =>
if v11 < 0 then (K16)
else (cal (f_X11_standsAs h12 75 305) fun v17 =>
if v17 = 0 then (K16)
else (K15 (iI 1)))))

def f_X11_round (h : Mem) (a1 : Int32) : Option (Int32 × Mem) :=
cal (f_X11_isWindow h a1) fun v1 =>
if ¬ v1 = 0 then (cal (f_X11_moveAll h 73 305 75 305) fun h2 =>
lo3 (f_X11_round_k6 a1) 1000000 (iI 0) (iI 0) h2)
else (cal2 (f_X11_errs h (iI (-1000000001))) fun v18 h19 =>
some (v18, h19))

def f_X11_saves_k3 (a1 : Int32) : Int32 → Mem → (Int32 → Mem → Option Mem) → Option Mem :=
fun (x1 : Int32) (h2 : Mem) (K3 : (Int32 → Mem → Option Mem)) =>
if (iI 305) ≤ x1 then (some h2)
else (ald h2 73 305 x1 fun v4 =>
ast h2 79 1220 (((iI 305) * a1) + x1) v4 fun h5 =>
nm (x1 + iI 1) fun x6 =>
K3 x6 h5)

def f_X11_saves (h : Mem) (a1 : Int32) : Option Mem :=
lo2 (f_X11_saves_k3 a1) 1000000 (iI 0) h

def f_X11_loads_k3 (a1 : Int32) : Int32 → Mem → (Int32 → Mem → Option Mem) → Option Mem :=
fun (x1 : Int32) (h2 : Mem) (K3 : (Int32 → Mem → Option Mem)) =>
if (iI 305) ≤ x1 then (some h2)
else (ald h2 79 1220 (((iI 305) * a1) + x1) fun v4 =>
ast h2 73 305 x1 v4 fun h5 =>
nm (x1 + iI 1) fun x6 =>
K3 x6 h5)

def f_X11_loads (h : Mem) (a1 : Int32) : Option Mem :=
lo2 (f_X11_loads_k3 a1) 1000000 (iI 0) h

def b_X11_bringsBack_k5 (a2 : Int32) (rec : Nat → Int32 → Int32 → Mem → Option (Int32 × Mem)) (a1 : Int32) : Int32 → Int32 → Mem → (Int32 → Int32 → Mem → Option (Int32 × Mem)) → Option (Int32 × Mem) :=
fun (x2 : Int32) (x3 : Int32) (h4 : Mem) (K5 : (Int32 → Int32 → Mem → Option (Int32 × Mem))) =>
cal (f_X11_windows h4) fun v6 =>
if v6 ≤ x3 then (rZ x2 (some (x2, h4)))
else (if ¬ x2 = 0 then (rZ x2 (some (x2, h4)))
else (ast h4 78 3 a2 x3 fun h7 =>
cal2 (f_X11_goes h7 x3) fun v8 h9 =>
join (fun (x10 : Int32) (h11 : Mem) =>
cal (f_X11_loads h11 a2) fun h13 =>
nm (x3 + iI 1) fun x14 =>
K5 x10 x14 h13) fun (K12 : Int32 → Mem → Option (Int32 × Mem)) =>
join (fun (h15 : Mem) =>
K12 (iI 0) h15) fun (K16 : Mem → Option (Int32 × Mem)) =>
if v8 < 0 then (K16 h9)
else (cal2 (rec 0 (a1 - (iI 1)) (a2 + (iI 1)) h9) fun v17 h18 =>
if v17 = 0 then (K16 h18)
else (K12 (iI 1) h18))))

def b_X11_bringsBack (rec : Nat → Int32 → Int32 → Mem → Option (Int32 × Mem)) (a1 : Int32) (a2 : Int32) (h : Mem) : Option (Int32 × Mem) :=
if ¬ a1 = 0 then (cal (f_X11_saves h a2) fun h1 =>
lo3 (b_X11_bringsBack_k5 a2 rec a1) 1000000 (iI 0) (iI 0) h1)
else (cal (f_X11_standsAs h 74 305) fun v19 =>
rZ v19 (some (v19, h)))

def g_BRING : Nat → Nat → Int32 → Int32 → Mem → Option (Int32 × Mem)
  | 0, _, _, _, _ => none
  | n + 1, k, b0, b1, h => match k with
    | 0 => b_X11_bringsBack (g_BRING n) b0 b1 h
    | _ => none

def f_X11_back_k13 (x9 : Int32) (a1 : Int32) : Mem → Option (Int32 × Mem) :=
fun (h12 : Mem) =>
join (cal2 (f_X11_errs h12 (iI (-1000000002))) fun v15 h16 =>
some (v15, h16)) fun (K14 : Option (Int32 × Mem)) =>
if x9 = (iI 4) then (K14)
else (if a1 < x9 then (if 0 ≤ a1 then (ald h12 78 3 a1 fun v17 =>
some (v17, h12))
else (some (x9, h12)))
else (K14))

def f_X11_back_k11 (a1 : Int32) : Int32 → Mem → (Int32 → Mem → Option (Int32 × Mem)) → Option (Int32 × Mem) :=
fun (x9 : Int32) (h10 : Mem) (K11 : (Int32 → Mem → Option (Int32 × Mem))) =>
join ((f_X11_back_k13 x9 a1)) fun (K13 : Mem → Option (Int32 × Mem)) =>
if (iI 4) ≤ x9 then (K13 h10)
else (cal2 (g_BRING 6 0 x9 (iI 0) h10) fun v18 h19 =>
if ¬ v18 = 0 then (K13 h19)
else (nm (x9 + iI 1) fun x20 =>
K11 x20 h19))

def f_X11_back (h : Mem) (a1 : Int32) : Option (Int32 × Mem) :=
cal (f_X11_in h a1 (iI (-1)) (iI 2)) fun v1 =>
if ¬ v1 = 0 then (join (cal2 (f_X11_errs h (iI (-1000000003))) fun v3 h4 =>
some (v3, h4)) fun (K2 : Option (Int32 × Mem)) =>
if (gI h 72 4) = 0 then (K2)
else (ald h 74 305 (iI 0) fun v5 =>
ald h 73 305 (iI 0) fun v6 =>
if ¬ v5 = v6 then (K2)
else (ald h 74 305 (iI 1) fun v7 =>
ald h 73 305 (iI 1) fun v8 =>
if v7 = v8 then (lo2 (f_X11_back_k11 a1) 1000000 (iI 0) h)
else (K2))))
else (cal2 (f_X11_errs h (iI (-1000000001))) fun v21 h22 =>
some (v21, h22))

def f_X11_lights_k5 (a1 : Int32) (a2 : Int32) : Mem → Option (Int32 × Mem) :=
fun (h4 : Mem) =>
nm (sI h4 72 12 a1) fun h6 =>
cal2 (f_X11_goes h6 a2) fun v7 h8 =>
nm (sI h8 72 12 (iI (-1))) fun h9 =>
join (fun (x10 : Int32) =>
cal (f_X11_moveAll h9 75 305 73 305) fun h12 =>
rZ x10 (some (x10, h12))) fun (K11 : Int32 → Option (Int32 × Mem)) =>
join (K11 (iI 0)) fun (K13 : Option (Int32 × Mem)) =>
if v7 < 0 then (K13)
else (if (gI h9 72 15) = 0 then (K13)
else (K11 (iI 1)))

def f_X11_lights (h : Mem) (a1 : Int32) (a2 : Int32) (a3 : Int32) (a4 : Int32) : Option (Int32 × Mem) :=
cal (f_X11_moveAll h 73 305 75 305) fun h1 =>
join (fun (h2 : Mem) =>
join ((f_X11_lights_k5 a1 a2)) fun (K5 : Mem → Option (Int32 × Mem)) =>
if a4 < 0 then (K5 h2)
else (cal (f_X11_flips h2 a4) fun h14 =>
K5 h14)) fun (K3 : Mem → Option (Int32 × Mem)) =>
if a3 < 0 then (K3 h1)
else (cal (f_X11_flips h1 a3) fun h15 =>
K3 h15)

def f_X11_timeBits_k3 (h : Mem) : Int64 → Int32 → (Int64 → Int32 → Option Int64) → Option Int64 :=
fun (y1 : Int64) (x2 : Int32) (K3 : (Int64 → Int32 → Option Int64)) =>
cal (f_X11_many h) fun v4 =>
if v4 ≤ x2 then (some y1)
else (cal (f_X11_its h x2 (iI 3)) fun v5 =>
nm (y1 ||| (shlL (Int32.toInt64 v5) ((iI 2) * x2))) fun y6 =>
nm (x2 + iI 1) fun x7 =>
K3 y6 x7)

def f_X11_timeBits (h : Mem)  : Option Int64 :=
lo2 (f_X11_timeBits_k3 h) 1000000 (iL 0) (iI 0)

def f_X11_meets_k8 (x5 : Int32) (h : Mem) (v1 : Int32) (w2 : Int64) : Option Mem :=
if ¬ x5 = 0 then (some h)
else (ast h 80 201 (gI h 72 31) v1 fun h9 =>
astL h9 81 201 (gI h9 72 31) w2 fun h10 =>
nm (sI h10 72 31 ((gI h10 72 31) + (iI 1))) fun h11 =>
some h11)

def f_X11_meets_k7 (h : Mem) (v1 : Int32) (w2 : Int64) : Int32 → Int32 → (Int32 → Int32 → Option Mem) → Option Mem :=
fun (x5 : Int32) (x6 : Int32) (K7 : (Int32 → Int32 → Option Mem)) =>
join ((f_X11_meets_k8 x5 h v1 w2)) fun (K8 : Option Mem) =>
if (gI h 72 31) ≤ x6 then (K8)
else (if ¬ x5 = 0 then (K8)
else (ald h 80 201 x6 fun v12 =>
join (fun (x13 : Int32) =>
nm (x6 + iI 1) fun x15 =>
K7 x13 x15) fun (K14 : Int32 → Option Mem) =>
join (K14 (iI 0)) fun (K16 : Option Mem) =>
if ¬ v12 = v1 then (K16)
else (aldL h 81 201 x6 fun w17 =>
if ¬ (lg_cmp w17 w2) = 0 then (K16)
else (K14 (iI 1)))))

def f_X11_meets (h : Mem)  : Option Mem :=
cal (f_X11_slantBits h) fun v1 =>
cal (f_X11_timeBits h) fun w2 =>
join (fun (x3 : Int32) =>
lo2 (f_X11_meets_k7 h v1 w2) 1000000 x3 (iI 0)) fun (K4 : Int32 → Option Mem) =>
if (gI h 72 31) ≤ (iI 200) then (K4 (iI 0))
else (K4 (iI 1))

def f_X11_standsAsMet_k3 (a1 : Int32) : Int32 → Mem → (Int32 → Mem → Option Mem) → Option Mem :=
fun (x1 : Int32) (h2 : Mem) (K3 : (Int32 → Mem → Option Mem)) =>
cal (f_X11_many h2) fun v4 =>
if v4 ≤ x1 then (some h2)
else (ald h2 80 201 a1 fun v5 =>
cal (f_X11_puts h2 x1 (iI 2) ((shrI v5 x1) &&& (iI 1))) fun h6 =>
aldL h6 81 201 a1 fun w7 =>
cal (f_X11_puts h6 x1 (iI 3) (Int64.toInt32 ((shrL w7 ((iI 2) * x1)) &&& (iL 3)))) fun h8 =>
nm (x1 + iI 1) fun x9 =>
K3 x9 h8)

def f_X11_standsAsMet (h : Mem) (a1 : Int32) : Option Mem :=
lo2 (f_X11_standsAsMet_k3 a1) 1000000 (iI 0) h

def f_X11_had_k7 (h5 : Mem) : Option (Int32 × Mem) :=
cal (f_X11_moveAll h5 75 305 73 305) fun h8 =>
if (gI h8 72 31) ≤ (iI 200) then (some ((gI h8 72 31), h8))
else (cal2 (f_X11_errs h8 (iI (-1000000004))) fun v9 h10 =>
some (v9, h10))

def f_X11_had_k13 (x4 : Int32) (K6 : Int32 → Mem → Option (Int32 × Mem)) : Int32 → Mem → (Int32 → Mem → Option (Int32 × Mem)) → Option (Int32 × Mem) :=
fun (x11 : Int32) (h12 : Mem) (K13 : (Int32 → Mem → Option (Int32 × Mem))) =>
cal (f_X11_windows h12) fun v14 =>
join (nm (x4 + iI 1) fun x16 =>
K6 x16 h12) fun (K15 : Option (Int32 × Mem)) =>
if v14 ≤ x11 then (K15)
else (if (iI 200) < (gI h12 72 31) then (K15)
else (cal (f_X11_standsAsMet h12 x4) fun h17 =>
cal2 (f_X11_goes h17 x11) fun v18 h19 =>
join (fun (h20 : Mem) =>
nm (x11 + iI 1) fun x22 =>
K13 x22 h20) fun (K21 : Mem → Option (Int32 × Mem)) =>
if v18 < 0 then (K21 h19)
else (cal (f_X11_meets h19) fun h23 =>
K21 h23)))

def f_X11_had_k6  : Int32 → Mem → (Int32 → Mem → Option (Int32 × Mem)) → Option (Int32 × Mem) :=
fun (x4 : Int32) (h5 : Mem) (K6 : (Int32 → Mem → Option (Int32 × Mem))) =>
join ((f_X11_had_k7 h5)) fun (K7 : Option (Int32 × Mem)) =>
if (gI h5 72 31) ≤ x4 then (K7)
else (if (iI 200) < (gI h5 72 31) then (K7)
else (lo2 (f_X11_had_k13 x4 K6) 1000000 (iI 0) h5))

def f_X11_had (h : Mem)  : Option (Int32 × Mem) :=
cal (f_X11_moveAll h 73 305 75 305) fun h1 =>
nm (sI h1 72 31 (iI 0)) fun h2 =>
cal (f_X11_meets h2) fun h3 =>
lo2 f_X11_had_k6 1000000 (iI 0) h3

def f_X11_findUnknown_k4 (a1 : Int32) : Int32 → Mem → (Int32 → Mem → Option Mem) → Option Mem :=
fun (x2 : Int32) (h3 : Mem) (K4 : (Int32 → Mem → Option Mem)) =>
cal (f_X11_many h3) fun v5 =>
if v5 ≤ x2 then (some h3)
else (if (iI 5) ≤ (gI h3 72 33) then (some h3)
else (join (fun (h6 : Mem) =>
nm (x2 + iI 1) fun x8 =>
K4 x8 h6) fun (K7 : Mem → Option Mem) =>
if ¬ ((shrI a1 x2) &&& (iI 1)) = (iI 1) then (K7 h3)
else (cal (f_X11_doesThrow h3 x2) fun v9 =>
if v9 = 0 then (K7 h3)
else (ast h3 82 5 (gI h3 72 33) x2 fun h10 =>
nm (sI h10 72 33 ((gI h10 72 33) + (iI 1))) fun h11 =>
K7 h11))))

def f_X11_findUnknown (h : Mem) (a1 : Int32) : Option Mem :=
nm (sI h 72 33 (iI 0)) fun h1 =>
lo2 (f_X11_findUnknown_k4 a1) 1000000 (iI 0) h1

def f_X11_slantsAre_k3 (a1 : Int32) : Int32 → Mem → (Int32 → Mem → Option Mem) → Option Mem :=
fun (x1 : Int32) (h2 : Mem) (K3 : (Int32 → Mem → Option Mem)) =>
if (gI h2 72 33) ≤ x1 then (some h2)
else (ald h2 82 5 x1 fun v4 =>
cal (f_X11_puts h2 v4 (iI 2) ((shrI a1 x1) &&& (iI 1))) fun h5 =>
nm (x1 + iI 1) fun x6 =>
K3 x6 h5)

def f_X11_slantsAre (h : Mem) (a1 : Int32) : Option Mem :=
lo2 (f_X11_slantsAre_k3 a1) 1000000 (iI 0) h


def f_X11_isMask (h : Mem) (a1 : Int32) : Option Int32 :=
cal (f_X11_many h) fun v1 =>
cal (f_X11_in h a1 (iI 0) ((shlI (iI 1) v1) - (iI 1))) fun v2 =>
rZ v2 (some v2)


def f_X11_isOutThere (h : Mem) (a1 : Int32) : Option Int32 :=
cal (f_X11_isWindow h a1) fun v1 =>
join (rZ (iI 1) (some (iI 1))) fun (K2 : Option Int32) =>
if ¬ v1 = 0 then (K2)
else (if ¬ a1 = (iI 100) then (rZ (iI 0) (some (iI 0)))
else (K2))

def f_X11_divisor_k3  : Int32 → Int32 → (Int32 → Int32 → Option Int32) → Option Int32 :=
fun (x1 : Int32) (x2 : Int32) (K3 : (Int32 → Int32 → Option Int32)) =>
if x2 = 0 then (some x1)
else (nz x2 <|
nm (rmI x1 x2) fun x4 =>
K3 x2 x4)

def f_X11_divisor (h : Mem) (a0 : Int32) (a1 : Int32) : Option Int32 :=
lo2 f_X11_divisor_k3 1000000 a0 a1

def f_X11_odds_k13 (a4 : Int32) (a2 : Int32) (a3 : Int32) : Int32 → Int32 → Mem → (Int32 → Int32 → Mem → Option (Int64 × Mem)) → Option (Int64 × Mem) :=
fun (x10 : Int32) (x11 : Int32) (h12 : Mem) (K13 : (Int32 → Int32 → Mem → Option (Int64 × Mem))) =>
if (shlI (iI 1) (gI h12 72 33)) ≤ x11 then (nm (shlI (iI 1) (gI h12 72 33)) fun x14 =>
cal (f_X11_divisor h12 x10 x14) fun v15 =>
if ¬ a4 = 0 then (nz v15 <|
some ((Int32.toInt64 (x14 / v15)), h12))
else (nz v15 <|
some ((Int32.toInt64 (x10 / v15)), h12)))
else (cal (f_X11_slantsAre h12 x11) fun h16 =>
cal2 (f_X11_goes h16 a2) fun v17 h18 =>
join (fun (x19 : Int32) =>
nm (x10 + x19) fun x21 =>
cal (f_X11_moveAll h18 75 305 73 305) fun h22 =>
nm (x11 + iI 1) fun x23 =>
K13 x21 x23 h22) fun (K20 : Int32 → Option (Int64 × Mem)) =>
if ¬ v17 = a3 then (K20 (iI 0))
else (K20 (iI 1)))

def f_X11_odds (h : Mem) (a1 : Int32) (a2 : Int32) (a3 : Int32) (a4 : Int32) : Option (Int64 × Mem) :=
cal (f_X11_isMask h a1) fun v1 =>
join (cal2 (f_X11_errs h (iI (-1000000001))) fun v3 h4 =>
some ((Int32.toInt64 v3), h4)) fun (K2 : Option (Int64 × Mem)) =>
if v1 = 0 then (K2)
else (cal (f_X11_isWindow h a2) fun v5 =>
if v5 = 0 then (K2)
else (cal (f_X11_isOutThere h a3) fun v6 =>
if v6 = 0 then (K2)
else (cal (f_X11_in h a4 (iI 0) (iI 1)) fun v7 =>
if ¬ v7 = 0 then (cal (f_X11_findUnknown h a1) fun h8 =>
cal (f_X11_moveAll h8 73 305 75 305) fun h9 =>
lo3 (f_X11_odds_k13 a4 a2 a3) 1000000 (iI 0) (iI 0) h9)
else (K2))))


def f_X11_isSheet (h : Mem) (a0 : Int32) : Option Int32 :=
cal (f_X11_in h a0 (iI 0) (iI 3)) fun v1 =>
rZ v1 (some v1)

def f_X11_areLetters_k6 (h : Mem) (a1 : Int32) : Int32 → Int32 → (Int32 → Int32 → Option Int32) → Option Int32 :=
fun (x4 : Int32) (x5 : Int32) (K6 : (Int32 → Int32 → Option Int32)) =>
ald h 84 4 a1 fun v7 =>
if v7 ≤ (x5 + (iI 1)) then (rZ x4 (some x4))
else (if x4 = 0 then (rZ x4 (some x4))
else (ald h 85 160 (((iI 40) * a1) + x5) fun v8 =>
cal (f_X11_isWindow h v8) fun v9 =>
join (fun (x10 : Int32) =>
nm (x5 + iI 2) fun x12 =>
K6 x10 x12) fun (K11 : Int32 → Option Int32) =>
join (K11 (iI 0)) fun (K13 : Option Int32) =>
if v9 = 0 then (K13)
else (ald h 85 160 ((((iI 40) * a1) + x5) + (iI 1)) fun v14 =>
cal (f_X11_isOutThere h v14) fun v15 =>
if v15 = 0 then (K13)
else (K11 (iI 1)))))

def f_X11_areLetters (h : Mem) (a1 : Int32) : Option Int32 :=
ald h 83 4 a1 fun v1 =>
join (fun (x2 : Int32) =>
lo2 (f_X11_areLetters_k6 h a1) 1000000 x2 (iI 0)) fun (K3 : Int32 → Option Int32) =>
if v1 = 0 then (K3 (iI 0))
else (K3 (iI 1))

def f_X11_cameSo_k4 (a1 : Int32) : Int32 → Int32 → Mem → (Int32 → Int32 → Mem → Option (Int32 × Mem)) → Option (Int32 × Mem) :=
fun (x1 : Int32) (x2 : Int32) (h3 : Mem) (K4 : (Int32 → Int32 → Mem → Option (Int32 × Mem))) =>
ald h3 84 4 a1 fun v5 =>
if v5 ≤ (x2 + (iI 1)) then (rZ x1 (some (x1, h3)))
else (if x1 = 0 then (rZ x1 (some (x1, h3)))
else (ald h3 85 160 (((iI 40) * a1) + x2) fun v6 =>
cal2 (f_X11_goes h3 v6) fun v7 h8 =>
ald h8 85 160 ((((iI 40) * a1) + x2) + (iI 1)) fun v9 =>
join (fun (x10 : Int32) =>
nm (x2 + iI 2) fun x12 =>
K4 x10 x12 h8) fun (K11 : Int32 → Option (Int32 × Mem)) =>
if ¬ v7 = v9 then (K11 (iI 0))
else (K11 (iI 1))))

def f_X11_cameSo (h : Mem) (a1 : Int32) : Option (Int32 × Mem) :=
lo3 (f_X11_cameSo_k4 a1) 1000000 (iI 1) (iI 0) h

def f_X11_findFits_k21 (K14 : Int32 → Mem → Option (Int32 × Mem)) (x17 : Int32) : Int32 → Mem → (Int32 → Mem → Option (Int32 × Mem)) → Option (Int32 × Mem) :=
fun (x19 : Int32) (h20 : Mem) (K21 : (Int32 → Mem → Option (Int32 × Mem))) =>
cal (f_X11_windows h20) fun v22 =>
if v22 ≤ x19 then (K14 x17 h20)
else (cal2 (f_X11_goes h20 x19) fun v23 h24 =>
ald h24 87 20 x19 fun v25 =>
join (fun (x26 : Int32) =>
ast h24 87 20 x19 (v25 ||| x26) fun h28 =>
cal (f_X11_moveAll h28 76 305 73 305) fun h29 =>
nm (x19 + iI 1) fun x30 =>
K21 x30 h29) fun (K27 : Int32 → Option (Int32 × Mem)) =>
if ¬ v23 = (iI 100) then (K27 (shlI (iI 1) v23))
else (K27 (iI 1048576)))

def f_X11_findFits_k8 (a1 : Int32) : Int32 → Int32 → Mem → (Int32 → Int32 → Mem → Option (Int32 × Mem)) → Option (Int32 × Mem) :=
fun (x5 : Int32) (x6 : Int32) (h7 : Mem) (K8 : (Int32 → Int32 → Mem → Option (Int32 × Mem))) =>
if (shlI (iI 1) (gI h7 72 33)) ≤ x6 then (some (x5, h7))
else (cal (f_X11_slantsAre h7 x6) fun h9 =>
cal2 (f_X11_cameSo h9 a1) fun v10 h11 =>
join (fun (x12 : Int32) (h13 : Mem) =>
cal (f_X11_moveAll h13 75 305 73 305) fun h15 =>
nm (x6 + iI 1) fun x16 =>
K8 x12 x16 h15) fun (K14 : Int32 → Mem → Option (Int32 × Mem)) =>
if v10 = 0 then (K14 x5 h11)
else (nm (x5 + iI 1) fun x17 =>
cal (f_X11_moveAll h11 73 305 76 305) fun h18 =>
lo2 (f_X11_findFits_k21 K14 x17) 1000000 (iI 0) h18))

def f_X11_findFits_k4 (a1 : Int32) : Int32 → Mem → (Int32 → Mem → Option (Int32 × Mem)) → Option (Int32 × Mem) :=
fun (x2 : Int32) (h3 : Mem) (K4 : (Int32 → Mem → Option (Int32 × Mem))) =>
if (iI 20) ≤ x2 then (lo3 (f_X11_findFits_k8 a1) 1000000 (iI 0) (iI 0) h3)
else (ast h3 87 20 x2 (iI 0) fun h31 =>
nm (x2 + iI 1) fun x32 =>
K4 x32 h31)

def f_X11_findFits (h : Mem) (a1 : Int32) : Option (Int32 × Mem) :=
cal (f_X11_moveAll h 73 305 75 305) fun h1 =>
lo2 (f_X11_findFits_k4 a1) 1000000 (iI 0) h1


def f_X11_fits (h : Mem) (a1 : Int32) (a2 : Int32) : Option (Int32 × Mem) :=
cal (f_X11_isMask h a1) fun v1 =>
join (cal2 (f_X11_errs h (iI (-1000000001))) fun v3 h4 =>
some (v3, h4)) fun (K2 : Option (Int32 × Mem)) =>
if v1 = 0 then (K2)
else (cal (f_X11_isSheet h a2) fun v5 =>
if ¬ v5 = 0 then (cal (f_X11_areLetters h a2) fun v6 =>
if ¬ v6 = 0 then (cal (f_X11_findUnknown h a1) fun h7 =>
cal2 (f_X11_findFits h7 a2) fun v8 h9 =>
some (v8, h9))
else (cal2 (f_X11_errs h (iI (-1000000002))) fun v10 h11 =>
some (v10, h11)))
else (K2))

def f_X11_tells_k13 (h10 : Mem) (a3 : Int32) : Int32 → Int32 → (Int32 → Int32 → Option (Int32 × Mem)) → Option (Int32 × Mem) :=
fun (x11 : Int32) (x12 : Int32) (K13 : (Int32 → Int32 → Option (Int32 × Mem))) =>
cal (f_X11_windows h10) fun v14 =>
if v14 ≤ x12 then (if ¬ a3 = 0 then (ald h10 87 20 x11 fun v15 =>
cal (f_X11_bits h10 v15) fun v16 =>
some (v16, h10))
else (some (x11, h10)))
else (ald h10 87 20 x12 fun v17 =>
cal (f_X11_bits h10 v17) fun v18 =>
ald h10 87 20 x11 fun v19 =>
cal (f_X11_bits h10 v19) fun v20 =>
join (fun (x21 : Int32) =>
nm (x12 + iI 1) fun x23 =>
K13 x21 x23) fun (K22 : Int32 → Option (Int32 × Mem)) =>
if v18 ≤ v20 then (K22 x11)
else (K22 x12))

def f_X11_tells (h : Mem) (a1 : Int32) (a2 : Int32) (a3 : Int32) : Option (Int32 × Mem) :=
cal (f_X11_isMask h a1) fun v1 =>
join (cal2 (f_X11_errs h (iI (-1000000001))) fun v3 h4 =>
some (v3, h4)) fun (K2 : Option (Int32 × Mem)) =>
if v1 = 0 then (K2)
else (cal (f_X11_isSheet h a2) fun v5 =>
if v5 = 0 then (K2)
else (cal (f_X11_in h a3 (iI 0) (iI 1)) fun v6 =>
if ¬ v6 = 0 then (cal (f_X11_areLetters h a2) fun v7 =>
if ¬ v7 = 0 then (cal (f_X11_findUnknown h a1) fun h8 =>
cal2 (f_X11_findFits h8 a2) fun v9 h10 =>
if ¬ v9 = 0 then (lo2 (f_X11_tells_k13 h10 a3) 1000000 (iI 0) (iI 1))
else (cal2 (f_X11_errs h10 (iI (-1000000002))) fun v24 h25 =>
some (v24, h25)))
else (cal2 (f_X11_errs h (iI (-1000000002))) fun v26 h27 =>
some (v26, h27)))
else (K2)))

def f_X11_longest_k14 (h10 : Mem) (x5 : Int32) (K7 : Int32 → Int32 → Int32 → Mem → Option (Int32 × Mem)) (x11 : Int32) (x4 : Int32) : Int32 → Option (Int32 × Mem) :=
fun (x13 : Int32) =>
join (fun (x15 : Int32) =>
cal (f_X11_moveAll h10 75 305 73 305) fun h17 =>
nm (x5 + iI 1) fun x18 =>
K7 x13 x15 x18 h17) fun (K16 : Int32 → Option (Int32 × Mem)) =>
if x11 = 0 then (K16 x4)
else (K16 (gI h10 72 10))

def f_X11_longest_k7 (a1 : Int32) : Int32 → Int32 → Int32 → Mem → (Int32 → Int32 → Int32 → Mem → Option (Int32 × Mem)) → Option (Int32 × Mem) :=
fun (x3 : Int32) (x4 : Int32) (x5 : Int32) (h6 : Mem) (K7 : (Int32 → Int32 → Int32 → Mem → Option (Int32 × Mem))) =>
cal (f_X11_windows h6) fun v8 =>
if v8 ≤ x5 then (if ¬ a1 = 0 then (some (x4, h6))
else (some (x3, h6)))
else (cal2 (f_X11_goes h6 x5) fun v9 h10 =>
join (fun (x11 : Int32) =>
join ((f_X11_longest_k14 h10 x5 K7 x11 x4)) fun (K14 : Int32 → Option (Int32 × Mem)) =>
if x11 = 0 then (K14 x3)
else (K14 x5)) fun (K12 : Int32 → Option (Int32 × Mem)) =>
join (K12 (iI 0)) fun (K19 : Option (Int32 × Mem)) =>
if v9 < 0 then (K19)
else (if (gI h10 72 10) ≤ x4 then (K19)
else (K12 (iI 1))))

def f_X11_longest (h : Mem) (a1 : Int32) : Option (Int32 × Mem) :=
cal (f_X11_in h a1 (iI 0) (iI 1)) fun v1 =>
if ¬ v1 = 0 then (cal (f_X11_moveAll h 73 305 75 305) fun h2 =>
lo4 (f_X11_longest_k7 a1) 1000000 (iI 0) (iI 0) (iI 0) h2)
else (cal2 (f_X11_errs h (iI (-1000000001))) fun v20 h21 =>
some (v20, h21))


def f_X11_drawn (h : Mem) (a1 : Int32) : Option (Int32 × Mem) :=
ald h 73 305 (iI 4) fun v1 =>
ast h 73 305 (iI 4) ((v1 * (iI 1103515245)) + (iI 12345)) fun h2 =>
ald h2 73 305 (iI 4) fun v3 =>
nz a1 <|
some ((rmI (ushI v3 (iI 8)) a1), h2)


def f_X11_seed (h : Mem) (a1 : Int32) : Option (Int32 × Mem) :=
ald h 73 305 (iI 4) fun v1 =>
ast h 73 305 (iI 4) a1 fun h2 =>
some (v1, h2)


def f_X11_ran (h : Mem) (a1 : Int32) : Option Mem :=
if (iI 40) ≤ (gI h 72 40) then (some h)
else (ast h 88 40 (gI h 72 40) a1 fun h1 =>
nm (sI h1 72 40 ((gI h1 72 40) + (iI 1))) fun h2 =>
some h2)


def b_X11_casts (rec : Nat → Int32 → Int32 → Mem → Option (Int32 × Mem)) (a1 : Int32) (a2 : Int32) (h : Mem) : Option (Int32 × Mem) :=
if ¬ a1 = 0 then (if ¬ a1 = (iI 2) then (cal (f_X11_above h a1) fun v1 =>
cal2 (rec 0 v1 a2 h) fun v2 h3 =>
some (v2, h3))
else (cal (f_X11_ran h (iI 30)) fun h4 =>
cal2 (rec 0 (iI 0) a2 h4) fun v5 h6 =>
some ((v5 * (iI 3)), h6)))
else (cal (f_X11_ran h (iI 10)) fun h7 =>
some ((a2 + (gI h7 72 42)), h7))

def g_CASTS : Nat → Nat → Int32 → Int32 → Mem → Option (Int32 × Mem)
  | 0, _, _, _, _ => none
  | n + 1, k, b0, b1, h => match k with
    | 0 => b_X11_casts (g_CASTS n) b0 b1 h
    | _ => none


def b_X11_lightsBy (rec : Nat → Int32 → Int32 → Mem → Option (Int32 × Mem)) (a1 : Int32) (a2 : Int32) (h : Mem) : Option (Int32 × Mem) :=
if ¬ a1 = 0 then (if ¬ a1 = (iI 3) then (if ¬ a1 = (iI 6) then (cal (f_X11_above h a1) fun v1 =>
cal2 (rec 0 v1 a2 h) fun v2 h3 =>
some (v2, h3))
else (cal (f_X11_ran h (iI 70)) fun h4 =>
cal2 (rec 0 (iI 2) a2 h4) fun v5 h6 =>
some ((v5 ^^^ (gI h6 72 42)), h6)))
else (cal (f_X11_ran h (iI 40)) fun h7 =>
cal2 (rec 0 (iI 0) a2 h7) fun v8 h9 =>
some ((-v8), h9)))
else (cal (f_X11_ran h (iI 12)) fun h10 =>
some ((a2 - (gI h10 72 43)), h10))

def g_LIGHT : Nat → Nat → Int32 → Int32 → Mem → Option (Int32 × Mem)
  | 0, _, _, _, _ => none
  | n + 1, k, b0, b1, h => match k with
    | 0 => b_X11_lightsBy (g_LIGHT n) b0 b1 h
    | _ => none


def b_X11_turnsBy (rec : Nat → Int32 → Int32 → Mem → Option (Int32 × Mem)) (a1 : Int32) (a2 : Int32) (h : Mem) : Option (Int32 × Mem) :=
if ¬ a1 = 0 then (if ¬ a1 = (iI 1) then (if ¬ a1 = (iI 4) then (cal (f_X11_above h a1) fun v1 =>
cal2 (rec 0 v1 a2 h) fun v2 h3 =>
some (v2, h3))
else (cal (f_X11_ran h (iI 50)) fun h4 =>
cal2 (rec 0 (iI 1) (a2 + (iI 1)) h4) fun v5 h6 =>
some (v5, h6)))
else (cal (f_X11_ran h (iI 20)) fun h7 =>
cal2 (rec 0 (iI 0) a2 h7) fun v8 h9 =>
cal2 (g_LIGHT 8 0 (gI h9 72 41) (iI 1) h9) fun v10 h11 =>
some ((v8 - v10), h11)))
else (cal (f_X11_ran h (iI 11)) fun h12 =>
cal2 (g_CASTS 8 0 (gI h12 72 41) a2 h12) fun v13 h14 =>
some ((v13 * (iI 2)), h14))

def g_TURNS : Nat → Nat → Int32 → Int32 → Mem → Option (Int32 × Mem)
  | 0, _, _, _, _ => none
  | n + 1, k, b0, b1, h => match k with
    | 0 => b_X11_turnsBy (g_TURNS n) b0 b1 h
    | _ => none


def b_X11_tellsBy (rec : Nat → Int32 → Int32 → Mem → Option (Int32 × Mem)) (a1 : Int32) (a2 : Int32) (h : Mem) : Option (Int32 × Mem) :=
if ¬ a1 = 0 then (if ¬ a1 = (iI 5) then (if ¬ a1 = (iI 6) then (cal (f_X11_above h a1) fun v1 =>
cal2 (rec 0 v1 a2 h) fun v2 h3 =>
some (v2, h3))
else (cal (f_X11_ran h (iI 71)) fun h4 =>
cal2 (g_TURNS 8 0 (gI h4 72 41) a2 h4) fun v5 h6 =>
cal2 (rec 0 (iI 2) a2 h6) fun v7 h8 =>
some ((v5 - v7), h8)))
else (cal (f_X11_ran h (iI 60)) fun h9 =>
cal2 (rec 0 (iI 1) a2 h9) fun v10 h11 =>
cal2 (g_CASTS 8 0 (gI h11 72 41) (iI 2) h11) fun v12 h13 =>
some ((v10 - v12), h13)))
else (cal (f_X11_ran h (iI 13)) fun h14 =>
cal2 (g_TURNS 8 0 (gI h14 72 41) a2 h14) fun v15 h16 =>
cal2 (g_LIGHT 8 0 (gI h16 72 41) a2 h16) fun v17 h18 =>
some ((v15 ^^^ v17), h18))

def g_TELLS : Nat → Nat → Int32 → Int32 → Mem → Option (Int32 × Mem)
  | 0, _, _, _, _ => none
  | n + 1, k, b0, b1, h => match k with
    | 0 => b_X11_tellsBy (g_TELLS n) b0 b1 h
    | _ => none


def f_X11_voice (h : Mem) (a1 : Int32) (a2 : Int32) (a3 : Int32) : Option (Int32 × Mem) :=
cal (f_X11_isSquare h a1) fun v1 =>
join (cal2 (f_X11_errs h (iI (-1000000001))) fun v3 h4 =>
some (v3, h4)) fun (K2 : Option (Int32 × Mem)) =>
if v1 = 0 then (K2)
else (cal (f_X11_in h a2 (iI 0) (iI 3)) fun v5 =>
if ¬ v5 = 0 then (nm (sI h 72 40 (iI 0)) fun h6 =>
cal (f_X11_its h6 a1 (iI 0)) fun v7 =>
nm (sI h6 72 41 v7) fun h8 =>
nm (sI h8 72 42 a1) fun h9 =>
cal (f_X11_its h9 a1 (iI 1)) fun v10 =>
nm (sI h9 72 43 v10) fun h11 =>
if a2 = iI 0 then (cal2 (g_CASTS 8 0 (gI h11 72 41) a3 h11) fun v12 h13 =>
some (v12, h13))
else if a2 = iI 1 then (cal2 (g_TURNS 8 0 (gI h11 72 41) a3 h11) fun v14 h15 =>
some (v14, h15))
else if a2 = iI 2 then (cal2 (g_LIGHT 8 0 (gI h11 72 41) a3 h11) fun v16 h17 =>
some (v16, h17))
else (cal2 (g_TELLS 8 0 (gI h11 72 41) a3 h11) fun v18 h19 =>
some (v18, h19)))
else (K2))


def f_X11_trace (h : Mem) (a1 : Int32) : Option (Int32 × Mem) :=
cal (f_X11_in h a1 (iI 0) ((gI h 72 40) - (iI 1))) fun v1 =>
if v1 = 0 then (cal2 (f_X11_errs h (iI (-1000000002))) fun v2 h3 =>
some (v2, h3))
else (ald h 88 40 a1 fun v4 =>
some (v4, h))


def f_X11_narrow (h : Mem) (a0 : Int32) (a1 : Int32) : Option Int32 :=
if ¬ a0 = (iI 8) then (if ¬ a0 = (iI 16) then (some a1)
else (some (n16I a1)))
else (some (n8I a1))

def f_X11_sheet_k14 (a1 : Int32) : Int32 → Mem → (Int32 → Mem → Option (Int32 × Mem)) → Option (Int32 × Mem) :=
fun (x12 : Int32) (h13 : Mem) (K14 : (Int32 → Mem → Option (Int32 × Mem))) =>
if (iI 40) ≤ x12 then (some ((iI 1), h13))
else (ast h13 85 160 (((iI 40) * a1) + x12) (iI 0) fun h15 =>
nm (x12 + iI 1) fun x16 =>
K14 x16 h15)

def f_X11_sheet_k7 (h : Mem) (a1 : Int32) (a2 : Int32) (a3 : Int32) : Option (Int32 × Mem) :=
ast h 83 4 a1 a2 fun h8 =>
join (fun (x9 : Int32) =>
ast h8 84 4 a1 x9 fun h11 =>
lo2 (f_X11_sheet_k14 a1) 1000000 (iI 0) h11) fun (K10 : Int32 → Option (Int32 × Mem)) =>
if ¬ a2 = 0 then (K10 a3)
else (K10 (iI 0))

def f_X11_sheet_k6 (h : Mem) (a1 : Int32) (a2 : Int32) (a3 : Int32) : Option (Int32 × Mem) :=
join ((f_X11_sheet_k7 h a1 a2 a3)) fun (K7 : Option (Int32 × Mem)) =>
if a2 = 0 then (K7)
else (if a3 ≤ (iI 40) then (K7)
else (cal2 (f_X11_errs h (iI (-1000000001))) fun v17 h18 =>
some (v17, h18)))

def f_X11_sheet_k5 (h : Mem) (a1 : Int32) (a2 : Int32) (a3 : Int32) : Option (Int32 × Mem) :=
join ((f_X11_sheet_k6 h a1 a2 a3)) fun (K6 : Option (Int32 × Mem)) =>
if a2 = 0 then (K6)
else (if 0 ≤ a3 then (K6)
else (cal2 (f_X11_errs h (iI (-1000000003))) fun v19 h20 =>
some (v19, h20)))

def f_X11_sheet (h : Mem) (a1 : Int32) (a2 : Int32) (a3 : Int32) : Option (Int32 × Mem) :=
cal (f_X11_isSheet h a1) fun v1 =>
join (cal2 (f_X11_errs h (iI (-1000000001))) fun v3 h4 =>
some (v3, h4)) fun (K2 : Option (Int32 × Mem)) =>
if v1 = 0 then (K2)
else (join ((f_X11_sheet_k5 h a1 a2 a3)) fun (K5 : Option (Int32 × Mem)) =>
if a2 = 0 then (K5)
else (if a2 = (iI 8) then (K5)
else (if a2 = (iI 16) then (K5)
else (if a2 = (iI 32) then (K5)
else (K2)))))


def f_X11_put (h : Mem) (a1 : Int32) (a2 : Int32) (a3 : Int32) : Option (Int32 × Mem) :=
cal (f_X11_isSheet h a1) fun v1 =>
if ¬ v1 = 0 then (ald h 83 4 a1 fun v2 =>
if ¬ v2 = 0 then (ald h 84 4 a1 fun v3 =>
cal (f_X11_in h a2 (iI 0) (v3 - (iI 1))) fun v4 =>
if ¬ v4 = 0 then (ald h 83 4 a1 fun v5 =>
cal (f_X11_narrow h v5 a3) fun v6 =>
ast h 85 160 (((iI 40) * a1) + a2) v6 fun h7 =>
some ((iI 1), h7))
else (cal2 (f_X11_errs h (iI (-1000000001))) fun v8 h9 =>
some (v8, h9)))
else (cal2 (f_X11_errs h (iI (-1000000002))) fun v10 h11 =>
some (v10, h11)))
else (cal2 (f_X11_errs h (iI (-1000000001))) fun v12 h13 =>
some (v12, h13))

def f_X11_move_k23 (a5 : Int32) (a3 : Int32) (a4 : Int32) : Int32 → Mem → (Int32 → Mem → Option (Int32 × Mem)) → Option (Int32 × Mem) :=
fun (x21 : Int32) (h22 : Mem) (K23 : (Int32 → Mem → Option (Int32 × Mem))) =>
if a5 ≤ x21 then (some (a5, h22))
else (ald h22 86 40 x21 fun v24 =>
ast h22 85 160 ((((iI 40) * a3) + a4) + x21) v24 fun h25 =>
nm (x21 + iI 1) fun x26 =>
K23 x26 h25)

def f_X11_move_k20 (a5 : Int32) (a3 : Int32) (a4 : Int32) (a1 : Int32) (a2 : Int32) : Int32 → Mem → (Int32 → Mem → Option (Int32 × Mem)) → Option (Int32 × Mem) :=
fun (x18 : Int32) (h19 : Mem) (K20 : (Int32 → Mem → Option (Int32 × Mem))) =>
if a5 ≤ x18 then (lo2 (f_X11_move_k23 a5 a3 a4) 1000000 (iI 0) h19)
else (ald h19 85 160 ((((iI 40) * a1) + a2) + x18) fun v27 =>
ast h19 86 40 x18 v27 fun h28 =>
nm (x18 + iI 1) fun x29 =>
K20 x29 h28)

def f_X11_move (h : Mem) (a1 : Int32) (a2 : Int32) (a3 : Int32) (a4 : Int32) (a5 : Int32) : Option (Int32 × Mem) :=
cal (f_X11_isSheet h a1) fun v1 =>
join (cal2 (f_X11_errs h (iI (-1000000001))) fun v3 h4 =>
some (v3, h4)) fun (K2 : Option (Int32 × Mem)) =>
if v1 = 0 then (K2)
else (cal (f_X11_isSheet h a3) fun v5 =>
if ¬ v5 = 0 then (ald h 83 4 a1 fun v6 =>
join (cal2 (f_X11_errs h (iI (-1000000002))) fun v8 h9 =>
some (v8, h9)) fun (K7 : Option (Int32 × Mem)) =>
if v6 = 0 then (K7)
else (ald h 83 4 a3 fun v10 =>
if ¬ v10 = 0 then (ald h 83 4 a1 fun v11 =>
ald h 83 4 a3 fun v12 =>
if v11 = v12 then (join (cal2 (f_X11_errs h (iI (-1000000001))) fun v14 h15 =>
some (v14, h15)) fun (K13 : Option (Int32 × Mem)) =>
if a5 < 0 then (K13)
else (if a2 < 0 then (K13)
else (if a4 < 0 then (K13)
else (ald h 84 4 a1 fun v16 =>
if (v16 - a5) < a2 then (K13)
else (ald h 84 4 a3 fun v17 =>
if a4 ≤ (v17 - a5) then (lo2 (f_X11_move_k20 a5 a3 a4 a1 a2) 1000000 (iI 0) h)
else (K13))))))
else (cal2 (f_X11_errs h (iI (-1000000005))) fun v30 h31 =>
some (v30, h31)))
else (K7)))
else (K2))

def f_X11_judge_k6 (h : Mem) (a1 : Int32) (x3 : Int32) : Option (Int32 × Mem) :=
ald h 84 4 a1 fun v7 =>
join (some (x3, h)) fun (K8 : Option (Int32 × Mem)) =>
if ¬ x3 = v7 then (K8)
else (cal (f_X11_many h) fun v9 =>
if ¬ x3 = v9 then (K8)
else (some ((iI (-1)), h)))

def f_X11_judge_k4 (h : Mem) (a1 : Int32) : Int32 → (Int32 → Option (Int32 × Mem)) → Option (Int32 × Mem) :=
fun (x3 : Int32) (K4 : (Int32 → Option (Int32 × Mem))) =>
ald h 84 4 a1 fun v5 =>
join ((f_X11_judge_k6 h a1 x3)) fun (K6 : Option (Int32 × Mem)) =>
if v5 ≤ x3 then (K6)
else (cal (f_X11_many h) fun v10 =>
if v10 ≤ x3 then (K6)
else (ald h 85 160 (((iI 40) * a1) + x3) fun v11 =>
cal (f_X11_its h x3 (iI 2)) fun v12 =>
if ¬ v11 = v12 then (K6)
else (nm (x3 + iI 1) fun x13 =>
K4 x13)))

def f_X11_judge (h : Mem) (a1 : Int32) : Option (Int32 × Mem) :=
cal (f_X11_isSheet h a1) fun v1 =>
if ¬ v1 = 0 then (ald h 83 4 a1 fun v2 =>
if ¬ v2 = 0 then (lo1 (f_X11_judge_k4 h a1) 1000000 (iI 0))
else (cal2 (f_X11_errs h (iI (-1000000002))) fun v14 h15 =>
some (v14, h15)))
else (cal2 (f_X11_errs h (iI (-1000000001))) fun v16 h17 =>
some (v16, h17))


def f_X11_image (h : Mem)  : Option (Int32 × Mem) :=
cal (f_X11_moveAll h 73 305 74 305) fun h1 =>
rZ (iI 1) <| nm (sI h1 72 4 (iI 1)) fun h2 =>
nm (sI h2 72 5 ((gI h2 72 5) + (iI 1))) fun h3 =>
some ((gI h3 72 5), h3)


def f_X11_restore (h : Mem)  : Option (Int32 × Mem) :=
if ¬ (gI h 72 4) = 0 then (cal (f_X11_moveAll h 74 305 73 305) fun h1 =>
ald h1 73 305 (iI 3) fun v2 =>
some (v2, h1))
else (cal2 (f_X11_errs h (iI (-1000000002))) fun v3 h4 =>
some (v3, h4))


def f_X11_tell (h : Mem) (a1 : Int32) : Option (Int32 × Mem) :=
ald h 73 305 (iI 6) fun v1 =>
if ¬ v1 = (iI 20) then (ald h 73 305 (iI 6) fun v2 =>
ast h 73 305 ((iI 185) + v2) a1 fun h3 =>
ald h3 73 305 (iI 6) fun v4 =>
ast h3 73 305 (iI 6) (v4 + (iI 1)) fun h5 =>
ald h5 73 305 (iI 6) fun v6 =>
some (v6, h5))
else (cal2 (f_X11_errs h (iI (-1000000004))) fun v7 h8 =>
some (v7, h8))

def f_X11_check_k12 (x4 : Int32) (K7 : Int32 → Int32 → Mem → Option (Int32 × Mem)) : Int32 → Mem → Option (Int32 × Mem) :=
fun (x10 : Int32) (h11 : Mem) =>
cal (f_X11_moveAll h11 75 305 73 305) fun h13 =>
join (fun (x14 : Int32) =>
nm (x4 + x14) fun x16 =>
K7 x16 x10 h13) fun (K15 : Int32 → Option (Int32 × Mem)) =>
if x10 = 0 then (K15 (iI 0))
else (K15 (iI 1))

def f_X11_check_k7 (v1 : Int32) : Int32 → Int32 → Mem → (Int32 → Int32 → Mem → Option (Int32 × Mem)) → Option (Int32 × Mem) :=
fun (x4 : Int32) (x5 : Int32) (h6 : Mem) (K7 : (Int32 → Int32 → Mem → Option (Int32 × Mem))) =>
join (if ¬ x4 = v1 then (some (((iI 1) + x4), h6))
else (some ((iI 0), h6))) fun (K8 : Option (Int32 × Mem)) =>
if v1 ≤ x4 then (K8)
else (if x5 = 0 then (K8)
else (cal (f_X11_isWindow h6 x4) fun v9 =>
join ((f_X11_check_k12 x4 K7)) fun (K12 : Int32 → Mem → Option (Int32 × Mem)) =>
join (fun (h17 : Mem) =>
K12 (iI 0) h17) fun (K18 : Mem → Option (Int32 × Mem)) =>
if v9 = 0 then (K18 h6)
else (cal2 (f_X11_goes h6 x4) fun v19 h20 =>
ald h20 73 305 ((iI 185) + x4) fun v21 =>
if ¬ v19 = v21 then (K18 h20)
else (K12 (iI 1) h20))))

def f_X11_check (h : Mem)  : Option (Int32 × Mem) :=
ald h 73 305 (iI 6) fun v1 =>
ast h 73 305 (iI 6) (iI 0) fun h2 =>
cal (f_X11_moveAll h2 73 305 75 305) fun h3 =>
lo3 (f_X11_check_k7 v1) 1000000 (iI 0) (iI 1) h3

def f_X11_mirrors_k3 (h : Mem) : Int32 → Int32 → (Int32 → Int32 → Option Int32) → Option Int32 :=
fun (x1 : Int32) (x2 : Int32) (K3 : (Int32 → Int32 → Option Int32)) =>
cal (f_X11_many h) fun v4 =>
if v4 ≤ x2 then (some x1)
else (cal (f_X11_doesThrow h x2) fun v5 =>
join (fun (x6 : Int32) =>
nm (x1 + x6) fun x8 =>
nm (x2 + iI 1) fun x9 =>
K3 x8 x9) fun (K7 : Int32 → Option Int32) =>
if v5 = 0 then (K7 (iI 0))
else (K7 (iI 1)))

def f_X11_mirrors (h : Mem)  : Option Int32 :=
lo2 (f_X11_mirrors_k3 h) 1000000 (iI 0) (iI 0)

def f_X11_litAll_k3 (h : Mem) : Int32 → Int32 → (Int32 → Int32 → Option Int32) → Option Int32 :=
fun (x1 : Int32) (x2 : Int32) (K3 : (Int32 → Int32 → Option Int32)) =>
cal (f_X11_many h) fun v4 =>
if v4 ≤ x2 then (some x1)
else (cal (f_X11_its h x2 (iI 4)) fun v5 =>
nm (x1 + v5) fun x6 =>
nm (x2 + iI 1) fun x7 =>
K3 x6 x7)

def f_X11_litAll (h : Mem)  : Option Int32 :=
lo2 (f_X11_litAll_k3 h) 1000000 (iI 0) (iI 0)


def f_X11_count (h : Mem) (a1 : Int32) : Option (Int32 × Mem) :=
if a1 = iI 0 then (ald h 73 305 (iI 0) fun v1 =>
some (v1, h))
else if a1 = iI 1 then (ald h 73 305 (iI 1) fun v2 =>
some (v2, h))
else if a1 = iI 2 then (cal (f_X11_windows h) fun v3 =>
some (v3, h))
else if a1 = iI 3 then (cal (f_X11_mirrors h) fun v4 =>
some (v4, h))
else if a1 = iI 4 then (cal (f_X11_litAll h) fun v5 =>
some (v5, h))
else if a1 = iI 5 then (ald h 73 305 (iI 2) fun v6 =>
some (v6, h))
else if a1 = iI 6 then (ald h 73 305 (iI 3) fun v7 =>
some (v7, h))
else if a1 = iI 7 then (ald h 73 305 (iI 5) fun v8 =>
some (v8, h))
else if a1 = iI 8 then (ald h 73 305 (iI 6) fun v9 =>
some (v9, h))
else if a1 = iI 9 then (some ((gI h 72 40), h))
else if a1 = iI 10 then (ald h 73 305 (iI 4) fun v10 =>
some (v10, h))
else (cal2 (f_X11_errs h (iI (-1000000001))) fun v11 h12 =>
some (v11, h12))


def f_X11_told (h : Mem) (a1 : Int32) : Option (Int32 × Mem) :=
cal (f_X11_in h a1 (iI 1) (iI 5)) fun v1 =>
if v1 = 0 then (cal2 (f_X11_errs h (iI (-1000000001))) fun v2 h3 =>
some (v2, h3))
else (ald h 77 6 a1 fun v4 =>
some (v4, h))


def f_X0_start (h : Mem) (q0 : Nat) (a1 : Int32) (a2 : Int32) (a3 : Int32) : Option Mem :=
nm (sI h q0 0 a1) fun h1 =>
nm (sI h1 q0 1 a2) fun h2 =>
nm (sI h2 q0 2 a3) fun h3 =>
some h3


def f_X0_bend (h : Mem) (q0 : Nat) (a1 : Int32) : Option Mem :=
if ¬ a1 = 0 then (nm (sI h q0 2 ((iI 3) - (gI h q0 2))) fun h1 =>
some h1)
else (nm (sI h q0 2 ((gI h q0 2) ^^^ (iI 1))) fun h2 =>
some h2)


def f_X0_goOn (h : Mem) (q0 : Nat) : Option Mem :=
if (gI h q0 2) = iI 0 then (nm (sI h q0 0 ((gI h q0 0) - (iI 1))) fun h1 =>
some h1)
else if (gI h q0 2) = iI 1 then (nm (sI h q0 1 ((gI h q0 1) + (iI 1))) fun h2 =>
some h2)
else if (gI h q0 2) = iI 2 then (nm (sI h q0 0 ((gI h q0 0) + (iI 1))) fun h3 =>
some h3)
else (nm (sI h q0 1 ((gI h q0 1) - (iI 1))) fun h4 =>
some h4)


def f_X0_isOutside (h : Mem) (q0 : Nat) (q1 : Nat) : Option Int32 :=
join (rZ (iI 1) (some (iI 1))) fun (K1 : Option Int32) =>
if (gI h q0 0) < 0 then (K1)
else (if (gI h q1 0) ≤ (gI h q0 0) then (K1)
else (if (gI h q0 1) < 0 then (K1)
else (if (gI h q0 1) < (gI h q1 1) then (rZ (iI 0) (some (iI 0)))
else (K1))))


def f_X0_windowHere (h : Mem) (q0 : Nat) (q1 : Nat) : Option Int32 :=
if 0 ≤ (gI h q0 0) then (if (gI h q0 1) < (gI h q1 1) then (if (gI h q0 0) < (gI h q1 0) then (some ((((iI 2) * (gI h q1 1)) + (gI h q1 0)) + (gI h q0 0)))
else (some (((gI h q1 1) + (gI h q1 0)) + (gI h q0 1))))
else (some ((gI h q1 1) + (gI h q0 0))))
else (some (gI h q0 1))


def f_X1_choices (h : Mem)  : Option Int32 :=
some (shlI (iI 1) (gI h 56 3))

def f_X2_note_k3 (h : Mem) : Option Mem :=
if (Int32.ofNat 201) ≤ (gI h 39 7) then (some h)
else (ast h 48 201 (gI h 39 7) (gI h 40 5) fun h4 =>
astL h4 49 201 (gI h4 39 7) (gL h4 40 6) fun h5 =>
nm (sI h5 39 7 ((gI h5 39 7) + (iI 1))) fun h6 =>
some h6)

def f_X2_note_k2 (h : Mem) : Int32 → (Int32 → Option Mem) → Option Mem :=
fun (x1 : Int32) (K2 : (Int32 → Option Mem)) =>
join ((f_X2_note_k3 h)) fun (K3 : Option Mem) =>
if (gI h 39 7) ≤ x1 then (K3)
else (if (Int32.ofNat 201) ≤ x1 then (K3)
else (ald h 48 201 x1 fun v7 =>
join (nm (x1 + iI 1) fun x9 =>
K2 x9) fun (K8 : Option Mem) =>
if ¬ v7 = (gI h 40 5) then (K8)
else (aldL h 49 201 x1 fun w10 =>
if ¬ (lg_cmp w10 (gL h 40 6)) = 0 then (K8)
else (some h))))

def f_X2_note (h : Mem)  : Option Mem :=
lo1 (f_X2_note_k2 h) 1000000 (iI 0)


def f_X3_above (h : Mem) (a0 : Int32) : Option Int32 :=
cal (f_X10_within h a0 (iI 0) ((Int32.ofNat 7) - (iI 1))) fun v1 =>
if v1 = 0 then (some (iI (-1)))
else (tld tabA 7 a0 fun v2 =>
some v2)

def f_X3_isOf_k3 (a1 : Int32) (h : Mem) : Int32 → Int32 → (Int32 → Int32 → Option Int32) → Option Int32 :=
fun (x1 : Int32) (x2 : Int32) (K3 : (Int32 → Int32 → Option Int32)) =>
if (iI 7) ≤ x2 then (rZ (iI 0) (some (iI 0)))
else (if x1 < 0 then (rZ (iI 0) (some (iI 0)))
else (if ¬ x1 = a1 then (cal (f_X3_above h x1) fun v4 =>
nm (x2 + iI 1) fun x5 =>
K3 v4 x5)
else (rZ (iI 1) (some (iI 1)))))

def f_X3_isOf (h : Mem) (a0 : Int32) (a1 : Int32) : Option Int32 :=
lo2 (f_X3_isOf_k3 a1 h) 1000000 a0 (iI 0)


def f_X3_throwsRays (h : Mem) (a0 : Int32) : Option Int32 :=
join (rZ (iI 1) (some (iI 1))) fun (K1 : Option Int32) =>
if a0 = (iI 1) then (K1)
else (if a0 = (iI 4) then (K1)
else (if ¬ a0 = (iI 5) then (rZ (iI 0) (some (iI 0)))
else (K1)))


def f_X3_stopsRays (h : Mem) (a0 : Int32) : Option Int32 :=
join (rZ (iI 1) (some (iI 1))) fun (K1 : Option Int32) =>
if a0 = (iI 3) then (K1)
else (if ¬ a0 = (iI 6) then (rZ (iI 0) (some (iI 0)))
else (K1))


def f_X3_squares (h : Mem) (q0 : Nat) : Option Int32 :=
some ((gI h q0 0) * (gI h q0 1))


def f_X3_windows (h : Mem) (q0 : Nat) : Option Int32 :=
some ((iI 2) * ((gI h q0 0) + (gI h q0 1)))


def f_X3_hasSquare (h : Mem) (q0 : Nat) (a1 : Int32) : Option Int32 :=
cal (f_X3_squares h q0) fun v1 =>
cal (f_X10_within h a1 (iI 0) (v1 - (iI 1))) fun v2 =>
rZ v2 (some v2)


def f_X3_hasWindow (h : Mem) (q0 : Nat) (a1 : Int32) : Option Int32 :=
cal (f_X3_windows h q0) fun v1 =>
cal (f_X10_within h a1 (iI 0) (v1 - (iI 1))) fun v2 =>
rZ v2 (some v2)


def f_X3_hasMask (h : Mem) (q0 : Nat) (a1 : Int32) : Option Int32 :=
cal (f_X3_squares h q0) fun v1 =>
cal (f_X10_within h a1 (iI 0) ((shlI (iI 1) v1) - (iI 1))) fun v2 =>
rZ v2 (some v2)


def f_X3_isSizedAs (h : Mem) (q0 : Nat) (q1 : Nat) : Option Int32 :=
join (rZ (iI 0) (some (iI 0))) fun (K1 : Option Int32) =>
if ¬ (gI h q0 0) = (gI h q1 0) then (K1)
else (if ¬ (gI h q0 1) = (gI h q1 1) then (K1)
else (rZ (iI 1) (some (iI 1))))


def f_X3_stand (h : Mem) (q0 : Nat) (a1 : Int32) (a2 : Int64) : Option Mem :=
nm (sI h q0 5 a1) fun h1 =>
nm (sL h1 q0 6 a2) fun h2 =>
some h2


def f_X3_standsAs (h : Mem) (q0 : Nat) (q1 : Nat) : Option Int32 :=
join (rZ (iI 0) (some (iI 0))) fun (K1 : Option Int32) =>
if ¬ (gI h q0 5) = (gI h q1 5) then (K1)
else (if ¬ (lg_cmp (gL h q0 6) (gL h q1 6)) = 0 then (K1)
else (rZ (iI 1) (some (iI 1))))


def f_X3_slantOf (h : Mem) (q0 : Nat) (a1 : Int32) : Option Int32 :=
some ((ushI (gI h q0 5) a1) &&& (iI 1))


def f_X3_timeOf (h : Mem) (q0 : Nat) (a1 : Int32) : Option Int32 :=
some (Int64.toInt32 ((ushL (gL h q0 6) ((iI 2) * a1)) &&& (iL 3)))


def f_X3_putTime (h : Mem) (q0 : Nat) (a1 : Int32) (a2 : Int32) : Option Mem :=
nm (sL h q0 6 (((gL h q0 6) &&& ((shlL (iL 3) ((iI 2) * a1)) ^^^ (iL (-1)))) ||| (shlL (Int32.toInt64 a2) ((iI 2) * a1)))) fun h1 =>
some h1


def f_X3_handCan (h : Mem) (q0 : Nat) (a1 : Int32) : Option Int32 :=
ald h (q0 + 1) 25 a1 fun v1 =>
join (rZ (iI 1) (some (iI 1))) fun (K2 : Option Int32) =>
if v1 = (iI 1) then (K2)
else (ald h (q0 + 1) 25 a1 fun v3 =>
if ¬ v3 = (iI 5) then (rZ (iI 0) (some (iI 0)))
else (K2))


def f_X3_flip (h : Mem) (q0 : Nat) (a1 : Int32) : Option Mem :=
nm (sI h q0 5 ((gI h q0 5) ^^^ (shlI (iI 1) a1))) fun h1 =>
some h1


def f_X3_slowness (h : Mem) (q0 : Nat) (a1 : Int32) : Option Int32 :=
ald h (q0 + 2) 25 a1 fun v1 =>
nz (iI 3) <|
some ((iI 2) + (rmI v1 (iI 3)))

def f_X3_turnByRay_k7 (h : Mem) (q0 : Nat) (a1 : Int32) (x4 : Int32) : Int32 → Option Mem :=
fun (x6 : Int32) =>
join (fun (x8 : Int32) =>
cal (f_X3_putTime h q0 a1 x8) fun h10 =>
if x6 = 0 then (some h10)
else (cal (f_X3_flip h10 q0 a1) fun h11 =>
some h11)) fun (K9 : Int32 → Option Mem) =>
if x6 = 0 then (K9 x4)
else (K9 (iI 0))

def f_X3_turnByRay (h : Mem) (q0 : Nat) (a1 : Int32) : Option Mem :=
ald h (q0 + 1) 25 a1 fun v1 =>
if ¬ v1 = (iI 1) then (ald h (q0 + 1) 25 a1 fun v2 =>
if ¬ v2 = (iI 5) then (some h)
else (cal (f_X3_timeOf h q0 a1) fun v3 =>
nm (v3 + (iI 1)) fun x4 =>
cal (f_X3_slowness h q0 a1) fun v5 =>
join ((f_X3_turnByRay_k7 h q0 a1 x4)) fun (K7 : Int32 → Option Mem) =>
if ¬ x4 = v5 then (K7 (iI 0))
else (K7 (iI 1))))
else (cal (f_X3_flip h q0 a1) fun h12 =>
some h12)


def f_X3_turnBack (h : Mem) (q0 : Nat) (a1 : Int32) : Option Mem :=
ald h (q0 + 1) 25 a1 fun v1 =>
if ¬ v1 = (iI 1) then (ald h (q0 + 1) 25 a1 fun v2 =>
if ¬ v2 = (iI 5) then (some h)
else (cal (f_X3_timeOf h q0 a1) fun v3 =>
join (fun (x4 : Int32) =>
cal (f_X3_putTime h q0 a1 x4) fun h6 =>
if ¬ v3 = 0 then (some h6)
else (cal (f_X3_flip h6 q0 a1) fun h7 =>
some h7)) fun (K5 : Int32 → Option Mem) =>
if ¬ v3 = 0 then (K5 (v3 - (iI 1)))
else (cal (f_X3_slowness h q0 a1) fun v8 =>
K5 (v8 - (iI 1)))))
else (cal (f_X3_flip h q0 a1) fun h9 =>
some h9)


def f_X3_lightUp (h : Mem) (q0 : Nat) (a1 : Int32) : Option Mem :=
ald h (q0 + 3) 25 a1 fun v1 =>
ast h (q0 + 3) 25 a1 (mnI (iI 9999) (v1 + (iI 1))) fun h2 =>
some h2


def f_X3_lightDown (h : Mem) (q0 : Nat) (a1 : Int32) : Option Mem :=
ald h (q0 + 3) 25 a1 fun v1 =>
ast h (q0 + 3) 25 a1 (mxI (iI 0) (v1 - (iI 1))) fun h2 =>
some h2

def f_X3_mirrors_k3 (h : Mem) (q0 : Nat) : Int32 → Int32 → (Int32 → Int32 → Option Int32) → Option Int32 :=
fun (x1 : Int32) (x2 : Int32) (K3 : (Int32 → Int32 → Option Int32)) =>
cal (f_X3_squares h q0) fun v4 =>
if v4 ≤ x2 then (some x1)
else (ald h (q0 + 1) 25 x2 fun v5 =>
cal (f_X3_throwsRays h v5) fun v6 =>
join (fun (x7 : Int32) =>
nm (x1 + x7) fun x9 =>
nm (x2 + iI 1) fun x10 =>
K3 x9 x10) fun (K8 : Int32 → Option Int32) =>
if v6 = 0 then (K8 (iI 0))
else (K8 (iI 1)))

def f_X3_mirrors (h : Mem) (q0 : Nat) : Option Int32 :=
lo2 (f_X3_mirrors_k3 h q0) 1000000 (iI 0) (iI 0)

def f_X3_litTogether_k3 (h : Mem) (q0 : Nat) : Int32 → Int32 → (Int32 → Int32 → Option Int32) → Option Int32 :=
fun (x1 : Int32) (x2 : Int32) (K3 : (Int32 → Int32 → Option Int32)) =>
cal (f_X3_squares h q0) fun v4 =>
if v4 ≤ x2 then (some x1)
else (ald h (q0 + 3) 25 x2 fun v5 =>
nm (x1 + v5) fun x6 =>
nm (x2 + iI 1) fun x7 =>
K3 x6 x7)

def f_X3_litTogether (h : Mem) (q0 : Nat) : Option Int32 :=
lo2 (f_X3_litTogether_k3 h q0) 1000000 (iI 0) (iI 0)


def f_X4_offer (h : Mem) (a1 : Int32) (a2 : Int32) (a3 : Int32) : Option Mem :=
join (nm (sI h 50 4 a1) fun h2 =>
nm (sI h2 50 5 a2) fun h3 =>
nm (sI h3 50 6 a3) fun h4 =>
some h4) fun (K1 : Option Mem) =>
if (gI h 50 4) = 0 then (K1)
else (if (gI h 50 6) ≤ a3 then (some h)
else (K1))


def f_X5_learn (h : Mem) (q0 : Nat) (q1 : Nat) (n1 : Nat) (a2 : Int32) : Option Mem :=
cal (f_X10_held h a2 (iI 0) (mnI (Int32.ofNat 50) (Int32.ofNat n1))) fun v1 =>
nm (sI h q0 2 v1) fun h2 =>
acp h2 q1 n1 (iI 0) (q0 + 1) 50 (iI 0) (gI h2 q0 2) fun h3 =>
some h3


def f_X5_copyFrom (h : Mem) (q0 : Nat) (q1 : Nat) : Option Mem :=
cal (f_X5_learn h q0 (q1 + 1) 50 (gI h q1 2)) fun h1 =>
some h1


def f_X5_withoutText (h : Mem) (q0 : Nat) (a1 : Int32) : Option Int32 :=
if ¬ (gI h q0 0) = 0 then (some (iI 0))
else (some ((iI 5) + a1))


def f_X5_joined (h : Mem) (a0 : Int32) (a1 : Int32) (a2 : Int32) : Option Int32 :=
if a0 = iI 38 then (join (some (iI 0)) fun (K1 : Option Int32) =>
if a1 = 0 then (K1)
else (if a2 = 0 then (K1)
else (some (iI 1))))
else if a0 = iI 42 then (some (a1 * a2))
else if a0 = iI 43 then (some (a1 + a2))
else if a0 = iI 45 then (some (a1 - a2))
else if a0 = iI 47 then (if ¬ a2 = 0 then (nz a2 <|
some (a1 / a2))
else (some (iI 0)))
else if a0 = iI 60 then (if a2 ≤ a1 then (some (iI 0))
else (some (iI 1)))
else if a0 = iI 61 then (if ¬ a1 = a2 then (some (iI 0))
else (some (iI 1)))
else if a0 = iI 62 then (if a1 ≤ a2 then (some (iI 0))
else (some (iI 1)))
else if a0 = iI 124 then (join (some (iI 1)) fun (K2 : Option Int32) =>
if ¬ a1 = 0 then (K2)
else (if a2 = 0 then (some (iI 0))
else (K2)))
else (if ¬ a2 = 0 then (nz a2 <|
some (rmI a1 a2))
else (some (iI 0)))


def f_X6_joinsAt (h : Mem) (a0 : Int32) (a1 : Int32) : Option Int32 :=
if a1 = iI 37 then (if ¬ a0 = (iI 4) then (rZ (iI 0) (some (iI 0)))
else (rZ (iI 1) (some (iI 1))))
else if a1 = iI 38 then (if ¬ a0 = (iI 1) then (rZ (iI 0) (some (iI 0)))
else (rZ (iI 1) (some (iI 1))))
else if a1 = iI 42 then (if ¬ a0 = (iI 4) then (rZ (iI 0) (some (iI 0)))
else (rZ (iI 1) (some (iI 1))))
else if a1 = iI 43 then (if ¬ a0 = (iI 3) then (rZ (iI 0) (some (iI 0)))
else (rZ (iI 1) (some (iI 1))))
else if a1 = iI 45 then (if ¬ a0 = (iI 3) then (rZ (iI 0) (some (iI 0)))
else (rZ (iI 1) (some (iI 1))))
else if a1 = iI 47 then (if ¬ a0 = (iI 4) then (rZ (iI 0) (some (iI 0)))
else (rZ (iI 1) (some (iI 1))))
else if a1 = iI 60 then (if ¬ a0 = (iI 2) then (rZ (iI 0) (some (iI 0)))
else (rZ (iI 1) (some (iI 1))))
else if a1 = iI 61 then (if ¬ a0 = (iI 2) then (rZ (iI 0) (some (iI 0)))
else (rZ (iI 1) (some (iI 1))))
else if a1 = iI 62 then (if ¬ a0 = (iI 2) then (rZ (iI 0) (some (iI 0)))
else (rZ (iI 1) (some (iI 1))))
else if a1 = iI 124 then (if ¬ a0 = 0 then (rZ (iI 0) (some (iI 0)))
else (rZ (iI 1) (some (iI 1))))
else (rZ (iI 0) (some (iI 0)))


def f_X6_isDigit (h : Mem) (a0 : Int32) : Option Int32 :=
join (rZ (iI 0) (some (iI 0))) fun (K1 : Option Int32) =>
if a0 < (iI 48) then (K1)
else (if (iI 57) < a0 then (K1)
else (rZ (iI 1) (some (iI 1))))


def f_X6_peek (h : Mem)  : Option Int32 :=
join (some (iI (-1))) fun (K1 : Option Int32) =>
if (gI h 34 4) < 0 then (K1)
else (if (gI h 34 3) ≤ (gI h 34 4) then (K1)
else (ald h 36 50 (gI h 34 4) fun v2 =>
some v2))


def f_X6_write (h : Mem) (a1 : Int32) : Option Mem :=
if (Int32.ofNat 50) ≤ (gI h 34 1) then (some h)
else (ast h 35 50 (gI h 34 1) a1 fun h1 =>
nm (sI h1 34 1 ((gI h1 34 1) + (iI 1))) fun h2 =>
some h2)


def f_X7_canHave (h : Mem) (a0 : Int32) : Option Int32 :=
join (rZ (iI 1) (some (iI 1))) fun (K1 : Option Int32) =>
if a0 = 0 then (K1)
else (if a0 = (iI 8) then (K1)
else (if a0 = (iI 16) then (K1)
else (if ¬ a0 = (iI 32) then (rZ (iI 0) (some (iI 0)))
else (K1))))


def f_X7_isMissing (h : Mem) (q0 : Nat) : Option Int32 :=
if ¬ (gI h q0 0) = 0 then (rZ (iI 0) (some (iI 0)))
else (rZ (iI 1) (some (iI 1)))


def f_X7_lose (h : Mem) (q0 : Nat) : Option Mem :=
nm (sI h q0 0 (iI 0)) fun h1 =>
nm (sI h1 q0 1 (iI 0)) fun h2 =>
some h2


def f_X7_write (h : Mem) (q0 : Nat) (a1 : Int32) (a2 : Int32) : Option Mem :=
if ¬ (gI h q0 0) = (iI 32) then (ast h (q0 + 1) 40 a1 (a2 &&& ((shlI (iI 1) (gI h q0 0)) - (iI 1))) fun h1 =>
some h1)
else (ast h (q0 + 1) 40 a1 a2 fun h2 =>
some h2)


def f_X7_hasPart (h : Mem) (q0 : Nat) (a1 : Int32) (a2 : Int32) : Option Int32 :=
join (rZ (iI 0) (some (iI 0))) fun (K1 : Option Int32) =>
if a2 < 0 then (K1)
else (cal (f_X10_within h a1 (iI 0) (gI h q0 1)) fun v2 =>
if v2 = 0 then (K1)
else (if ((gI h q0 1) - a1) < a2 then (K1)
else (rZ (iI 1) (some (iI 1)))))

def f_X8_bodyOf_k3 (a1 : Int32) (h : Mem) : Int32 → Int32 → (Int32 → Int32 → Option Int32) → Option Int32 :=
fun (x1 : Int32) (x2 : Int32) (K3 : (Int32 → Int32 → Option Int32)) =>
if (iI 7) ≤ x2 then (some (iI 0))
else (if x1 < 0 then (some (iI 0))
else (nm ((x1 * (iI 4)) + a1) fun x4 =>
cal (f_X10_within h x4 (iI 0) ((Int32.ofNat 28) - (iI 1))) fun v5 =>
join (cal (f_X3_above h x1) fun v7 =>
nm (x2 + iI 1) fun x8 =>
K3 v7 x8) fun (K6 : Option Int32) =>
if v5 = 0 then (K6)
else (tld tabB 28 x4 fun v9 =>
if v9 = 0 then (K6)
else (tld tabB 28 x4 fun v10 =>
some v10))))

def f_X8_bodyOf (h : Mem) (a0 : Int32) (a1 : Int32) : Option Int32 :=
lo2 (f_X8_bodyOf_k3 a1 h) 1000000 a0 (iI 0)


def f_X9_lawOf (h : Mem) (q0 : Nat) (a1 : Int32) : Option Nat :=
if ¬ a1 = 0 then (some (q0 + 8))
else (some (q0 + 5))

def f_X9_feedBytes_k3 (a2 : Int32) (q0 : Nat) (a1 : Int64) : Int32 → Mem → (Int32 → Mem → Option (Int32 × Mem)) → Option (Int32 × Mem) :=
fun (x1 : Int32) (h2 : Mem) (K3 : (Int32 → Mem → Option (Int32 × Mem))) =>
if a2 ≤ x1 then (rZ (iI 1) (some ((iI 1), h2)))
else (ast h2 (q0 + 11) 50 (gI h2 q0 4) (Int64.toInt32 ((ushL a1 ((iI 8) * x1)) &&& (iL 255))) fun h4 =>
nm (sI h4 q0 4 ((gI h4 q0 4) + (iI 1))) fun h5 =>
nm (x1 + iI 1) fun x6 =>
K3 x6 h5)

def f_X9_feedBytes (h : Mem) (q0 : Nat) (a1 : Int64) (a2 : Int32) : Option (Int32 × Mem) :=
if a2 ≤ ((iI 50) - (gI h q0 4)) then (lo2 (f_X9_feedBytes_k3 a2 q0 a1) 1000000 (iI 0) h)
else (rZ (iI 0) (some ((iI 0), h)))


def f_X9_addWaiting (h : Mem) (q0 : Nat) (a1 : Int32) : Option (Int32 × Mem) :=
if (gI h q0 6) < (iI 20) then (ast h (q0 + 12) 20 (gI h q0 6) a1 fun h1 =>
nm (sI h1 q0 6 ((gI h1 q0 6) + (iI 1))) fun h2 =>
rZ (iI 1) (some ((iI 1), h2)))
else (rZ (iI 0) (some ((iI 0), h)))


def f_X9_draw (h : Mem) (q0 : Nat) : Option (Int32 × Mem) :=
nm (sI h q0 9 (((gI h q0 9) * (iI 1103515245)) + (iI 12345))) fun h1 =>
some ((ushI (gI h1 q0 9) (iI 8)), h1)


def f_X9_earn (h : Mem) (q0 : Nat) (a1 : Int32) : Option Mem :=
cal (f_X10_held h ((gI h q0 7) + a1) (iI (-99999)) (iI 99999)) fun v1 =>
nm (sI h q0 7 v1) fun h2 =>
some h2


def f_J6_bitCount_0f7a4 (h : Mem) (a0 : Int32) : Option Int32 :=
nm (a0 - ((ushI a0 (iI 1)) &&& (iI 1431655765))) fun x1 =>
nm ((x1 &&& (iI 858993459)) + ((ushI x1 (iI 2)) &&& (iI 858993459))) fun x2 =>
nm ((x2 + (ushI x2 (iI 4))) &&& (iI 252645135)) fun x3 =>
nm (x3 + (ushI x3 (iI 8))) fun x4 =>
nm (x4 + (ushI x4 (iI 16))) fun x5 =>
some (x5 &&& (iI 63))

def f_J7_fill_53178_k4 (x1 : Int32) (q0 : Nat) (n0 : Nat) (a1 : Int32) : Int32 → Mem → (Int32 → Mem → Option Mem) → Option Mem :=
fun (x2 : Int32) (h3 : Mem) (K4 : (Int32 → Mem → Option Mem)) =>
if x1 ≤ x2 then (some h3)
else (ast h3 q0 n0 x2 a1 fun h5 =>
nm (x2 + iI 1) fun x6 =>
K4 x6 h5)

def f_J7_fill_53178 (h : Mem) (q0 : Nat) (n0 : Nat) (a1 : Int32) : Option Mem :=
nm (Int32.ofNat n0) fun x1 =>
lo2 (f_J7_fill_53178_k4 x1 q0 n0 a1) 1000000 (iI 0) h


def f_X10_fail (h : Mem) (a1 : Int32) : Option (Int32 × Mem) :=
cal (f_X10_within h a1 (iI 1) (iI 5)) fun v1 =>
join (fun (h2 : Mem) =>
some (((iI (-1000000000)) - a1), h2)) fun (K3 : Mem → Option (Int32 × Mem)) =>
if v1 = 0 then (K3 h)
else (ald h 1 6 a1 fun v4 =>
ast h 1 6 a1 (v4 + (iI 1)) fun h5 =>
K3 h5)


def f_X10_hasSheet (h : Mem) (a0 : Int32) : Option Int32 :=
cal (f_X10_within h a0 (iI 0) (iI 3)) fun v1 =>
rZ v1 (some v1)


def f_X11_costOf (h : Mem) (a1 : Int32) : Option (Int32 × Mem) :=
ald h 73 305 (iI 1) fun v1 =>
nz v1 <|
ald h 73 305 (iI 1) fun v2 =>
nz v2 <|
cal (f_X11_its h a1 (iI 1)) fun v3 =>
cal2 (f_X11_lawOf h (iI 0) (a1 / v1) (rmI a1 v2) v3) fun v4 h5 =>
some (v4, h5)


def f_X11_ofSquare (h : Mem) (a1 : Int32) (a2 : Int32) : Option (Int32 × Mem) :=
cal (f_X11_isSquare h a1) fun v1 =>
join (cal2 (f_X11_errs h (iI (-1000000001))) fun v3 h4 =>
some (v3, h4)) fun (K2 : Option (Int32 × Mem)) =>
if v1 = 0 then (K2)
else (cal (f_X11_in h a2 (iI 0) (iI 7)) fun v5 =>
if ¬ v5 = 0 then (if a2 = iI 5 then (cal (f_X11_canTurn h a1) fun v6 =>
if v6 = 0 then (some ((iI (-1)), h))
else (cal2 (f_X11_costOf h a1) fun v7 h8 =>
some (v7, h8)))
else if a2 = iI 6 then (cal (f_X11_doesThrow h a1) fun v9 =>
if v9 = 0 then (some ((iI 0), h))
else (some ((iI 1), h)))
else if a2 = iI 7 then (cal (f_X11_doesStop h a1) fun v10 =>
if v10 = 0 then (some ((iI 0), h))
else (some ((iI 1), h)))
else (cal (f_X11_its h a1 a2) fun v11 =>
some (v11, h)))
else (K2))


def f_X11_hands (h : Mem) (a1 : Int32) : Option Mem :=
cal2 (f_X11_costOf h a1) fun v1 h2 =>
cal (f_X11_takes h2 (-v1)) fun h3 =>
cal (f_X11_flips h3 a1) fun h4 =>
some h4


def f_X11_hand (h : Mem) (a1 : Int32) : Option (Int32 × Mem) :=
cal (f_X11_isSquare h a1) fun v1 =>
if ¬ v1 = 0 then (cal (f_X11_canTurn h a1) fun v2 =>
if ¬ v2 = 0 then (cal (f_X11_hands h a1) fun h3 =>
cal (f_X11_its h3 a1 (iI 2)) fun v4 =>
some (v4, h3))
else (cal2 (f_X11_errs h (iI (-1000000003))) fun v5 h6 =>
some (v5, h6)))
else (cal2 (f_X11_errs h (iI (-1000000001))) fun v7 h8 =>
some (v7, h8))


def f_X11_letIn (h : Mem) (a1 : Int32) : Option (Int32 × Mem) :=
cal2 (f_X11_goes h a1) fun v1 h2 =>
cal2 (f_X11_lawOf h2 (iI 1) a1 v1 (gI h2 72 11)) fun v3 h4 =>
cal (f_X11_takes h4 v3) fun h5 =>
some (v1, h5)


def f_X11_let (h : Mem) (a1 : Int32) : Option (Int32 × Mem) :=
cal (f_X11_isWindow h a1) fun v1 =>
if v1 = 0 then (cal2 (f_X11_errs h (iI (-1000000001))) fun v2 h3 =>
some (v2, h3))
else (cal2 (f_X11_letIn h a1) fun v4 h5 =>
some (v4, h5))

def f_X11_findHands_k26 (x18 : Int32) (K20 : Int32 → Mem → Option Mem) (x13 : Int32) : Int32 → Mem → Option Mem :=
fun (x24 : Int32) (h25 : Mem) =>
join (fun (h27 : Mem) =>
nm (x18 + iI 1) fun x29 =>
K20 x29 h27) fun (K28 : Mem → Option Mem) =>
if x24 = 0 then (K28 h25)
else (nm (sI h25 72 26 (iI 2)) fun h30 =>
nm (sI h30 72 27 (((iI 100) * x13) + x18)) fun h31 =>
cal2 (f_X11_costOf h31 x13) fun v32 h33 =>
cal2 (f_X11_costOf h33 x18) fun v34 h35 =>
nm (sI h35 72 28 (v32 + v34)) fun h36 =>
K28 h36)

def f_X11_findHands_k20 (x13 : Int32) (K15 : Int32 → Mem → Option Mem) (a1 : Int32) (a2 : Int32) : Int32 → Mem → (Int32 → Mem → Option Mem) → Option Mem :=
fun (x18 : Int32) (h19 : Mem) (K20 : (Int32 → Mem → Option Mem)) =>
cal (f_X11_many h19) fun v21 =>
if v21 ≤ x18 then (nm (x13 + iI 1) fun x22 =>
K15 x22 h19)
else (cal (f_X11_canTurn h19 x13) fun v23 =>
join ((f_X11_findHands_k26 x18 K20 x13)) fun (K26 : Int32 → Mem → Option Mem) =>
join (fun (h37 : Mem) =>
K26 (iI 0) h37) fun (K38 : Mem → Option Mem) =>
if v23 = 0 then (K38 h19)
else (cal (f_X11_canTurn h19 x18) fun v39 =>
if v39 = 0 then (K38 h19)
else (join (fun (h40 : Mem) =>
cal2 (f_X11_lights h40 a1 a2 x13 x18) fun v42 h43 =>
if v42 = 0 then (K38 h43)
else (K26 (iI 1) h43)) fun (K41 : Mem → Option Mem) =>
if (gI h19 72 26) < 0 then (K41 h19)
else (cal2 (f_X11_costOf h19 x13) fun v44 h45 =>
cal2 (f_X11_costOf h45 x18) fun v46 h47 =>
if (gI h47 72 28) ≤ (v44 + v46) then (K38 h47)
else (K41 h47)))))

def f_X11_findHands_k15 (a1 : Int32) (a2 : Int32) : Int32 → Mem → (Int32 → Mem → Option Mem) → Option Mem :=
fun (x13 : Int32) (h14 : Mem) (K15 : (Int32 → Mem → Option Mem)) =>
cal (f_X11_many h14) fun v16 =>
if v16 ≤ x13 then (some h14)
else (nm (x13 + (iI 1)) fun x17 =>
lo2 (f_X11_findHands_k20 x13 K15 a1 a2) 1000000 x17 h14)

def f_X11_findHands_k51 (x8 : Int32) (K10 : Int32 → Mem → Option Mem) : Int32 → Mem → Option Mem :=
fun (x49 : Int32) (h50 : Mem) =>
join (fun (h52 : Mem) =>
nm (x8 + iI 1) fun x54 =>
K10 x54 h52) fun (K53 : Mem → Option Mem) =>
if x49 = 0 then (K53 h50)
else (nm (sI h50 72 26 (iI 1)) fun h55 =>
nm (sI h55 72 27 ((iI 101) * x8)) fun h56 =>
cal2 (f_X11_costOf h56 x8) fun v57 h58 =>
nm (sI h58 72 28 v57) fun h59 =>
K53 h59)

def f_X11_findHands_k10 (a1 : Int32) (a2 : Int32) : Int32 → Mem → (Int32 → Mem → Option Mem) → Option Mem :=
fun (x8 : Int32) (h9 : Mem) (K10 : (Int32 → Mem → Option Mem)) =>
cal (f_X11_many h9) fun v11 =>
join (if (gI h9 72 26) < 0 then (lo2 (f_X11_findHands_k15 a1 a2) 1000000 (iI 0) h9)
else (some h9)) fun (K12 : Option Mem) =>
if v11 ≤ x8 then (K12)
else (if (gI h9 72 26) = 0 then (K12)
else (cal (f_X11_canTurn h9 x8) fun v48 =>
join ((f_X11_findHands_k51 x8 K10)) fun (K51 : Int32 → Mem → Option Mem) =>
join (fun (h60 : Mem) =>
K51 (iI 0) h60) fun (K61 : Mem → Option Mem) =>
if v48 = 0 then (K61 h9)
else (join (fun (h62 : Mem) =>
cal2 (f_X11_lights h62 a1 a2 x8 (iI (-1))) fun v64 h65 =>
if v64 = 0 then (K61 h65)
else (K51 (iI 1) h65)) fun (K63 : Mem → Option Mem) =>
if (gI h9 72 26) < 0 then (K63 h9)
else (cal2 (f_X11_costOf h9 x8) fun v66 h67 =>
if (gI h67 72 28) ≤ v66 then (K61 h67)
else (K63 h67)))))

def f_X11_findHands (h : Mem) (a1 : Int32) (a2 : Int32) : Option Mem :=
cal2 (f_X11_lights h a1 a2 (iI (-1)) (iI (-1))) fun v1 h2 =>
join (fun (x3 : Int32) =>
nm (sI h2 72 26 x3) fun h5 =>
nm (sI h5 72 27 (iI (-1))) fun h6 =>
nm (sI h6 72 28 (iI 0)) fun h7 =>
lo2 (f_X11_findHands_k10 a1 a2) 1000000 (iI 0) h7) fun (K4 : Int32 → Option Mem) =>
if v1 = 0 then (K4 (iI (-1)))
else (K4 (iI 0))


def f_X11_throne (h : Mem) (a1 : Int32) (a2 : Int32) (a3 : Int32) : Option (Int32 × Mem) :=
cal (f_X11_isSquare h a1) fun v1 =>
join (cal2 (f_X11_errs h (iI (-1000000001))) fun v3 h4 =>
some (v3, h4)) fun (K2 : Option (Int32 × Mem)) =>
if v1 = 0 then (K2)
else (cal (f_X11_isWindow h a2) fun v5 =>
if v5 = 0 then (K2)
else (cal (f_X11_in h a3 (iI 0) (iI 2)) fun v6 =>
if ¬ v6 = 0 then (cal (f_X11_findHands h a1 a2) fun h7 =>
if 0 ≤ (gI h7 72 26) then (if ¬ a3 = 0 then (if ¬ a3 = (iI 1) then (some ((gI h7 72 28), h7))
else (some ((gI h7 72 27), h7)))
else (some ((gI h7 72 26), h7)))
else (cal2 (f_X11_errs h7 (iI (-1000000002))) fun v8 h9 =>
some (v8, h9)))
else (K2)))

def f_X11_days_k15 (v11 : Int32) (x3 : Int32) (K5 : Int32 → Mem → Option (Int32 × Mem)) : Mem → Option (Int32 × Mem) :=
fun (h14 : Mem) =>
cal2 (f_X11_letIn h14 v11) fun v16 h17 =>
ald h17 73 305 (iI 3) fun v18 =>
join (fun (x19 : Int32) =>
ast h17 73 305 (iI 3) (v18 + x19) fun h21 =>
nm (x3 + iI 1) fun x22 =>
K5 x22 h21) fun (K20 : Int32 → Option (Int32 × Mem)) =>
if 0 ≤ v16 then (K20 (iI 1))
else (K20 (iI 0))

def f_X11_days_k5 (a1 : Int32) : Int32 → Mem → (Int32 → Mem → Option (Int32 × Mem)) → Option (Int32 × Mem) :=
fun (x3 : Int32) (h4 : Mem) (K5 : (Int32 → Mem → Option (Int32 × Mem))) =>
if a1 ≤ x3 then (ald h4 73 305 (iI 2) fun v6 =>
some (v6, h4))
else (cal (f_X11_many h4) fun v7 =>
cal2 (f_X11_drawn h4 v7) fun v8 h9 =>
cal (f_X11_windows h9) fun v10 =>
cal2 (f_X11_drawn h9 v10) fun v11 h12 =>
cal (f_X11_canTurn h12 v8) fun v13 =>
join ((f_X11_days_k15 v11 x3 K5)) fun (K15 : Mem → Option (Int32 × Mem)) =>
if v13 = 0 then (K15 h12)
else (cal (f_X11_hands h12 v8) fun h23 =>
K15 h23))

def f_X11_days (h : Mem) (a1 : Int32) : Option (Int32 × Mem) :=
cal (f_X11_in h a1 (iI 1) (iI 200)) fun v1 =>
if ¬ v1 = 0 then (ald h 73 305 (iI 3) fun v2 =>
if (v2 + a1) ≤ (iI 9999) then (lo2 (f_X11_days_k5 a1) 1000000 (iI 0) h)
else (cal2 (f_X11_errs h (iI (-1000000003))) fun v24 h25 =>
some (v24, h25)))
else (cal2 (f_X11_errs h (iI (-1000000001))) fun v26 h27 =>
some (v26, h27))

def f_X11_lets_k5 (a1 : Int32) : Int32 → Mem → (Int32 → Mem → Option (Int32 × Mem)) → Option (Int32 × Mem) :=
fun (x3 : Int32) (h4 : Mem) (K5 : (Int32 → Mem → Option (Int32 × Mem))) =>
ald h4 84 4 a1 fun v6 =>
if v6 ≤ x3 then (some (x3, h4))
else (ald h4 85 160 (((iI 40) * a1) + x3) fun v7 =>
cal (f_X11_isWindow h4 v7) fun v8 =>
if v8 = 0 then (some (x3, h4))
else (ald h4 85 160 (((iI 40) * a1) + x3) fun v9 =>
cal2 (f_X11_letIn h4 v9) fun v10 h11 =>
join (fun (x12 : Int32) =>
nm (x3 + x12) fun x14 =>
K5 x14 h11) fun (K13 : Int32 → Option (Int32 × Mem)) =>
if 0 ≤ v10 then (K13 (iI 1))
else (K13 (iI 0))))

def f_X11_lets (h : Mem) (a1 : Int32) : Option (Int32 × Mem) :=
cal (f_X11_isSheet h a1) fun v1 =>
if ¬ v1 = 0 then (ald h 83 4 a1 fun v2 =>
if ¬ v2 = 0 then (lo2 (f_X11_lets_k5 a1) 1000000 (iI 0) h)
else (cal2 (f_X11_errs h (iI (-1000000002))) fun v15 h16 =>
some (v15, h16)))
else (cal2 (f_X11_errs h (iI (-1000000001))) fun v17 h18 =>
some (v17, h18))


def f_X0_enter (h : Mem) (q0 : Nat) (q1 : Nat) (a2 : Int32) : Option Mem :=
if (gI h q1 1) ≤ a2 then (if ((gI h q1 1) + (gI h q1 0)) ≤ a2 then (if (((iI 2) * (gI h q1 1)) + (gI h q1 0)) ≤ a2 then (cal (f_X0_start h q0 ((a2 - ((iI 2) * (gI h q1 1))) - (gI h q1 0)) (iI 0) (iI 1)) fun h1 =>
some h1)
else (cal (f_X0_start h q0 ((gI h q1 0) - (iI 1)) ((a2 - (gI h q1 1)) - (gI h q1 0)) (iI 0)) fun h2 =>
some h2))
else (cal (f_X0_start h q0 (a2 - (gI h q1 1)) ((gI h q1 1) - (iI 1)) (iI 3)) fun h3 =>
some h3))
else (cal (f_X0_start h q0 (iI 0) a2 (iI 2)) fun h4 =>
some h4)

def f_X1_standBy_k4 (h : Mem) (a1 : Int32) : Int32 → Int32 → (Int32 → Int32 → Option Mem) → Option Mem :=
fun (x2 : Int32) (x3 : Int32) (K4 : (Int32 → Int32 → Option Mem)) =>
if (gI h 56 3) ≤ x3 then (cal (f_X3_stand h 57 x2 (gL h 56 5)) fun h5 =>
some h5)
else (ald h 62 5 x3 fun v6 =>
ald h 62 5 x3 fun v7 =>
nm ((x2 &&& ((shlI (iI 1) v6) ^^^ (iI (-1)))) ||| (shlI ((ushI a1 x3) &&& (iI 1)) v7)) fun x8 =>
nm (x3 + iI 1) fun x9 =>
K4 x8 x9)

def f_X1_standBy (h : Mem) (a1 : Int32) : Option Mem :=
nm (gI h 56 4) fun x1 =>
lo2 (f_X1_standBy_k4 h a1) 1000000 x1 (iI 0)

def f_X1_canRead_k7 (h : Mem) (q1 : Nat) (x1 : Int32) (q2 : Nat) (K2 : Int32 → Option Int32) : Int32 → Option Int32 :=
fun (x6 : Int32) =>
ald h (q1 + 1) 40 x1 fun v8 =>
cal (f_X3_hasWindow h q2 v8) fun v9 =>
if v9 = 0 then (rZ (iI 0) (some (iI 0)))
else (if ¬ x6 = 0 then (nm (x1 + iI 2) fun x10 =>
K2 x10)
else (rZ (iI 0) (some (iI 0))))

def f_X1_canRead_k2 (h : Mem) (q1 : Nat) (q2 : Nat) : Int32 → (Int32 → Option Int32) → Option Int32 :=
fun (x1 : Int32) (K2 : (Int32 → Option Int32)) =>
if (gI h q1 1) ≤ (x1 + (iI 1)) then (cal (f_X7_isMissing h q1) fun v3 =>
if ¬ v3 = 0 then (rZ (iI 0) (some (iI 0)))
else (rZ (iI 1) (some (iI 1))))
else (ald h (q1 + 1) 40 (x1 + (iI 1)) fun v4 =>
cal (f_X3_hasWindow h q2 v4) fun v5 =>
join ((f_X1_canRead_k7 h q1 x1 q2 K2)) fun (K7 : Int32 → Option Int32) =>
join (K7 (iI 1)) fun (K11 : Option Int32) =>
if ¬ v5 = 0 then (K11)
else (if ¬ v4 = (iI 100) then (K7 (iI 0))
else (K11)))

def f_X1_canRead (h : Mem) (q1 : Nat) (q2 : Nat) : Option Int32 :=
lo1 (f_X1_canRead_k2 h q1 q2) 1000000 (iI 0)


def f_X3_clear (h : Mem) (q0 : Nat) (a1 : Int32) (a2 : Int32) : Option Mem :=
nm (sI h q0 0 a1) fun h1 =>
nm (sI h1 q0 1 a2) fun h2 =>
cal (f_J7_fill_53178 h2 (q0 + 1) 25 (iI 0)) fun h3 =>
cal (f_J7_fill_53178 h3 (q0 + 2) 25 (iI 0)) fun h4 =>
cal (f_J7_fill_53178 h4 (q0 + 3) 25 (iI 0)) fun h5 =>
nm (sI h5 q0 5 (iI 0)) fun h6 =>
nm (sL h6 q0 6 (iL 0)) fun h7 =>
some h7


def f_X3_standAs (h : Mem) (q0 : Nat) (q1 : Nat) : Option Mem :=
cal (f_X3_stand h q0 (gI h q1 5) (gL h q1 6)) fun h1 =>
some h1


def f_X3_become (h : Mem) (q0 : Nat) (a1 : Int32) (a2 : Int32) (a3 : Int32) (a4 : Int32) : Option Mem :=
ast h (q0 + 1) 25 a1 a2 fun h1 =>
ast h1 (q0 + 2) 25 a1 a3 fun h2 =>
nm (sI h2 q0 5 (((gI h2 q0 5) &&& ((shlI (iI 1) a1) ^^^ (iI (-1)))) ||| (shlI a4 a1))) fun h3 =>
cal (f_X3_putTime h3 q0 a1 (iI 0)) fun h4 =>
some h4

def f_X5_worked_k5 (q0 : Nat) (a3 : Int32) (a2 : Int32) (a1 : Int32) : Int32 → Int32 → Mem → (Int32 → Int32 → Mem → Option (Int32 × Mem)) → Option (Int32 × Mem) :=
fun (x2 : Int32) (x3 : Int32) (h4 : Mem) (K5 : (Int32 → Int32 → Mem → Option (Int32 × Mem))) =>
if (gI h4 q0 2) ≤ x3 then (if 0 ≤ x2 then (ald h4 (q0 + 2) 50 x2 fun v6 =>
some (v6, h4))
else (some ((iI 0), h4)))
else (ald h4 (q0 + 1) 50 x3 fun v7 =>
join (fun (x8 : Int32) (h9 : Mem) =>
nm (x3 + iI 1) fun x11 =>
K5 x8 x11 h9) fun (K10 : Int32 → Mem → Option (Int32 × Mem)) =>
if (iI 10000) ≤ v7 then (if ¬ v7 = (iI 10033) then (if (iI 1) ≤ x2 then (nm (x2 + iI (-1)) fun x12 =>
ald h4 (q0 + 2) 50 x12 fun v13 =>
ald h4 (q0 + 2) 50 (x12 + (iI 1)) fun v14 =>
cal (f_X5_joined h4 (v7 - (iI 10000)) v13 v14) fun v15 =>
ast h4 (q0 + 2) 50 x12 v15 fun h16 =>
K10 x12 h16)
else (some ((iI 0), h4)))
else (if 0 ≤ x2 then (ald h4 (q0 + 2) 50 x2 fun v17 =>
join (fun (x18 : Int32) =>
ast h4 (q0 + 2) 50 x2 x18 fun h20 =>
K10 x2 h20) fun (K19 : Int32 → Option (Int32 × Mem)) =>
if ¬ v17 = 0 then (K19 (iI 0))
else (K19 (iI 1)))
else (some ((iI 0), h4))))
else (nm (x2 + iI 1) fun x21 =>
if x21 < (Int32.ofNat 50) then (join (fun (x22 : Int32) =>
ast h4 (q0 + 2) 50 x21 x22 fun h24 =>
K10 x21 h24) fun (K23 : Int32 → Option (Int32 × Mem)) =>
if v7 < 0 then (if ¬ v7 = (iI (-1)) then (if ¬ v7 = (iI (-2)) then (K23 a3)
else (K23 a2))
else (K23 a1))
else (K23 v7))
else (some ((iI 0), h4))))

def f_X5_worked (h : Mem) (q0 : Nat) (a1 : Int32) (a2 : Int32) (a3 : Int32) : Option (Int32 × Mem) :=
nm (iI (-1)) fun x1 =>
lo3 (f_X5_worked_k5 q0 a3 a2 a1) 1000000 x1 (iI 0) h

def f_X6_readNumber_k4  : Int32 → Int32 → Mem → (Int32 → Int32 → Mem → Option Mem) → Option Mem :=
fun (x1 : Int32) (x2 : Int32) (h3 : Mem) (K4 : (Int32 → Int32 → Mem → Option Mem)) =>
join (cal (f_X6_write h3 x1) fun h6 =>
some h6) fun (K5 : Option Mem) =>
if (iI 4) ≤ x2 then (K5)
else (cal (f_X6_peek h3) fun v7 =>
cal (f_X6_isDigit h3 v7) fun v8 =>
if v8 = 0 then (K5)
else (cal (f_X6_peek h3) fun v9 =>
nm (((x1 * (iI 10)) + v9) - (iI 48)) fun x10 =>
nm (sI h3 34 4 ((gI h3 34 4) + (iI 1))) fun h11 =>
nm (x2 + iI 1) fun x12 =>
K4 x10 x12 h11))

def f_X6_readNumber (h : Mem)  : Option Mem :=
lo3 f_X6_readNumber_k4 1000000 (iI 0) (iI 0) h

def f_X6_readName_k2 (h : Mem) (a1 : Int32) : Int32 → (Int32 → Option Mem) → Option Mem :=
fun (x1 : Int32) (K2 : (Int32 → Option Mem)) =>
if (iI 3) ≤ x1 then (rZ (iI 1) <| nm (sI h 34 6 (iI 1)) fun h3 =>
some h3)
else (nm (((gI h 34 5) * (iI 3)) + x1) fun x4 =>
cal (f_X10_within h x4 (iI 0) ((Int32.ofNat 6) - (iI 1))) fun v5 =>
join (nm (x1 + iI 1) fun x7 =>
K2 x7) fun (K6 : Option Mem) =>
if v5 = 0 then (K6)
else (tld tabN 6 x4 fun v8 =>
if ¬ v8 = a1 then (K6)
else (nm (sI h 34 4 ((gI h 34 4) + (iI 1))) fun h9 =>
cal (f_X6_write h9 ((iI (-1)) - x1)) fun h10 =>
some h10)))

def f_X6_readName (h : Mem) (a1 : Int32) : Option Mem :=
lo1 (f_X6_readName_k2 h a1) 1000000 (iI 0)

def b_X6_readJoined_k4 (a1 : Int32) (rec : Nat → Int32 → Int32 → Mem → Option Mem) (a2 : Int32) : Int32 → Mem → (Int32 → Mem → Option Mem) → Option Mem :=
fun (x2 : Int32) (h3 : Mem) (K4 : (Int32 → Mem → Option Mem)) =>
if (gI h3 34 3) ≤ x2 then (some h3)
else (if ¬ (gI h3 34 6) = 0 then (some h3)
else (cal (f_X6_peek h3) fun v5 =>
cal (f_X6_joinsAt h3 a1 v5) fun v6 =>
if v6 = 0 then (some h3)
else (cal (f_X6_peek h3) fun v7 =>
nm (sI h3 34 4 ((gI h3 34 4) + (iI 1))) fun h8 =>
cal (rec 1 (a1 + (iI 1)) a2 h8) fun h9 =>
cal (f_X6_write h9 ((iI 10000) + v7)) fun h10 =>
if ¬ a1 = (iI 2) then (nm (x2 + iI 1) fun x11 =>
K4 x11 h10)
else (some h10))))

def b_X6_readJoined (rec : Nat → Int32 → Int32 → Mem → Option Mem) (a1 : Int32) (a2 : Int32) (h : Mem) : Option Mem :=
cal (rec 1 (a1 + (iI 1)) a2 h) fun h1 =>
lo2 (b_X6_readJoined_k4 a1 rec a2) 1000000 (iI 0) h1


def b_X6_readPart (rec : Nat → Int32 → Int32 → Mem → Option Mem) (a1 : Int32) (a2 : Int32) (h : Mem) : Option Mem :=
if a1 ≤ (iI 4) then (cal (rec 0 a1 a2 h) fun h1 =>
some h1)
else (cal (rec 2 a2 (iI 0) h) fun h2 =>
some h2)


def b_X6_readLeaf (rec : Nat → Int32 → Int32 → Mem → Option Mem) (a1 : Int32) (h : Mem) : Option Mem :=
cal (f_X6_peek h) fun v1 =>
cal (f_X6_isDigit h v1) fun v2 =>
if v2 = 0 then (join (cal (rec 3 v1 a1 h) fun h4 =>
some h4) fun (K3 : Option Mem) =>
if v1 = (iI 33) then (K3)
else (if ¬ v1 = (iI 40) then (cal (f_X6_readName h v1) fun h5 =>
some h5)
else (K3)))
else (cal (f_X6_readNumber h) fun h6 =>
some h6)


def b_X6_readOpened (rec : Nat → Int32 → Int32 → Mem → Option Mem) (a1 : Int32) (a2 : Int32) (h : Mem) : Option Mem :=
if a2 < (iI 5) then (nm (sI h 34 4 ((gI h 34 4) + (iI 1))) fun h1 =>
if ¬ a1 = (iI 33) then (cal (rec 0 (iI 0) (a2 + (iI 1)) h1) fun h2 =>
join (rZ (iI 1) <| nm (sI h2 34 6 (iI 1)) fun h4 =>
some h4) fun (K3 : Option Mem) =>
if ¬ (gI h2 34 6) = 0 then (K3)
else (cal (f_X6_peek h2) fun v5 =>
if v5 = (iI 41) then (nm (sI h2 34 4 ((gI h2 34 4) + (iI 1))) fun h6 =>
some h6)
else (K3)))
else (cal (rec 2 (a2 + (iI 1)) (iI 0) h1) fun h7 =>
cal (f_X6_write h7 ((iI 10000) + a1)) fun h8 =>
some h8))
else (rZ (iI 1) <| nm (sI h 34 6 (iI 1)) fun h9 =>
some h9)

def g_READ : Nat → Nat → Int32 → Int32 → Mem → Option Mem
  | 0, _, _, _, _ => none
  | n + 1, k, b0, b1, h => match k with
    | 0 => b_X6_readJoined (g_READ n) b0 b1 h
    | 1 => b_X6_readPart (g_READ n) b0 b1 h
    | 2 => b_X6_readLeaf (g_READ n) b0 h
    | 3 => b_X6_readOpened (g_READ n) b0 b1 h
    | _ => none


def f_X7_clear (h : Mem) (q0 : Nat) (a1 : Int32) (a2 : Int32) : Option Mem :=
nm (sI h q0 0 a1) fun h1 =>
nm (sI h1 q0 1 a2) fun h2 =>
cal (f_J7_fill_53178 h2 (q0 + 1) 40 (iI 0)) fun h3 =>
some h3


def b_X8_spoken (rec : Nat → Int32 → Int32 → Int32 → Int32 → Mem → Option (Int32 × Mem)) (a1 : Int32) (a2 : Int32) (a3 : Int32) (a4 : Int32) (h : Mem) : Option (Int32 × Mem) :=
cal (f_X8_bodyOf h a1 a2) fun v1 =>
if v1 = 0 then (some ((iI 0), h))
else (if a4 ≤ (iI 40) then (join (fun (h2 : Mem) =>
cal2 (rec 1 v1 a3 (a4 + (iI 1)) (iI 0) h2) fun v4 h5 =>
some (v4, h5)) fun (K3 : Mem → Option (Int32 × Mem)) =>
if (iI 40) ≤ (gI h 37 1) then (K3 h)
else (ast h 38 40 (gI h 37 1) v1 fun h6 =>
nm (sI h6 37 1 ((gI h6 37 1) + (iI 1))) fun h7 =>
K3 h7))
else (some ((iI 0), h)))


def b_X8_worked (rec : Nat → Int32 → Int32 → Int32 → Int32 → Mem → Option (Int32 × Mem)) (a1 : Int32) (a2 : Int32) (a3 : Int32) (h : Mem) : Option (Int32 × Mem) :=
if a1 = iI 10 then (some ((a2 + (gI h 37 3)), h))
else if a1 = iI 11 then (cal2 (rec 2 (iI 0) a2 a3 (iI 0) h) fun v1 h2 =>
some ((v1 * (iI 2)), h2))
else if a1 = iI 12 then (some ((a2 - (gI h 37 4)), h))
else if a1 = iI 13 then (cal2 (rec 2 (iI 1) a2 a3 (iI 0) h) fun v3 h4 =>
cal2 (rec 2 (iI 2) a2 a3 (iI 0) h4) fun v5 h6 =>
some ((v3 ^^^ v5), h6))
else if a1 = iI 20 then (cal2 (rec 3 (iI 1) (iI 1) a2 a3 h) fun v7 h8 =>
cal2 (rec 2 (iI 2) (iI 1) a3 (iI 0) h8) fun v9 h10 =>
some ((v7 - v9), h10))
else if a1 = iI 30 then (cal2 (rec 3 (iI 2) (iI 0) a2 a3 h) fun v11 h12 =>
some ((v11 * (iI 3)), h12))
else if a1 = iI 40 then (cal2 (rec 3 (iI 3) (iI 2) a2 a3 h) fun v13 h14 =>
some ((-v13), h14))
else if a1 = iI 50 then (cal2 (rec 3 (iI 4) (iI 1) (a2 + (iI 1)) a3 h) fun v15 h16 =>
some (v15, h16))
else if a1 = iI 60 then (cal2 (rec 3 (iI 5) (iI 3) a2 a3 h) fun v17 h18 =>
cal2 (rec 2 (iI 0) (iI 2) a3 (iI 0) h18) fun v19 h20 =>
some ((v17 - v19), h20))
else if a1 = iI 70 then (cal2 (rec 3 (iI 6) (iI 2) a2 a3 h) fun v21 h22 =>
some ((v21 ^^^ (gI h22 37 3)), h22))
else (cal2 (rec 2 (iI 1) a2 a3 (iI 0) h) fun v23 h24 =>
cal2 (rec 3 (iI 6) (iI 3) a2 a3 h24) fun v25 h26 =>
some ((v23 - v25), h26))


def b_X8_own (rec : Nat → Int32 → Int32 → Int32 → Int32 → Mem → Option (Int32 × Mem)) (a1 : Int32) (a2 : Int32) (a3 : Int32) (h : Mem) : Option (Int32 × Mem) :=
cal2 (rec 0 (gI h 37 2) a1 a2 a3 h) fun v1 h2 =>
some (v1, h2)


def b_X8_above (rec : Nat → Int32 → Int32 → Int32 → Int32 → Mem → Option (Int32 × Mem)) (a1 : Int32) (a2 : Int32) (a3 : Int32) (a4 : Int32) (h : Mem) : Option (Int32 × Mem) :=
cal (f_X3_above h a1) fun v1 =>
cal2 (rec 0 v1 a2 a3 a4 h) fun v2 h3 =>
some (v2, h3)

def g_VOICE : Nat → Nat → Int32 → Int32 → Int32 → Int32 → Mem → Option (Int32 × Mem)
  | 0, _, _, _, _, _, _ => none
  | n + 1, k, b0, b1, b2, b3, h => match k with
    | 0 => b_X8_spoken (g_VOICE n) b0 b1 b2 b3 h
    | 1 => b_X8_worked (g_VOICE n) b0 b1 b2 h
    | 2 => b_X8_own (g_VOICE n) b0 b1 b2 h
    | 3 => b_X8_above (g_VOICE n) b0 b1 b2 b3 h
    | _ => none


def f_X10_hall (h : Mem) (a1 : Int32) (a2 : Int32) : Option (Int32 × Mem) :=
cal (f_X10_within h a1 (iI 1) (iI 5)) fun v1 =>
join (cal2 (f_X10_fail h (iI 1)) fun v3 h4 =>
some (v3, h4)) fun (K2 : Option (Int32 × Mem)) =>
if v1 = 0 then (K2)
else (cal (f_X10_within h a2 (iI 1) (iI 5)) fun v5 =>
if ¬ v5 = 0 then (cal (f_X3_clear h 3 a1 a2) fun h6 =>
cal (f_X3_windows h6 3) fun v7 =>
some (v7, h6))
else (K2))


def f_X10_square (h : Mem) (a1 : Int32) (a2 : Int32) (a3 : Int32) : Option (Int32 × Mem) :=
cal (f_X3_hasSquare h 3 a1) fun v1 =>
join (cal2 (f_X10_fail h (iI 1)) fun v3 h4 =>
some (v3, h4)) fun (K2 : Option (Int32 × Mem)) =>
if v1 = 0 then (K2)
else (cal (f_X10_within h a2 (iI 0) (iI 69)) fun v5 =>
if v5 = 0 then (K2)
else (cal (f_X10_within h a3 (iI 0) (iI 1)) fun v6 =>
if ¬ v6 = 0 then (ald h 4 25 a1 fun v7 =>
nz (iI 10) <|
nz (iI 10) <|
cal (f_X3_become h 3 a1 (a2 / (iI 10)) (rmI a2 (iI 10)) a3) fun h8 =>
some (v7, h8))
else (K2)))


def f_X10_as (h : Mem) (a1 : Int32) (a2 : Int32) : Option (Int32 × Mem) :=
cal (f_X3_hasSquare h 3 a1) fun v1 =>
join (cal2 (f_X10_fail h (iI 1)) fun v3 h4 =>
some (v3, h4)) fun (K2 : Option (Int32 × Mem)) =>
if v1 = 0 then (K2)
else (cal (f_X10_within h a2 (iI 0) (iI 6)) fun v5 =>
if ¬ v5 = 0 then (ald h 4 25 a1 fun v6 =>
cal (f_X3_isOf h v6 a2) fun v7 =>
if v7 = 0 then (cal2 (f_X10_fail h (iI 5)) fun v8 h9 =>
some (v8, h9))
else (ald h 5 25 a1 fun v10 =>
some (v10, h)))
else (K2))


def f_X10_feed (h : Mem) (a1 : Int64) (a2 : Int32) : Option (Int32 × Mem) :=
cal (f_X10_within h a2 (iI 1) (iI 8)) fun v1 =>
if ¬ v1 = 0 then (cal2 (f_X9_feedBytes h 2 a1 a2) fun v2 h3 =>
if v2 = 0 then (cal2 (f_X10_fail h3 (iI 4)) fun v4 h5 =>
some (v4, h5))
else (some ((gI h3 2 4), h3)))
else (cal2 (f_X10_fail h (iI 1)) fun v6 h7 =>
some (v6, h7))


def f_X10_trace (h : Mem) (a1 : Int32) : Option (Int32 × Mem) :=
cal (f_X10_within h a1 (iI 0) ((gI h 37 1) - (iI 1))) fun v1 =>
if v1 = 0 then (cal2 (f_X10_fail h (iI 2)) fun v2 h3 =>
some (v2, h3))
else (ald h 38 40 a1 fun v4 =>
some (v4, h))


def f_X10_sheet (h : Mem) (a1 : Int32) (a2 : Int32) (a3 : Int32) : Option (Int32 × Mem) :=
cal (f_X10_hasSheet h a1) fun v1 =>
join (cal2 (f_X10_fail h (iI 1)) fun v3 h4 =>
some (v3, h4)) fun (K2 : Option (Int32 × Mem)) =>
if v1 = 0 then (K2)
else (cal (f_X7_canHave h a2) fun v5 =>
if ¬ v5 = 0 then (if ¬ a2 = 0 then (if 0 ≤ a3 then (if a3 ≤ (iI 40) then (rng a1 4 fun j6 =>
cal (f_X7_clear h (64 + 2 * j6) a2 a3) fun h7 =>
some ((iI 1), h7))
else (cal2 (f_X10_fail h (iI 1)) fun v8 h9 =>
some (v8, h9)))
else (cal2 (f_X10_fail h (iI 3)) fun v10 h11 =>
some (v10, h11)))
else (rng a1 4 fun j12 =>
cal (f_X7_lose h (64 + 2 * j12)) fun h13 =>
some ((iI 1), h13)))
else (K2))


def f_X10_put (h : Mem) (a1 : Int32) (a2 : Int32) (a3 : Int32) : Option (Int32 × Mem) :=
cal (f_X10_hasSheet h a1) fun v1 =>
if ¬ v1 = 0 then (rng a1 4 fun j2 =>
cal (f_X7_isMissing h (64 + 2 * j2)) fun v3 =>
if v3 = 0 then (cal (f_X10_within h a2 (iI 0) ((gI h (64 + 2 * j2) 1) - (iI 1))) fun v4 =>
if ¬ v4 = 0 then (cal (f_X7_write h (64 + 2 * j2) a2 a3) fun h5 =>
some ((iI 1), h5))
else (cal2 (f_X10_fail h (iI 1)) fun v6 h7 =>
some (v6, h7)))
else (cal2 (f_X10_fail h (iI 2)) fun v8 h9 =>
some (v8, h9)))
else (cal2 (f_X10_fail h (iI 1)) fun v10 h11 =>
some (v10, h11))


def f_X10_move (h : Mem) (a1 : Int32) (a2 : Int32) (a3 : Int32) (a4 : Int32) (a5 : Int32) : Option (Int32 × Mem) :=
cal (f_X10_hasSheet h a1) fun v1 =>
join (cal2 (f_X10_fail h (iI 1)) fun v3 h4 =>
some (v3, h4)) fun (K2 : Option (Int32 × Mem)) =>
if v1 = 0 then (K2)
else (cal (f_X10_hasSheet h a3) fun v5 =>
if ¬ v5 = 0 then (rng a1 4 fun j6 =>
rng a3 4 fun j7 =>
cal (f_X7_isMissing h (64 + 2 * j6)) fun v8 =>
join (cal2 (f_X10_fail h (iI 2)) fun v10 h11 =>
some (v10, h11)) fun (K9 : Option (Int32 × Mem)) =>
if ¬ v8 = 0 then (K9)
else (cal (f_X7_isMissing h (64 + 2 * j7)) fun v12 =>
if v12 = 0 then (if (gI h (64 + 2 * j6) 0) = (gI h (64 + 2 * j7) 0) then (cal (f_X7_hasPart h (64 + 2 * j6) a2 a5) fun v13 =>
join (cal2 (f_X10_fail h (iI 1)) fun v15 h16 =>
some (v15, h16)) fun (K14 : Option (Int32 × Mem)) =>
if v13 = 0 then (K14)
else (cal (f_X7_hasPart h (64 + 2 * j7) a4 a5) fun v17 =>
if ¬ v17 = 0 then (acp h ((64 + 2 * j6) + 1) 40 a2 ((64 + 2 * j7) + 1) 40 a4 a5 fun h18 =>
some (a5, h18))
else (K14)))
else (cal2 (f_X10_fail h (iI 5)) fun v19 h20 =>
some (v19, h20)))
else (K9)))
else (K2))

def f_X10_judge_k7 (x5 : Int32) (h : Mem) (j2 : Nat) (v4 : Int32) : Int32 → (Int32 → Option (Int32 × Mem)) → Option (Int32 × Mem) :=
fun (x6 : Int32) (K7 : (Int32 → Option (Int32 × Mem))) =>
if x5 ≤ x6 then (if ¬ (gI h (64 + 2 * j2) 1) = v4 then (some (x5, h))
else (some ((iI (-1)), h)))
else (ald h ((64 + 2 * j2) + 1) 40 x6 fun v8 =>
cal (f_X3_slantOf h 3 x6) fun v9 =>
if v8 = v9 then (nm (x6 + iI 1) fun x10 =>
K7 x10)
else (some (x6, h)))

def f_X10_judge (h : Mem) (a1 : Int32) : Option (Int32 × Mem) :=
cal (f_X10_hasSheet h a1) fun v1 =>
if ¬ v1 = 0 then (rng a1 4 fun j2 =>
cal (f_X7_isMissing h (64 + 2 * j2)) fun v3 =>
if v3 = 0 then (cal (f_X3_squares h 3) fun v4 =>
nm (mnI (gI h (64 + 2 * j2) 1) v4) fun x5 =>
lo1 (f_X10_judge_k7 x5 h j2 v4) 1000000 (iI 0))
else (cal2 (f_X10_fail h (iI 2)) fun v11 h12 =>
some (v11, h12)))
else (cal2 (f_X10_fail h (iI 1)) fun v13 h14 =>
some (v13, h14))


def f_X10_tell (h : Mem) (a1 : Int32) : Option (Int32 × Mem) :=
cal2 (f_X9_addWaiting h 2 a1) fun v1 h2 =>
if v1 = 0 then (cal2 (f_X10_fail h2 (iI 4)) fun v3 h4 =>
some (v3, h4))
else (some ((gI h2 2 6), h2))


def f_X10_count (h : Mem) (a1 : Int32) : Option (Int32 × Mem) :=
if a1 = iI 0 then (some ((gI h 3 0), h))
else if a1 = iI 1 then (some ((gI h 3 1), h))
else if a1 = iI 2 then (cal (f_X3_windows h 3) fun v1 =>
some (v1, h))
else if a1 = iI 3 then (cal (f_X3_mirrors h 3) fun v2 =>
some (v2, h))
else if a1 = iI 4 then (cal (f_X3_litTogether h 3) fun v3 =>
some (v3, h))
else if a1 = iI 5 then (some ((gI h 2 7), h))
else if a1 = iI 6 then (some ((gI h 2 8), h))
else if a1 = iI 7 then (some ((gI h 2 4), h))
else if a1 = iI 8 then (some ((gI h 2 6), h))
else if a1 = iI 9 then (some ((gI h 37 1), h))
else if a1 = iI 10 then (some ((gI h 2 9), h))
else (cal2 (f_X10_fail h (iI 1)) fun v4 h5 =>
some (v4, h5))


def f_X10_told (h : Mem) (a1 : Int32) : Option (Int32 × Mem) :=
cal (f_X10_within h a1 (iI 1) (iI 5)) fun v1 =>
if v1 = 0 then (cal2 (f_X10_fail h (iI 1)) fun v2 h3 =>
some (v2, h3))
else (ald h 1 6 a1 fun v4 =>
some (v4, h))

def f_X0_run_k17 (q0 : Nat) (q1 : Nat) (x4 : Int32) (K6 : Int32 → Mem → Option (Int32 × Mem)) : Mem → Option (Int32 × Mem) :=
fun (h16 : Mem) =>
cal (f_X0_goOn h16 q0) fun h18 =>
cal (f_X0_isOutside h18 q0 q1) fun v19 =>
if v19 = 0 then (nm (x4 + iI 1) fun x20 =>
K6 x20 h18)
else (cal (f_X0_windowHere h18 q0 q1) fun v21 =>
some (v21, h18))

def f_X0_run_k9 (q0 : Nat) (x4 : Int32) (x7 : Int32) (q1 : Nat) (K6 : Int32 → Mem → Option (Int32 × Mem)) : Mem → Option (Int32 × Mem) :=
fun (h8 : Mem) =>
nm (sI h8 q0 3 (x4 + (iI 1))) fun h10 =>
nm (sI h10 q0 5 ((gI h10 q0 5) ||| (shlI (iI 1) x7))) fun h11 =>
cal (f_X3_lightUp h11 q1 x7) fun h12 =>
ald h12 (q1 + 1) 25 x7 fun v13 =>
cal (f_X3_stopsRays h12 v13) fun v14 =>
if v14 = 0 then (cal (f_X3_throwsRays h12 v13) fun v15 =>
join ((f_X0_run_k17 q0 q1 x4 K6)) fun (K17 : Mem → Option (Int32 × Mem)) =>
if v15 = 0 then (K17 h12)
else (cal (f_X3_slantOf h12 q1 x7) fun v22 =>
cal (f_X0_bend h12 q0 v22) fun h23 =>
nm (sI h23 q0 4 ((gI h23 q0 4) + (iI 1))) fun h24 =>
cal (f_X3_turnByRay h24 q1 x7) fun h25 =>
K17 h25))
else (some ((iI 100), h12))

def f_X0_run_k6 (q0 : Nat) (q1 : Nat) : Int32 → Mem → (Int32 → Mem → Option (Int32 × Mem)) → Option (Int32 × Mem) :=
fun (x4 : Int32) (h5 : Mem) (K6 : (Int32 → Mem → Option (Int32 × Mem))) =>
if (iI 5000) ≤ x4 then (some ((iI 100), h5))
else (nm (((gI h5 q0 0) * (gI h5 q1 1)) + (gI h5 q0 1)) fun x7 =>
join ((f_X0_run_k9 q0 x4 x7 q1 K6)) fun (K9 : Mem → Option (Int32 × Mem)) =>
if ¬ x4 = (gI h5 q0 6) then (K9 h5)
else (nm (sI h5 q0 7 x7) fun h26 =>
K9 h26))

def f_X0_run (h : Mem) (q0 : Nat) (q1 : Nat) (a2 : Int32) : Option (Int32 × Mem) :=
cal (f_X0_enter h q0 q1 a2) fun h1 =>
nm (sI h1 q0 4 (iI 0)) fun h2 =>
nm (sI h2 q0 5 (iI 0)) fun h3 =>
lo2 (f_X0_run_k6 q0 q1) 1000000 (iI 0) h3

def f_X0_runBack_k11 (q0 : Nat) (q1 : Nat) (x2 : Int32) (K4 : Int32 → Mem → Option (Int32 × Mem)) : Mem → Option (Int32 × Mem) :=
fun (h10 : Mem) =>
cal (f_X0_goOn h10 q0) fun h12 =>
cal (f_X0_isOutside h12 q0 q1) fun v13 =>
if v13 = 0 then (nm (x2 + iI 1) fun x14 =>
K4 x14 h12)
else (cal (f_X0_windowHere h12 q0 q1) fun v15 =>
some (v15, h12))

def f_X0_runBack_k4 (q0 : Nat) (q1 : Nat) : Int32 → Mem → (Int32 → Mem → Option (Int32 × Mem)) → Option (Int32 × Mem) :=
fun (x2 : Int32) (h3 : Mem) (K4 : (Int32 → Mem → Option (Int32 × Mem))) =>
if (iI 5000) ≤ x2 then (some ((iI 100), h3))
else (nm (((gI h3 q0 0) * (gI h3 q1 1)) + (gI h3 q0 1)) fun x5 =>
ald h3 (q1 + 1) 25 x5 fun v6 =>
cal (f_X3_stopsRays h3 v6) fun v7 =>
if v7 = 0 then (cal (f_X3_lightDown h3 q1 x5) fun h8 =>
cal (f_X3_throwsRays h8 v6) fun v9 =>
join ((f_X0_runBack_k11 q0 q1 x2 K4)) fun (K11 : Mem → Option (Int32 × Mem)) =>
if v9 = 0 then (K11 h8)
else (cal (f_X3_turnBack h8 q1 x5) fun h16 =>
cal (f_X3_slantOf h16 q1 x5) fun v17 =>
cal (f_X0_bend h16 q0 v17) fun h18 =>
K11 h18))
else (some ((iI 100), h3)))

def f_X0_runBack (h : Mem) (q0 : Nat) (q1 : Nat) (a2 : Int32) : Option (Int32 × Mem) :=
cal (f_X0_enter h q0 q1 a2) fun h1 =>
lo2 (f_X0_runBack_k4 q0 q1) 1000000 (iI 0) h1


def f_X0_squareOnWay (h : Mem) (q0 : Nat) (q1 : Nat) (a2 : Int32) (a3 : Int32) : Option (Int32 × Mem) :=
nm (sI h q0 6 a3) fun h1 =>
nm (sI h1 q0 7 (iI (-1))) fun h2 =>
cal2 (f_X0_run h2 q0 q1 a2) fun v3 h4 =>
nm (sI h4 q0 6 (iI (-1))) fun h5 =>
some ((gI h5 q0 7), h5)

def f_X1_weigh_k10  : Int32 → Mem → (Int32 → Mem → Option Mem) → Option Mem :=
fun (x8 : Int32) (h9 : Mem) (K10 : (Int32 → Mem → Option Mem)) =>
if (iI 5) ≤ x8 then (some h9)
else (if ¬ (((gI h9 56 7) ||| (gI h9 56 8)) &&& (iI 1)) = 0 then (some h9)
else (nz (iI 2) <|
nm (sI h9 56 7 ((gI h9 56 7) / (iI 2))) fun h11 =>
nz (iI 2) <|
nm (sI h11 56 8 ((gI h11 56 8) / (iI 2))) fun h12 =>
nm (x8 + iI 1) fun x13 =>
K10 x13 h12))

def f_X1_weigh_k6 (a1 : Int32) (a2 : Int32) : Int32 → Mem → (Int32 → Mem → Option Mem) → Option Mem :=
fun (x4 : Int32) (h5 : Mem) (K6 : (Int32 → Mem → Option Mem)) =>
cal (f_X1_choices h5) fun v7 =>
if v7 ≤ x4 then (lo2 f_X1_weigh_k10 1000000 (iI 0) h5)
else (cal (f_X1_standBy h5 x4) fun h14 =>
cal2 (f_X0_run h14 61 57 a1) fun v15 h16 =>
join (fun (x17 : Int32) =>
nm (sI h16 56 7 ((gI h14 56 7) + x17)) fun h19 =>
nm (x4 + iI 1) fun x20 =>
K6 x20 h19) fun (K18 : Int32 → Option Mem) =>
if ¬ v15 = a2 then (K18 (iI 0))
else (K18 (iI 1)))

def f_X1_weigh (h : Mem) (a1 : Int32) (a2 : Int32) : Option Mem :=
nm (sI h 56 7 (iI 0)) fun h1 =>
cal (f_X1_choices h1) fun v2 =>
nm (sI h1 56 8 v2) fun h3 =>
lo2 (f_X1_weigh_k6 a1 a2) 1000000 (iI 0) h3

def f_X1_isFitting_k4 (q1 : Nat) : Int32 → Mem → (Int32 → Mem → Option (Int32 × Mem)) → Option (Int32 × Mem) :=
fun (x2 : Int32) (h3 : Mem) (K4 : (Int32 → Mem → Option (Int32 × Mem))) =>
if (gI h3 q1 1) ≤ (x2 + (iI 1)) then (rZ (iI 1) (some ((iI 1), h3)))
else (ald h3 (q1 + 1) 40 x2 fun v5 =>
cal2 (f_X0_run h3 61 57 v5) fun v6 h7 =>
ald h7 (q1 + 1) 40 (x2 + (iI 1)) fun v8 =>
if v6 = v8 then (nm (x2 + iI 2) fun x9 =>
K4 x9 h7)
else (rZ (iI 0) (some ((iI 0), h7))))

def f_X1_isFitting (h : Mem) (q1 : Nat) (a2 : Int32) : Option (Int32 × Mem) :=
cal (f_X1_standBy h a2) fun h1 =>
lo2 (f_X1_isFitting_k4 q1) 1000000 (iI 0) h1

def f_X1_noteOuts_k5 (x1 : Int32) (y2 : Int64) : Int32 → Mem → (Int32 → Mem → Option Mem) → Option Mem :=
fun (x3 : Int32) (h4 : Mem) (K5 : (Int32 → Mem → Option Mem)) =>
cal (f_X3_windows h4 57) fun v6 =>
if v6 ≤ x3 then (some h4)
else (if (iI 20) ≤ x3 then (some h4)
else (cal (f_X3_stand h4 57 x1 y2) fun h7 =>
ald h7 63 20 x3 fun v8 =>
cal2 (f_X0_run h7 61 57 x3) fun v9 h10 =>
ast h10 63 20 x3 (v8 ||| (shlI (iI 1) (mnI (iI 20) v9))) fun h11 =>
nm (x3 + iI 1) fun x12 =>
K5 x12 h11))

def f_X1_noteOuts (h : Mem)  : Option Mem :=
nm (gI h 57 5) fun x1 =>
nm (gL h 57 6) fun y2 =>
lo2 (f_X1_noteOuts_k5 x1 y2) 1000000 (iI 0) h


def b_X2_leads (rec : Nat → Int32 → Int32 → Nat → Mem → Option (Int32 × Mem)) (a1 : Int32) (a2 : Int32) (q3 : Nat) (h : Mem) : Option (Int32 × Mem) :=
join (cal (f_X3_standsAs h 40 q3) fun v2 =>
rZ v2 (some (v2, h))) fun (K1 : Option (Int32 × Mem)) =>
if a2 ≤ a1 then (K1)
else (if a1 < (iI 3) then (cal2 (rec 1 a1 a2 q3 h) fun v3 h4 =>
rZ v3 (some (v3, h4)))
else (K1))

def b_X2_leadsByWindow_k5 (a1 : Int32) (rec : Nat → Int32 → Int32 → Nat → Mem → Option (Int32 × Mem)) (a2 : Int32) (q3 : Nat) : Int32 → Mem → (Int32 → Mem → Option (Int32 × Mem)) → Option (Int32 × Mem) :=
fun (x3 : Int32) (h4 : Mem) (K5 : (Int32 → Mem → Option (Int32 × Mem))) =>
cal (f_X3_windows h4 40) fun v6 =>
if v6 ≤ x3 then (rZ (iI 0) (some ((iI 0), h4)))
else (ald h4 46 3 a1 fun v7 =>
aldL h4 47 3 a1 fun w8 =>
cal (f_X3_stand h4 40 v7 w8) fun h9 =>
cal2 (f_X0_run h9 44 40 x3) fun v10 h11 =>
ast h11 45 3 a1 x3 fun h12 =>
cal2 (rec 0 (a1 + (iI 1)) a2 q3 h12) fun v13 h14 =>
if v13 = 0 then (nm (x3 + iI 1) fun x15 =>
K5 x15 h14)
else (rZ (iI 1) (some ((iI 1), h14))))

def b_X2_leadsByWindow (rec : Nat → Int32 → Int32 → Nat → Mem → Option (Int32 × Mem)) (a1 : Int32) (a2 : Int32) (q3 : Nat) (h : Mem) : Option (Int32 × Mem) :=
ast h 46 3 a1 (gI h 40 5) fun h1 =>
astL h1 47 3 a1 (gL h1 40 6) fun h2 =>
lo2 (b_X2_leadsByWindow_k5 a1 rec a2 q3) 1000000 (iI 0) h2

def g_LEADS : Nat → Nat → Int32 → Int32 → Nat → Mem → Option (Int32 × Mem)
  | 0, _, _, _, _, _ => none
  | n + 1, k, b0, b1, r0, h => match k with
    | 0 => b_X2_leads (g_LEADS n) b0 b1 r0 h
    | 1 => b_X2_leadsByWindow (g_LEADS n) b0 b1 r0 h
    | _ => none


def f_X3_copyFrom (h : Mem) (q0 : Nat) (q1 : Nat) : Option Mem :=
nm (sI h q0 0 (gI h q1 0)) fun h1 =>
nm (sI h1 q0 1 (gI h1 q1 1)) fun h2 =>
acp h2 (q1 + 1) 25 (iI 0) (q0 + 1) 25 (iI 0) (iI 25) fun h3 =>
acp h3 (q1 + 2) 25 (iI 0) (q0 + 2) 25 (iI 0) (iI 25) fun h4 =>
acp h4 (q1 + 3) 25 (iI 0) (q0 + 3) 25 (iI 0) (iI 25) fun h5 =>
cal (f_X3_standAs h5 q0 q1) fun h6 =>
some h6


def f_X4_isLit (h : Mem) (q1 : Nat) (a2 : Int32) : Option (Int32 × Mem) :=
cal (f_X3_stand h 51 ((gI h q1 5) ^^^ a2) (gL h q1 6)) fun h1 =>
cal2 (f_X0_run h1 55 51 (gI h1 50 3)) fun v2 h3 =>
if ¬ ((ushI (gI h3 55 5) (gI h3 50 2)) &&& (iI 1)) = (iI 1) then (rZ (iI 0) (some ((iI 0), h3)))
else (rZ (iI 1) (some ((iI 1), h3)))

def f_X5_gives_k2 (h : Mem) (q0 : Nat) (a1 : Int32) (a2 : Int32) (a3 : Int32) : Int32 → Option (Int32 × Mem) :=
fun (x1 : Int32) =>
join (fun (x3 : Int32) (h4 : Mem) =>
cal (f_X10_held h4 x3 x1 (iI 99)) fun v6 =>
some (v6, h4)) fun (K5 : Int32 → Mem → Option (Int32 × Mem)) =>
if ¬ (gI h q0 2) = 0 then (cal2 (f_X5_worked h q0 a1 a2 a3) fun v7 h8 =>
K5 v7 h8)
else (cal (f_X5_withoutText h q0 a3) fun v9 =>
K5 v9 h)

def f_X5_gives (h : Mem) (q0 : Nat) (a1 : Int32) (a2 : Int32) (a3 : Int32) : Option (Int32 × Mem) :=
join ((f_X5_gives_k2 h q0 a1 a2 a3)) fun (K2 : Int32 → Option (Int32 × Mem)) =>
if ¬ (gI h q0 0) = 0 then (K2 (iI (-99)))
else (K2 (iI 0))


def f_X6_faultIn (h : Mem) (q1 : Nat) (n1 : Nat) (a2 : Int32) (a3 : Int32) : Option (Int32 × Mem) :=
cal (f_X10_held h a2 (iI 0) (mnI (Int32.ofNat n1) (Int32.ofNat 50))) fun v1 =>
nm (sI h 34 3 v1) fun h2 =>
acp h2 q1 n1 (iI 0) 36 50 (iI 0) (gI h2 34 3) fun h3 =>
nm (sI h3 34 5 a3) fun h4 =>
nm (sI h4 34 4 (iI 0)) fun h5 =>
nm (sI h5 34 1 (iI 0)) fun h6 =>
rZ (iI 0) <| nm (sI h6 34 6 (iI 0)) fun h7 =>
cal (g_READ 96 0 (iI 0) (iI 0) h7) fun h8 =>
join (some ((gI h8 34 4), h8)) fun (K9 : Option (Int32 × Mem)) =>
if ¬ (gI h8 34 6) = 0 then (K9)
else (if (gI h8 34 3) ≤ (gI h8 34 4) then (some ((iI (-1)), h8))
else (K9))


def f_X8_speakFor (h : Mem) (q1 : Nat) (a2 : Int32) (a3 : Int32) (a4 : Int32) : Option (Int32 × Mem) :=
ald h (q1 + 1) 25 a2 fun v1 =>
nm (sI h 37 2 v1) fun h2 =>
nm (sI h2 37 3 a2) fun h3 =>
ald h3 (q1 + 2) 25 a2 fun v4 =>
nm (sI h3 37 4 v4) fun h5 =>
nm (sI h5 37 1 (iI 0)) fun h6 =>
cal2 (g_VOICE 100 0 (gI h6 37 2) a3 a4 (iI 0) h6) fun v7 h8 =>
some (v7, h8)


def f_X9_copyFrom (h : Mem) (q0 : Nat) (q1 : Nat) : Option Mem :=
cal (f_X3_copyFrom h (q0 + 1) (q1 + 1)) fun h1 =>
cal (f_X5_copyFrom h1 (q0 + 5) (q1 + 5)) fun h2 =>
cal (f_X5_copyFrom h2 (q0 + 8) (q1 + 8)) fun h3 =>
acp h3 (q1 + 11) 50 (iI 0) (q0 + 11) 50 (iI 0) (iI 50) fun h4 =>
nm (sI h4 q0 4 (gI h4 q1 4)) fun h5 =>
acp h5 (q1 + 12) 20 (iI 0) (q0 + 12) 20 (iI 0) (iI 20) fun h6 =>
nm (sI h6 q0 6 (gI h6 q1 6)) fun h7 =>
nm (sI h7 q0 7 (gI h7 q1 7)) fun h8 =>
nm (sI h8 q0 8 (gI h8 q1 8)) fun h9 =>
nm (sI h9 q0 9 (gI h9 q1 9)) fun h10 =>
some h10


def f_X9_handCost (h : Mem) (q0 : Nat) (a1 : Int32) : Option (Int32 × Mem) :=
cal (f_X10_quotient h a1 (gI h (q0 + 1) 1)) fun v1 =>
cal (f_X10_rest h a1 (gI h (q0 + 1) 1)) fun v2 =>
ald h (q0 + 3) 25 a1 fun v3 =>
cal2 (f_X5_gives h (q0 + 5) v1 v2 v3) fun v4 h5 =>
some (v4, h5)


def f_X9_handTurns (h : Mem) (q0 : Nat) (a1 : Int32) : Option (Int32 × Mem) :=
cal (f_X3_handCan h (q0 + 1) a1) fun v1 =>
if ¬ v1 = 0 then (cal2 (f_X9_handCost h q0 a1) fun v2 h3 =>
cal (f_X9_earn h3 q0 (-v2)) fun h4 =>
cal (f_X3_flip h4 (q0 + 1) a1) fun h5 =>
rZ (iI 1) (some ((iI 1), h5)))
else (rZ (iI 0) (some ((iI 0), h)))


def f_X9_rayIn (h : Mem) (q0 : Nat) (q1 : Nat) (a2 : Int32) : Option (Int32 × Mem) :=
cal2 (f_X0_run h q1 (q0 + 1) a2) fun v1 h2 =>
cal2 (f_X5_gives h2 (q0 + 8) a2 v1 (gI h2 q1 4)) fun v3 h4 =>
cal (f_X9_earn h4 q0 v3) fun h5 =>
some (v1, h5)


def f_X9_liveDay (h : Mem) (q0 : Nat) (q1 : Nat) : Option Mem :=
cal2 (f_X9_draw h q0) fun v1 h2 =>
cal (f_X3_squares h2 (q0 + 1)) fun v3 =>
cal (f_X10_rest h2 v1 v3) fun v4 =>
cal2 (f_X9_draw h2 q0) fun v5 h6 =>
cal (f_X3_windows h6 (q0 + 1)) fun v7 =>
cal (f_X10_rest h6 v5 v7) fun v8 =>
cal2 (f_X9_handTurns h6 q0 v4) fun v9 h10 =>
cal2 (f_X9_rayIn h10 q0 q1 v8) fun v11 h12 =>
nm (sI h12 q0 8 ((gI h12 q0 8) + (iI 1))) fun h13 =>
some h13


def f_X10_ofSquare (h : Mem) (a1 : Int32) (a2 : Int32) : Option (Int32 × Mem) :=
cal (f_X3_hasSquare h 3 a1) fun v1 =>
join (cal2 (f_X10_fail h (iI 1)) fun v3 h4 =>
some (v3, h4)) fun (K2 : Option (Int32 × Mem)) =>
if v1 = 0 then (K2)
else (cal (f_X10_within h a2 (iI 0) (iI 7)) fun v5 =>
if ¬ v5 = 0 then (ald h 4 25 a1 fun v6 =>
if a2 = iI 0 then (some (v6, h))
else if a2 = iI 1 then (ald h 5 25 a1 fun v7 =>
some (v7, h))
else if a2 = iI 2 then (cal (f_X3_slantOf h 3 a1) fun v8 =>
some (v8, h))
else if a2 = iI 3 then (cal (f_X3_timeOf h 3 a1) fun v9 =>
some (v9, h))
else if a2 = iI 4 then (ald h 6 25 a1 fun v10 =>
some (v10, h))
else if a2 = iI 5 then (cal (f_X3_handCan h 3 a1) fun v11 =>
if v11 = 0 then (some ((iI (-1)), h))
else (cal2 (f_X9_handCost h 2 a1) fun v12 h13 =>
some (v12, h13)))
else if a2 = iI 6 then (cal (f_X3_throwsRays h v6) fun v14 =>
if v14 = 0 then (some ((iI 0), h))
else (some ((iI 1), h)))
else (cal (f_X3_stopsRays h v6) fun v15 =>
if v15 = 0 then (some ((iI 0), h))
else (some ((iI 1), h))))
else (K2))


def f_X10_hand (h : Mem) (a1 : Int32) : Option (Int32 × Mem) :=
cal (f_X3_hasSquare h 3 a1) fun v1 =>
if ¬ v1 = 0 then (cal2 (f_X9_handTurns h 2 a1) fun v2 h3 =>
if v2 = 0 then (cal2 (f_X10_fail h3 (iI 3)) fun v4 h5 =>
some (v4, h5))
else (cal (f_X3_slantOf h3 3 a1) fun v6 =>
some (v6, h3)))
else (cal2 (f_X10_fail h (iI 1)) fun v7 h8 =>
some (v7, h8))


def f_X10_let (h : Mem) (a1 : Int32) : Option (Int32 × Mem) :=
cal (f_X3_hasWindow h 3 a1) fun v1 =>
if v1 = 0 then (cal2 (f_X10_fail h (iI 1)) fun v2 h3 =>
some (v2, h3))
else (cal2 (f_X9_rayIn h 2 29 a1) fun v4 h5 =>
some (v4, h5))


def f_X10_out (h : Mem) (a1 : Int32) (a2 : Int32) : Option (Int32 × Mem) :=
cal (f_X3_hasWindow h 3 a1) fun v1 =>
join (cal2 (f_X10_fail h (iI 1)) fun v3 h4 =>
some (v3, h4)) fun (K2 : Option (Int32 × Mem)) =>
if v1 = 0 then (K2)
else (cal (f_X10_within h a2 (iI 0) (iI 3)) fun v5 =>
if ¬ v5 = 0 then (cal (f_X3_copyFrom h 30 3) fun h6 =>
cal2 (f_X0_run h6 29 30 a1) fun v7 h8 =>
if a2 = iI 0 then (some (v7, h8))
else if a2 = iI 1 then (some ((gI h8 29 3), h8))
else if a2 = iI 2 then (some ((gI h8 29 4), h8))
else (cal (f_J6_bitCount_0f7a4 h8 ((gI h8 30 5) ^^^ (gI h8 3 5))) fun v9 =>
some (v9, h8)))
else (K2))


def f_X10_way (h : Mem) (a1 : Int32) (a2 : Int32) : Option (Int32 × Mem) :=
cal (f_X3_hasWindow h 3 a1) fun v1 =>
join (cal2 (f_X10_fail h (iI 1)) fun v3 h4 =>
some (v3, h4)) fun (K2 : Option (Int32 × Mem)) =>
if v1 = 0 then (K2)
else (if 0 ≤ a2 then (cal (f_X3_copyFrom h 30 3) fun h5 =>
cal2 (f_X0_squareOnWay h5 29 30 a1 a2) fun v6 h7 =>
if 0 ≤ v6 then (some (v6, h7))
else (cal2 (f_X10_fail h7 (iI 2)) fun v8 h9 =>
some (v8, h9)))
else (K2))


def f_X10_undo (h : Mem) (a1 : Int32) : Option (Int32 × Mem) :=
cal (f_X3_hasWindow h 3 a1) fun v1 =>
if ¬ v1 = 0 then (cal (f_X3_copyFrom h 30 3) fun h2 =>
cal2 (f_X0_runBack h2 29 30 a1) fun v3 h4 =>
if ¬ v3 = (iI 100) then (cal (f_X3_copyFrom h4 3 30) fun h5 =>
some (v3, h5))
else (cal2 (f_X10_fail h4 (iI 3)) fun v6 h7 =>
some (v6, h7)))
else (cal2 (f_X10_fail h (iI 1)) fun v8 h9 =>
some (v8, h9))


def f_X10_text (h : Mem) (a1 : Int32) : Option (Int32 × Mem) :=
cal (f_X10_within h a1 (iI 0) (iI 1)) fun v1 =>
if ¬ v1 = 0 then (cal2 (f_X6_faultIn h 13 50 (gI h 2 4) a1) fun v2 h3 =>
nm (sI h3 2 4 (iI 0)) fun h4 =>
if v2 = (iI (-1)) then (cal (f_X9_lawOf h4 2 a1) fun w5 =>
cal (f_X5_learn h4 w5 35 50 (gI h4 34 1)) fun h6 =>
some ((iI 1), h6))
else (some (((iI (-10)) - v2), h4)))
else (cal2 (f_X10_fail h (iI 1)) fun v7 h8 =>
some (v7, h8))


def f_X10_law (h : Mem) (a1 : Int32) (a2 : Int32) (a3 : Int32) (a4 : Int32) : Option (Int32 × Mem) :=
cal (f_X10_within h a1 (iI 0) (iI 1)) fun v1 =>
if v1 = 0 then (cal2 (f_X10_fail h (iI 1)) fun v2 h3 =>
some (v2, h3))
else (cal (f_X9_lawOf h 2 a1) fun w4 =>
cal2 (f_X5_gives h w4 a2 a3 a4) fun v5 h6 =>
some (v5, h6))

def f_X10_days_k4 (a1 : Int32) : Int32 → Mem → (Int32 → Mem → Option (Int32 × Mem)) → Option (Int32 × Mem) :=
fun (x2 : Int32) (h3 : Mem) (K4 : (Int32 → Mem → Option (Int32 × Mem))) =>
if a1 ≤ x2 then (some ((gI h3 2 7), h3))
else (cal (f_X9_liveDay h3 2 29) fun h5 =>
nm (x2 + iI 1) fun x6 =>
K4 x6 h5)

def f_X10_days (h : Mem) (a1 : Int32) : Option (Int32 × Mem) :=
cal (f_X10_within h a1 (iI 1) (iI 200)) fun v1 =>
if ¬ v1 = 0 then (if ((gI h 2 8) + a1) ≤ (iI 9999) then (lo2 (f_X10_days_k4 a1) 1000000 (iI 0) h)
else (cal2 (f_X10_fail h (iI 3)) fun v7 h8 =>
some (v7, h8)))
else (cal2 (f_X10_fail h (iI 1)) fun v9 h10 =>
some (v9, h10))


def f_X10_voice (h : Mem) (a1 : Int32) (a2 : Int32) (a3 : Int32) : Option (Int32 × Mem) :=
cal (f_X3_hasSquare h 3 a1) fun v1 =>
join (cal2 (f_X10_fail h (iI 1)) fun v3 h4 =>
some (v3, h4)) fun (K2 : Option (Int32 × Mem)) =>
if v1 = 0 then (K2)
else (cal (f_X10_within h a2 (iI 0) (iI 3)) fun v5 =>
if ¬ v5 = 0 then (cal2 (f_X8_speakFor h 3 a1 a2 a3) fun v6 h7 =>
some (v6, h7))
else (K2))

def f_X10_lets_k6 (j2 : Nat) : Int32 → Mem → (Int32 → Mem → Option (Int32 × Mem)) → Option (Int32 × Mem) :=
fun (x4 : Int32) (h5 : Mem) (K6 : (Int32 → Mem → Option (Int32 × Mem))) =>
if (gI h5 (64 + 2 * j2) 1) ≤ x4 then (some (x4, h5))
else (ald h5 ((64 + 2 * j2) + 1) 40 x4 fun v7 =>
cal (f_X3_hasWindow h5 3 v7) fun v8 =>
if v8 = 0 then (some (x4, h5))
else (ald h5 ((64 + 2 * j2) + 1) 40 x4 fun v9 =>
cal2 (f_X9_rayIn h5 2 29 v9) fun v10 h11 =>
nm (x4 + iI 1) fun x12 =>
K6 x12 h11))

def f_X10_lets (h : Mem) (a1 : Int32) : Option (Int32 × Mem) :=
cal (f_X10_hasSheet h a1) fun v1 =>
if ¬ v1 = 0 then (rng a1 4 fun j2 =>
cal (f_X7_isMissing h (64 + 2 * j2)) fun v3 =>
if v3 = 0 then (lo2 (f_X10_lets_k6 j2) 1000000 (iI 0) h)
else (cal2 (f_X10_fail h (iI 2)) fun v13 h14 =>
some (v13, h14)))
else (cal2 (f_X10_fail h (iI 1)) fun v15 h16 =>
some (v15, h16))


def f_X10_image (h : Mem)  : Option (Int32 × Mem) :=
cal (f_X9_copyFrom h 15 2) fun h1 =>
nm (sI h1 0 3 ((gI h1 0 3) + (iI 1))) fun h2 =>
some ((gI h2 0 3), h2)


def f_X10_restore (h : Mem)  : Option (Int32 × Mem) :=
if ¬ (gI h 0 3) = 0 then (cal (f_X9_copyFrom h 2 15) fun h1 =>
some ((gI h1 2 8), h1))
else (cal2 (f_X10_fail h (iI 2)) fun v2 h3 =>
some (v2, h3))

def f_X10_check_k6 (x1 : Int32) : Int32 → Mem → (Int32 → Mem → Option (Int32 × Mem)) → Option (Int32 × Mem) :=
fun (x4 : Int32) (h5 : Mem) (K6 : (Int32 → Mem → Option (Int32 × Mem))) =>
if x1 ≤ x4 then (some ((iI 0), h5))
else (if (Int32.ofNat 20) ≤ x4 then (some ((iI 0), h5))
else (cal (f_X3_standAs h5 30 3) fun h7 =>
cal (f_X3_hasWindow h7 3 x4) fun v8 =>
join (fun (h9 : Mem) =>
some (((iI 1) + x4), h9)) fun (K10 : Mem → Option (Int32 × Mem)) =>
if v8 = 0 then (K10 h7)
else (cal2 (f_X0_run h7 29 30 x4) fun v11 h12 =>
ald h12 14 20 x4 fun v13 =>
if v11 = v13 then (nm (x4 + iI 1) fun x14 =>
K6 x14 h12)
else (K10 h12))))

def f_X10_check (h : Mem)  : Option (Int32 × Mem) :=
nm (gI h 2 6) fun x1 =>
nm (sI h 2 6 (iI 0)) fun h2 =>
cal (f_X3_copyFrom h2 30 3) fun h3 =>
lo2 (f_X10_check_k6 x1) 1000000 (iI 0) h3

def f_X1_suppose_k7 (q1 : Nat) (a2 : Int32) : Int32 → Mem → (Int32 → Mem → Option Mem) → Option Mem :=
fun (x5 : Int32) (h6 : Mem) (K7 : (Int32 → Mem → Option Mem)) =>
cal (f_X3_squares h6 q1) fun v8 =>
if v8 ≤ x5 then (some h6)
else (if (iI 5) ≤ (gI h6 56 3) then (some h6)
else (join (fun (h9 : Mem) =>
nm (x5 + iI 1) fun x11 =>
K7 x11 h9) fun (K10 : Mem → Option Mem) =>
if ¬ ((ushI a2 x5) &&& (iI 1)) = (iI 1) then (K10 h6)
else (ald h6 (q1 + 1) 25 x5 fun v12 =>
cal (f_X3_throwsRays h6 v12) fun v13 =>
if v13 = 0 then (K10 h6)
else (ast h6 62 5 (gI h6 56 3) x5 fun h14 =>
nm (sI h14 56 3 ((gI h14 56 3) + (iI 1))) fun h15 =>
K10 h15))))

def f_X1_suppose (h : Mem) (q1 : Nat) (a2 : Int32) : Option Mem :=
cal (f_X3_copyFrom h 57 q1) fun h1 =>
nm (sI h1 56 4 (gI h1 q1 5)) fun h2 =>
nm (sL h2 56 5 (gL h2 q1 6)) fun h3 =>
nm (sI h3 56 3 (iI 0)) fun h4 =>
lo2 (f_X1_suppose_k7 q1 a2) 1000000 (iI 0) h4

def f_X1_fitting_k4 (q1 : Nat) : Int32 → Int32 → Mem → (Int32 → Int32 → Mem → Option (Int32 × Mem)) → Option (Int32 × Mem) :=
fun (x1 : Int32) (x2 : Int32) (h3 : Mem) (K4 : (Int32 → Int32 → Mem → Option (Int32 × Mem))) =>
cal (f_X1_choices h3) fun v5 =>
if v5 ≤ x2 then (some (x1, h3))
else (cal2 (f_X1_isFitting h3 q1 x2) fun v6 h7 =>
join (fun (x8 : Int32) =>
nm (x1 + x8) fun x10 =>
nm (x2 + iI 1) fun x11 =>
K4 x10 x11 h7) fun (K9 : Int32 → Option (Int32 × Mem)) =>
if v6 = 0 then (K9 (iI 0))
else (K9 (iI 1)))

def f_X1_fitting (h : Mem) (q1 : Nat) : Option (Int32 × Mem) :=
lo3 (f_X1_fitting_k4 q1) 1000000 (iI 0) (iI 0) h

def f_X1_findTelling_k11 (x2 : Int32) : Int32 → Mem → (Int32 → Mem → Option (Int32 × Mem)) → Option (Int32 × Mem) :=
fun (x9 : Int32) (h10 : Mem) (K11 : (Int32 → Mem → Option (Int32 × Mem))) =>
cal (f_X3_windows h10 57) fun v12 =>
if v12 ≤ x9 then (rZ x2 (some (x2, h10)))
else (if (iI 20) ≤ x9 then (rZ x2 (some (x2, h10)))
else (ald h10 63 20 x9 fun v13 =>
cal (f_J6_bitCount_0f7a4 h10 v13) fun v14 =>
join (fun (h15 : Mem) =>
nm (x9 + iI 1) fun x17 =>
K11 x17 h15) fun (K16 : Mem → Option (Int32 × Mem)) =>
if v14 ≤ (gI h10 56 10) then (K16 h10)
else (nm (sI h10 56 10 v14) fun h18 =>
nm (sI h18 56 9 x9) fun h19 =>
K16 h19)))

def f_X1_findTelling_k5 (q1 : Nat) : Int32 → Int32 → Mem → (Int32 → Int32 → Mem → Option (Int32 × Mem)) → Option (Int32 × Mem) :=
fun (x2 : Int32) (x3 : Int32) (h4 : Mem) (K5 : (Int32 → Int32 → Mem → Option (Int32 × Mem))) =>
cal (f_X1_choices h4) fun v6 =>
if v6 ≤ x3 then (nm (sI h4 56 9 (iI 0)) fun h7 =>
nm (sI h7 56 10 (iI 0)) fun h8 =>
lo2 (f_X1_findTelling_k11 x2) 1000000 (iI 0) h8)
else (cal2 (f_X1_isFitting h4 q1 x3) fun v20 h21 =>
join (fun (x22 : Int32) (h23 : Mem) =>
nm (x3 + iI 1) fun x25 =>
K5 x22 x25 h23) fun (K24 : Int32 → Mem → Option (Int32 × Mem)) =>
if v20 = 0 then (K24 x2 h21)
else (cal (f_X1_noteOuts h21) fun h26 =>
K24 (iI 1) h26))

def f_X1_findTelling (h : Mem) (q1 : Nat) : Option (Int32 × Mem) :=
cal (f_J7_fill_53178 h 63 20 (iI 0)) fun h1 =>
lo3 (f_X1_findTelling_k5 q1) 1000000 (iI 0) (iI 0) h1

def f_X2_raysRound_k4 (a2 : Int32) (q1 : Nat) : Int32 → Mem → (Int32 → Mem → Option (Int32 × Mem)) → Option (Int32 × Mem) :=
fun (x2 : Int32) (h3 : Mem) (K4 : (Int32 → Mem → Option (Int32 × Mem))) =>
if (iI 400) < x2 then (some ((iI 0), h3))
else (cal2 (f_X0_run h3 44 40 a2) fun v5 h6 =>
cal (f_X3_standsAs h6 40 q1) fun v7 =>
if v7 = 0 then (nm (x2 + iI 1) fun x8 =>
K4 x8 h6)
else (some (x2, h6)))

def f_X2_raysRound (h : Mem) (q1 : Nat) (a2 : Int32) : Option (Int32 × Mem) :=
cal (f_X3_copyFrom h 40 q1) fun h1 =>
lo2 (f_X2_raysRound_k4 a2 q1) 1000000 (iI 1) h1

def f_X2_raysBack_k3 (q1 : Nat) (q2 : Nat) : Int32 → Mem → (Int32 → Mem → Option (Int32 × Mem)) → Option (Int32 × Mem) :=
fun (x1 : Int32) (h2 : Mem) (K3 : (Int32 → Mem → Option (Int32 × Mem))) =>
if (iI 3) < x1 then (some ((iI (-1)), h2))
else (cal (f_X3_copyFrom h2 40 q1) fun h4 =>
cal2 (g_LEADS 12 0 (iI 0) x1 q2 h4) fun v5 h6 =>
if v5 = 0 then (nm (x1 + iI 1) fun x7 =>
K3 x7 h6)
else (some (x1, h6)))

def f_X2_raysBack (h : Mem) (q1 : Nat) (q2 : Nat) : Option (Int32 × Mem) :=
lo2 (f_X2_raysBack_k3 q1 q2) 1000000 (iI 0) h

def f_X2_standings_k9 (x4 : Int32) (K6 : Int32 → Mem → Option (Int32 × Mem)) : Int32 → Mem → (Int32 → Mem → Option (Int32 × Mem)) → Option (Int32 × Mem) :=
fun (x7 : Int32) (h8 : Mem) (K9 : (Int32 → Mem → Option (Int32 × Mem))) =>
cal (f_X3_windows h8 40) fun v10 =>
join (nm (x4 + iI 1) fun x12 =>
K6 x12 h8) fun (K11 : Option (Int32 × Mem)) =>
if v10 ≤ x7 then (K11)
else (if (iI 200) < (gI h8 39 7) then (K11)
else (ald h8 48 201 x4 fun v13 =>
aldL h8 49 201 x4 fun w14 =>
cal (f_X3_stand h8 40 v13 w14) fun h15 =>
cal2 (f_X0_run h15 44 40 x7) fun v16 h17 =>
cal (f_X2_note h17) fun h18 =>
nm (x7 + iI 1) fun x19 =>
K9 x19 h18))

def f_X2_standings_k6  : Int32 → Mem → (Int32 → Mem → Option (Int32 × Mem)) → Option (Int32 × Mem) :=
fun (x4 : Int32) (h5 : Mem) (K6 : (Int32 → Mem → Option (Int32 × Mem))) =>
if (iI 200) < x4 then (some ((gI h5 39 7), h5))
else (if (gI h5 39 7) ≤ x4 then (some ((gI h5 39 7), h5))
else (lo2 (f_X2_standings_k9 x4 K6) 1000000 (iI 0) h5))

def f_X2_standings (h : Mem) (q1 : Nat) : Option (Int32 × Mem) :=
cal (f_X3_copyFrom h 40 q1) fun h1 =>
nm (sI h1 39 7 (iI 0)) fun h2 =>
cal (f_X2_note h2) fun h3 =>
lo2 f_X2_standings_k6 1000000 (iI 0) h3

def f_X2_findLongest_k6 (q1 : Nat) : Int32 → Mem → (Int32 → Mem → Option Mem) → Option Mem :=
fun (x4 : Int32) (h5 : Mem) (K6 : (Int32 → Mem → Option Mem)) =>
cal (f_X3_windows h5 q1) fun v7 =>
if v7 ≤ x4 then (some h5)
else (cal (f_X3_standAs h5 40 q1) fun h8 =>
cal2 (f_X0_run h8 44 40 x4) fun v9 h10 =>
join (fun (h11 : Mem) =>
nm (x4 + iI 1) fun x13 =>
K6 x13 h11) fun (K12 : Mem → Option Mem) =>
if (gI h10 44 3) ≤ (gI h10 39 9) then (K12 h10)
else (nm (sI h10 39 9 (gI h10 44 3)) fun h14 =>
nm (sI h14 39 8 x4) fun h15 =>
K12 h15))

def f_X2_findLongest (h : Mem) (q1 : Nat) : Option Mem :=
nm (sI h 39 8 (iI 0)) fun h1 =>
nm (sI h1 39 9 (iI 0)) fun h2 =>
cal (f_X3_copyFrom h2 40 q1) fun h3 =>
lo2 (f_X2_findLongest_k6 q1) 1000000 (iI 0) h3

def f_X4_leadByOne_k3 (q1 : Nat) : Int32 → Mem → (Int32 → Mem → Option (Int32 × Mem)) → Option (Int32 × Mem) :=
fun (x1 : Int32) (h2 : Mem) (K3 : (Int32 → Mem → Option (Int32 × Mem))) =>
cal (f_X3_squares h2 (q1 + 1)) fun v4 =>
if v4 ≤ x1 then (if (gI h2 50 4) ≤ 0 then (rZ (iI 0) (some ((iI 0), h2)))
else (rZ (iI 1) (some ((iI 1), h2))))
else (cal (f_X3_handCan h2 (q1 + 1) x1) fun v5 =>
join (fun (h6 : Mem) =>
nm (x1 + iI 1) fun x8 =>
K3 x8 h6) fun (K7 : Mem → Option (Int32 × Mem)) =>
if v5 = 0 then (K7 h2)
else (cal2 (f_X4_isLit h2 (q1 + 1) (shlI (iI 1) x1)) fun v9 h10 =>
if v9 = 0 then (K7 h10)
else (cal2 (f_X9_handCost h10 q1 x1) fun v11 h12 =>
cal (f_X4_offer h12 (iI 1) (((iI 100) * x1) + x1) v11) fun h13 =>
K7 h13)))

def f_X4_leadByOne (h : Mem) (q1 : Nat) : Option (Int32 × Mem) :=
lo2 (f_X4_leadByOne_k3 q1) 1000000 (iI 0) h

def f_X4_leadByTwo_k8 (q1 : Nat) (x1 : Int32) (K3 : Int32 → Mem → Option (Int32 × Mem)) : Int32 → Mem → (Int32 → Mem → Option (Int32 × Mem)) → Option (Int32 × Mem) :=
fun (x6 : Int32) (h7 : Mem) (K8 : (Int32 → Mem → Option (Int32 × Mem))) =>
cal (f_X3_squares h7 (q1 + 1)) fun v9 =>
join (nm (x1 + iI 1) fun x11 =>
K3 x11 h7) fun (K10 : Option (Int32 × Mem)) =>
if v9 ≤ x6 then (K10)
else (cal (f_X3_handCan h7 (q1 + 1) x1) fun v12 =>
if v12 = 0 then (K10)
else (cal (f_X3_handCan h7 (q1 + 1) x6) fun v13 =>
join (fun (h14 : Mem) =>
nm (x6 + iI 1) fun x16 =>
K8 x16 h14) fun (K15 : Mem → Option (Int32 × Mem)) =>
if v13 = 0 then (K15 h7)
else (cal2 (f_X4_isLit h7 (q1 + 1) ((shlI (iI 1) x1) ||| (shlI (iI 1) x6))) fun v17 h18 =>
if v17 = 0 then (K15 h18)
else (cal2 (f_X9_handCost h18 q1 x1) fun v19 h20 =>
cal2 (f_X9_handCost h20 q1 x6) fun v21 h22 =>
cal (f_X4_offer h22 (iI 2) (((iI 100) * x1) + x6) (v19 + v21)) fun h23 =>
K15 h23))))

def f_X4_leadByTwo_k3 (q1 : Nat) : Int32 → Mem → (Int32 → Mem → Option (Int32 × Mem)) → Option (Int32 × Mem) :=
fun (x1 : Int32) (h2 : Mem) (K3 : (Int32 → Mem → Option (Int32 × Mem))) =>
cal (f_X3_squares h2 (q1 + 1)) fun v4 =>
if v4 ≤ x1 then (if (gI h2 50 4) ≤ 0 then (rZ (iI 0) (some ((iI 0), h2)))
else (rZ (iI 1) (some ((iI 1), h2))))
else (nm (x1 + (iI 1)) fun x5 =>
lo2 (f_X4_leadByTwo_k8 q1 x1 K3) 1000000 x5 h2)

def f_X4_leadByTwo (h : Mem) (q1 : Nat) : Option (Int32 × Mem) :=
lo2 (f_X4_leadByTwo_k3 q1) 1000000 (iI 0) h


def f_X10_round (h : Mem) (a1 : Int32) : Option (Int32 × Mem) :=
cal (f_X3_hasWindow h 3 a1) fun v1 =>
if ¬ v1 = 0 then (cal2 (f_X2_raysRound h 3 a1) fun v2 h3 =>
if (iI 1) ≤ v2 then (some (v2, h3))
else (cal2 (f_X10_fail h3 (iI 2)) fun v4 h5 =>
some (v4, h5)))
else (cal2 (f_X10_fail h (iI 1)) fun v6 h7 =>
some (v6, h7))


def f_X10_back (h : Mem) (a1 : Int32) : Option (Int32 × Mem) :=
cal (f_X10_within h a1 (iI (-1)) (iI 2)) fun v1 =>
if ¬ v1 = 0 then (join (cal2 (f_X10_fail h (iI 3)) fun v3 h4 =>
some (v3, h4)) fun (K2 : Option (Int32 × Mem)) =>
if (gI h 0 3) = 0 then (K2)
else (cal (f_X3_isSizedAs h 3 16) fun v5 =>
if ¬ v5 = 0 then (cal2 (f_X2_raysBack h 3 16) fun v6 h7 =>
join (cal2 (f_X10_fail h7 (iI 2)) fun v9 h10 =>
some (v9, h10)) fun (K8 : Option (Int32 × Mem)) =>
if v6 < 0 then (K8)
else (if a1 < v6 then (if 0 ≤ a1 then (ald h7 45 3 a1 fun v11 =>
some (v11, h7))
else (some (v6, h7)))
else (K8)))
else (K2)))
else (cal2 (f_X10_fail h (iI 1)) fun v12 h13 =>
some (v12, h13))


def f_X10_had (h : Mem)  : Option (Int32 × Mem) :=
cal2 (f_X2_standings h 3) fun v1 h2 =>
if v1 ≤ (iI 200) then (some (v1, h2))
else (cal2 (f_X10_fail h2 (iI 4)) fun v3 h4 =>
some (v3, h4))

def f_X10_odds_k3 (h : Mem) (a1 : Int32) (a2 : Int32) (a4 : Int32) (a3 : Int32) : Int32 → Option (Int64 × Mem) :=
fun (x2 : Int32) =>
cal (f_X3_hasMask h 3 a1) fun v4 =>
join (cal2 (f_X10_fail h (iI 1)) fun v6 h7 =>
some ((Int32.toInt64 v6), h7)) fun (K5 : Option (Int64 × Mem)) =>
if v4 = 0 then (K5)
else (cal (f_X3_hasWindow h 3 a2) fun v8 =>
if v8 = 0 then (K5)
else (if x2 = 0 then (K5)
else (cal (f_X10_within h a4 (iI 0) (iI 1)) fun v9 =>
if ¬ v9 = 0 then (cal (f_X1_suppose h 3 a1) fun h10 =>
cal (f_X1_weigh h10 a2 a3) fun h11 =>
if ¬ a4 = 0 then (some ((Int32.toInt64 (gI h11 56 8)), h11))
else (some ((Int32.toInt64 (gI h11 56 7)), h11)))
else (K5))))

def f_X10_odds (h : Mem) (a1 : Int32) (a2 : Int32) (a3 : Int32) (a4 : Int32) : Option (Int64 × Mem) :=
cal (f_X3_hasWindow h 3 a3) fun v1 =>
join ((f_X10_odds_k3 h a1 a2 a4 a3)) fun (K3 : Int32 → Option (Int64 × Mem)) =>
join (K3 (iI 1)) fun (K12 : Option (Int64 × Mem)) =>
if ¬ v1 = 0 then (K12)
else (if ¬ a3 = (iI 100) then (K3 (iI 0))
else (K12))


def f_X10_fits (h : Mem) (a1 : Int32) (a2 : Int32) : Option (Int32 × Mem) :=
cal (f_X3_hasMask h 3 a1) fun v1 =>
join (cal2 (f_X10_fail h (iI 1)) fun v3 h4 =>
some (v3, h4)) fun (K2 : Option (Int32 × Mem)) =>
if v1 = 0 then (K2)
else (cal (f_X10_hasSheet h a2) fun v5 =>
if ¬ v5 = 0 then (rng a2 4 fun j6 =>
cal (f_X1_canRead h (64 + 2 * j6) 3) fun v7 =>
if ¬ v7 = 0 then (cal (f_X1_suppose h 3 a1) fun h8 =>
cal2 (f_X1_fitting h8 (64 + 2 * j6)) fun v9 h10 =>
some (v9, h10))
else (cal2 (f_X10_fail h (iI 2)) fun v11 h12 =>
some (v11, h12)))
else (K2))


def f_X10_tells (h : Mem) (a1 : Int32) (a2 : Int32) (a3 : Int32) : Option (Int32 × Mem) :=
cal (f_X3_hasMask h 3 a1) fun v1 =>
join (cal2 (f_X10_fail h (iI 1)) fun v3 h4 =>
some (v3, h4)) fun (K2 : Option (Int32 × Mem)) =>
if v1 = 0 then (K2)
else (cal (f_X10_hasSheet h a2) fun v5 =>
if v5 = 0 then (K2)
else (cal (f_X10_within h a3 (iI 0) (iI 1)) fun v6 =>
if ¬ v6 = 0 then (rng a2 4 fun j7 =>
cal (f_X1_canRead h (64 + 2 * j7) 3) fun v8 =>
if ¬ v8 = 0 then (cal (f_X1_suppose h 3 a1) fun h9 =>
cal2 (f_X1_findTelling h9 (64 + 2 * j7)) fun v10 h11 =>
if ¬ v10 = 0 then (if ¬ a3 = 0 then (some ((gI h11 56 10), h11))
else (some ((gI h11 56 9), h11)))
else (cal2 (f_X10_fail h11 (iI 2)) fun v12 h13 =>
some (v12, h13)))
else (cal2 (f_X10_fail h (iI 2)) fun v14 h15 =>
some (v14, h15)))
else (K2)))


def f_X10_longest (h : Mem) (a1 : Int32) : Option (Int32 × Mem) :=
cal (f_X10_within h a1 (iI 0) (iI 1)) fun v1 =>
if ¬ v1 = 0 then (cal (f_X2_findLongest h 3) fun h2 =>
if ¬ a1 = 0 then (some ((gI h2 39 9), h2))
else (some ((gI h2 39 8), h2)))
else (cal2 (f_X10_fail h (iI 1)) fun v3 h4 =>
some (v3, h4))


def f_X4_lead (h : Mem) (q1 : Nat) (a2 : Int32) (a3 : Int32) : Option (Int32 × Mem) :=
nm (sI h 50 2 a2) fun h1 =>
nm (sI h1 50 3 a3) fun h2 =>
nm (sI h2 50 4 (iI 0)) fun h3 =>
nm (sI h3 50 5 (iI (-1))) fun h4 =>
nm (sI h4 50 6 (iI 0)) fun h5 =>
cal (f_X3_copyFrom h5 51 (q1 + 1)) fun h6 =>
cal2 (f_X4_isLit h6 (q1 + 1) (iI 0)) fun v7 h8 =>
join (fun (h9 : Mem) =>
rZ (iI 1) (some ((iI 1), h9))) fun (K10 : Mem → Option (Int32 × Mem)) =>
if ¬ v7 = 0 then (K10 h8)
else (cal2 (f_X4_leadByOne h8 q1) fun v11 h12 =>
if ¬ v11 = 0 then (K10 h12)
else (cal2 (f_X4_leadByTwo h12 q1) fun v13 h14 =>
if v13 = 0 then (rZ (iI 0) (some ((iI 0), h14)))
else (K10 h14)))


def f_X10_throne (h : Mem) (a1 : Int32) (a2 : Int32) (a3 : Int32) : Option (Int32 × Mem) :=
cal (f_X3_hasSquare h 3 a1) fun v1 =>
join (cal2 (f_X10_fail h (iI 1)) fun v3 h4 =>
some (v3, h4)) fun (K2 : Option (Int32 × Mem)) =>
if v1 = 0 then (K2)
else (cal (f_X3_hasWindow h 3 a2) fun v5 =>
if v5 = 0 then (K2)
else (cal (f_X10_within h a3 (iI 0) (iI 2)) fun v6 =>
if ¬ v6 = 0 then (cal2 (f_X4_lead h 2 a1 a2) fun v7 h8 =>
if ¬ v7 = 0 then (if ¬ a3 = 0 then (if ¬ a3 = (iI 1) then (some ((gI h8 50 6), h8))
else (some ((gI h8 50 5), h8)))
else (some ((gI h8 50 4), h8)))
else (cal2 (f_X10_fail h8 (iI 2)) fun v9 h10 =>
some (v9, h10)))
else (K2)))

