section VRows2
variable {M : MI} {d pc : Nat} {L L' : List (Nat × Value)} {st : List Value} {n : Nat} {S : Nat → Shp} {g : Hp} {k z : Nat} {P : Pst}
theorem v_iadd {x y : Int} (j : Nat) (hd : M.2.2.2[j]? = some (pc, .iadd, 1)) (h : V M d (pc + 1) L (I_ (x + y) :: st) n S g k z P) : V M d pc L (I_ y :: I_ x :: st) n S g k z P :=
  v_go h fun p l e R s m args below meth c b D dA Q C H locs ls hls w => lv_iadd C.1 C.2.1 (C.dec hd) (by rw [← Int32.ofInt_add]; exact w)
theorem v_ladd {x y : Int} (j : Nat) (hd : M.2.2.2[j]? = some (pc, .ladd, 1)) (h : V M d (pc + 1) L (L_ (x + y) :: st) n S g k z P) : V M d pc L (L_ y :: L_ x :: st) n S g k z P :=
  v_go h fun p l e R s m args below meth c b D dA Q C H locs ls hls w => lv_ladd C.1 C.2.1 (C.dec hd) (by rw [← Int64.ofInt_add]; exact w)
theorem v_isub {x y : Int} (j : Nat) (hd : M.2.2.2[j]? = some (pc, .isub, 1)) (h : V M d (pc + 1) L (I_ (x - y) :: st) n S g k z P) : V M d pc L (I_ y :: I_ x :: st) n S g k z P :=
  v_go h fun p l e R s m args below meth c b D dA Q C H locs ls hls w => lv_isub C.1 C.2.1 (C.dec hd) (by rw [← Int32.ofInt_sub]; exact w)
theorem v_lsub {x y : Int} (j : Nat) (hd : M.2.2.2[j]? = some (pc, .lsub, 1)) (h : V M d (pc + 1) L (L_ (x - y) :: st) n S g k z P) : V M d pc L (L_ y :: L_ x :: st) n S g k z P :=
  v_go h fun p l e R s m args below meth c b D dA Q C H locs ls hls w => lv_lsub C.1 C.2.1 (C.dec hd) (by rw [← Int64.ofInt_sub]; exact w)
theorem v_imul {x y : Int} (j : Nat) (hd : M.2.2.2[j]? = some (pc, .imul, 1)) (h : V M d (pc + 1) L (I_ (x * y) :: st) n S g k z P) : V M d pc L (I_ y :: I_ x :: st) n S g k z P :=
  v_go h fun p l e R s m args below meth c b D dA Q C H locs ls hls w => lv_imul C.1 C.2.1 (C.dec hd) (by rw [← Int32.ofInt_mul]; exact w)
theorem v_lmul {x y : Int} (j : Nat) (hd : M.2.2.2[j]? = some (pc, .lmul, 1)) (h : V M d (pc + 1) L (L_ (x * y) :: st) n S g k z P) : V M d pc L (L_ y :: L_ x :: st) n S g k z P :=
  v_go h fun p l e R s m args below meth c b D dA Q C H locs ls hls w => lv_lmul C.1 C.2.1 (C.dec hd) (by rw [← Int64.ofInt_mul]; exact w)
theorem v_lneg {x : Int} (j : Nat) (hd : M.2.2.2[j]? = some (pc, .lneg, 1)) (h : V M d (pc + 1) L (L_ (-x) :: st) n S g k z P) : V M d pc L (L_ x :: st) n S g k z P :=
  v_go h fun p l e R s m args below meth c b D dA Q C H locs ls hls w => lv_lneg C.1 C.2.1 (C.dec hd) (by rw [← Int64.ofInt_neg]; exact w)
theorem q3_div {x y : Int} (hx : i3 x) (hy : i3 y) : Int32.ofInt x / Int32.ofInt y = Int32.ofInt (x.tdiv y) := by
  apply Int32.toInt_inj.mp
  rw [Int32.toInt_div, i3_of hx, i3_of hy, Int32.toInt_ofInt]
theorem q6_div {x y : Int} (hx : i6 x) (hy : i6 y) : Int64.ofInt x / Int64.ofInt y = Int64.ofInt (x.tdiv y) := by
  apply Int64.toInt_inj.mp
  rw [Int64.toInt_div, i6_of hx, i6_of hy, Int64.toInt_ofInt]
theorem q_tmod (x y : Int) : x - x.tdiv y * y = x.tmod y := by
  have h := Int.tmod_add_mul_tdiv x y
  rw [Int.mul_comm] at h
  omega
theorem q3_rem {x y : Int} (hx : i3 x) (hy : i3 y) : Int32.ofInt x - Int32.ofInt x / Int32.ofInt y * Int32.ofInt y = Int32.ofInt (x.tmod y) := by
  rw [q3_div hx hy, ← Int32.ofInt_mul, ← Int32.ofInt_sub, q_tmod]
theorem q6_rem {x y : Int} (hx : i6 x) (hy : i6 y) : Int64.ofInt x - Int64.ofInt x / Int64.ofInt y * Int64.ofInt y = Int64.ofInt (x.tmod y) := by
  rw [q6_div hx hy, ← Int64.ofInt_mul, ← Int64.ofInt_sub, q_tmod]
theorem q3_ne {y : Int} (hy : i3 y) (h0 : y ≠ 0) : ¬ Int32.ofInt y = 0 := fun h => h0 ((i3_eq hy i3_0).mp h)
theorem i6_0 : i6 0 := by decide
theorem q6_ne {y : Int} (hy : i6 y) (h0 : y ≠ 0) : ¬ Int64.ofInt y = 0 := fun h => h0 ((i6_eq hy i6_0).mp h)
theorem v_idiv {x y : Int} (j : Nat) (hd : M.2.2.2[j]? = some (pc, .idiv, 1)) (hx : i3 x) (hy : i3 y) (h0 : y ≠ 0) (h : V M d (pc + 1) L (I_ (x.tdiv y) :: st) n S g k z P) : V M d pc L (I_ y :: I_ x :: st) n S g k z P :=
  v_go h fun p l e R s m args below meth c b D dA Q C H locs ls hls w => lv_idiv C.1 C.2.1 (C.dec hd) (q3_ne hy h0) (by rw [q3_div hx hy]; exact w)
theorem v_irem {x y : Int} (j : Nat) (hd : M.2.2.2[j]? = some (pc, .irem, 1)) (hx : i3 x) (hy : i3 y) (h0 : y ≠ 0) (h : V M d (pc + 1) L (I_ (x.tmod y) :: st) n S g k z P) : V M d pc L (I_ y :: I_ x :: st) n S g k z P :=
  v_go h fun p l e R s m args below meth c b D dA Q C H locs ls hls w => lv_irem C.1 C.2.1 (C.dec hd) (q3_ne hy h0) (by rw [q3_rem hx hy]; exact w)
theorem v_ldiv {x y : Int} (j : Nat) (hd : M.2.2.2[j]? = some (pc, .ldiv, 1)) (hx : i6 x) (hy : i6 y) (h0 : y ≠ 0) (h : V M d (pc + 1) L (L_ (x.tdiv y) :: st) n S g k z P) : V M d pc L (L_ y :: L_ x :: st) n S g k z P :=
  v_go h fun p l e R s m args below meth c b D dA Q C H locs ls hls w => lv_ldiv C.1 C.2.1 (C.dec hd) (q6_ne hy h0) (by rw [q6_div hx hy]; exact w)
theorem v_lrem {x y : Int} (j : Nat) (hd : M.2.2.2[j]? = some (pc, .lrem, 1)) (hx : i6 x) (hy : i6 y) (h0 : y ≠ 0) (h : V M d (pc + 1) L (L_ (x.tmod y) :: st) n S g k z P) : V M d pc L (L_ y :: L_ x :: st) n S g k z P :=
  v_go h fun p l e R s m args below meth c b D dA Q C H locs ls hls w => lv_lrem C.1 C.2.1 (C.dec hd) (q6_ne hy h0) (by rw [q6_rem hx hy]; exact w)
theorem cv_c1 (b : Nat) {v : Value} (h : ¬ v.category = 2) : (cv b v).category = 1 := by
  cases v with
  | ref a => cases a <;> rfl
  | long x => exact absurd rfl h
  | double x => exact absurd rfl h
  | _ => rfl
def and3 (x y : Int) : Int := (Int32.ofInt x &&& Int32.ofInt y).toInt
def or3 (x y : Int) : Int := (Int32.ofInt x ||| Int32.ofInt y).toInt
def xor3 (x y : Int) : Int := (Int32.ofInt x ^^^ Int32.ofInt y).toInt
def shl3 (x y : Int) : Int := (Int32.ofInt x <<< (Int32.ofInt y &&& 31)).toInt
def shr3 (x y : Int) : Int := (Int32.ofInt x >>> (Int32.ofInt y &&& 31)).toInt
def and6 (x y : Int) : Int := (Int64.ofInt x &&& Int64.ofInt y).toInt
def or6 (x y : Int) : Int := (Int64.ofInt x ||| Int64.ofInt y).toInt
def xor6 (x y : Int) : Int := (Int64.ofInt x ^^^ Int64.ofInt y).toInt
def shl6 (x y : Int) : Int := (Int64.ofInt x <<< ((Int32.ofInt y).toInt64 &&& 63)).toInt
theorem v_iand {x y : Int} (j : Nat) (hd : M.2.2.2[j]? = some (pc, .iand, 1)) (h : V M d (pc + 1) L (I_ (and3 x y) :: st) n S g k z P) : V M d pc L (I_ y :: I_ x :: st) n S g k z P :=
  v_go h fun p l e R s m args below meth c b D dA Q C H locs ls hls w => lv_iand C.1 C.2.1 (C.dec hd) (by rw [← Int32.ofInt_toInt (Int32.ofInt x &&& Int32.ofInt y)]; exact w)
theorem v_ior {x y : Int} (j : Nat) (hd : M.2.2.2[j]? = some (pc, .ior, 1)) (h : V M d (pc + 1) L (I_ (or3 x y) :: st) n S g k z P) : V M d pc L (I_ y :: I_ x :: st) n S g k z P :=
  v_go h fun p l e R s m args below meth c b D dA Q C H locs ls hls w => lv_ior C.1 C.2.1 (C.dec hd) (by rw [← Int32.ofInt_toInt (Int32.ofInt x ||| Int32.ofInt y)]; exact w)
theorem v_ixor {x y : Int} (j : Nat) (hd : M.2.2.2[j]? = some (pc, .ixor, 1)) (h : V M d (pc + 1) L (I_ (xor3 x y) :: st) n S g k z P) : V M d pc L (I_ y :: I_ x :: st) n S g k z P :=
  v_go h fun p l e R s m args below meth c b D dA Q C H locs ls hls w => lv_ixor C.1 C.2.1 (C.dec hd) (by rw [← Int32.ofInt_toInt (Int32.ofInt x ^^^ Int32.ofInt y)]; exact w)
theorem v_ishl {x y : Int} (j : Nat) (hd : M.2.2.2[j]? = some (pc, .ishl, 1)) (h : V M d (pc + 1) L (I_ (shl3 x y) :: st) n S g k z P) : V M d pc L (I_ y :: I_ x :: st) n S g k z P :=
  v_go h fun p l e R s m args below meth c b D dA Q C H locs ls hls w => lv_ishl C.1 C.2.1 (C.dec hd) (by rw [← Int32.ofInt_toInt (Int32.ofInt x <<< (Int32.ofInt y &&& 31))]; exact w)
theorem v_ishr {x y : Int} (j : Nat) (hd : M.2.2.2[j]? = some (pc, .ishr, 1)) (h : V M d (pc + 1) L (I_ (shr3 x y) :: st) n S g k z P) : V M d pc L (I_ y :: I_ x :: st) n S g k z P :=
  v_go h fun p l e R s m args below meth c b D dA Q C H locs ls hls w => lv_ishr C.1 C.2.1 (C.dec hd) (by rw [← Int32.ofInt_toInt (Int32.ofInt x >>> (Int32.ofInt y &&& 31))]; exact w)
theorem v_land {x y : Int} (j : Nat) (hd : M.2.2.2[j]? = some (pc, .land, 1)) (h : V M d (pc + 1) L (L_ (and6 x y) :: st) n S g k z P) : V M d pc L (L_ y :: L_ x :: st) n S g k z P :=
  v_go h fun p l e R s m args below meth c b D dA Q C H locs ls hls w => lv_land C.1 C.2.1 (C.dec hd) (by rw [← Int64.ofInt_toInt (Int64.ofInt x &&& Int64.ofInt y)]; exact w)
theorem v_lor {x y : Int} (j : Nat) (hd : M.2.2.2[j]? = some (pc, .lor, 1)) (h : V M d (pc + 1) L (L_ (or6 x y) :: st) n S g k z P) : V M d pc L (L_ y :: L_ x :: st) n S g k z P :=
  v_go h fun p l e R s m args below meth c b D dA Q C H locs ls hls w => lv_lor C.1 C.2.1 (C.dec hd) (by rw [← Int64.ofInt_toInt (Int64.ofInt x ||| Int64.ofInt y)]; exact w)
theorem v_lxor {x y : Int} (j : Nat) (hd : M.2.2.2[j]? = some (pc, .lxor, 1)) (h : V M d (pc + 1) L (L_ (xor6 x y) :: st) n S g k z P) : V M d pc L (L_ y :: L_ x :: st) n S g k z P :=
  v_go h fun p l e R s m args below meth c b D dA Q C H locs ls hls w => lv_lxor C.1 C.2.1 (C.dec hd) (by rw [← Int64.ofInt_toInt (Int64.ofInt x ^^^ Int64.ofInt y)]; exact w)
theorem v_lshl {x y : Int} (j : Nat) (hd : M.2.2.2[j]? = some (pc, .lshl, 1)) (h : V M d (pc + 1) L (L_ (shl6 x y) :: st) n S g k z P) : V M d pc L (I_ y :: L_ x :: st) n S g k z P :=
  v_go h fun p l e R s m args below meth c b D dA Q C H locs ls hls w => lv_lshl C.1 C.2.1 (C.dec hd) (Int64.ofInt_toInt _).symm w
theorem v_i2l {x : Int} (j : Nat) (hd : M.2.2.2[j]? = some (pc, .i2l, 1)) (hx : i3 x) (h : V M d (pc + 1) L (L_ x :: st) n S g k z P) : V M d pc L (I_ x :: st) n S g k z P :=
  v_go h fun p l e R s m args below meth c b D dA Q C H locs ls hls w => lv_i2l C.1 C.2.1 (C.dec hd) (by apply Int64.toInt_inj.mp; rw [Int32.toInt_toInt64, i3_of hx, i6_of ⟨by have := hx.1; omega, by have := hx.2; omega⟩]) w
theorem v_l2i {x : Int} (j : Nat) (hd : M.2.2.2[j]? = some (pc, .l2i, 1)) (h : V M d (pc + 1) L (I_ x :: st) n S g k z P) : V M d pc L (L_ x :: st) n S g k z P :=
  v_go h fun p l e R s m args below meth c b D dA Q C H locs ls hls w => lv_l2i C.1 C.2.1 (C.dec hd) Int64.toInt32_ofInt w
def c2s (x : Int) : Int := (Int32.ofInt x).toInt16.toInt
def c2b (x : Int) : Int := (Int32.ofInt x).toInt8.toInt
def c2c (x : Int) : Int := ((Int32.ofInt x).toUInt32 % 65536).toInt32.toInt
theorem v_i2s {x : Int} (j : Nat) (hd : M.2.2.2[j]? = some (pc, .i2s, 1)) (h : V M d (pc + 1) L (I_ (c2s x) :: st) n S g k z P) : V M d pc L (I_ x :: st) n S g k z P :=
  v_go h fun p l e R s m args below meth c b D dA Q C H locs ls hls w => lv_i2s C.1 C.2.1 (C.dec hd) (by unfold c2s; rw [← Int16.toInt_toInt32, Int32.ofInt_toInt]) w
theorem v_i2b {x : Int} (j : Nat) (hd : M.2.2.2[j]? = some (pc, .i2b, 1)) (h : V M d (pc + 1) L (I_ (c2b x) :: st) n S g k z P) : V M d pc L (I_ x :: st) n S g k z P :=
  v_go h fun p l e R s m args below meth c b D dA Q C H locs ls hls w => lv_i2b C.1 C.2.1 (C.dec hd) (by unfold c2b; rw [← Int8.toInt_toInt32, Int32.ofInt_toInt]) w
theorem v_i2c {x : Int} (j : Nat) (hd : M.2.2.2[j]? = some (pc, .i2c, 1)) (h : V M d (pc + 1) L (I_ (c2c x) :: st) n S g k z P) : V M d pc L (I_ x :: st) n S g k z P :=
  v_go h fun p l e R s m args below meth c b D dA Q C H locs ls hls w => lv_i2c C.1 C.2.1 (C.dec hd) (Int32.ofInt_toInt _).symm w
theorem v_icmp_eq {x y : Int} {off : Int} {tgt : Nat} (j : Nat) (hd : M.2.2.2[j]? = some (pc, .if_icmp .eq off, 3)) (ht : (pc : Int) + off = (tgt : Int)) (hx : i3 x) (hy : i3 y) (h1 : x = y → V M d tgt L st n S g k z P) (h2 : x ≠ y → V M d (pc + 3) L st n S g k z P) : V M d pc L (I_ y :: I_ x :: st) n S g k z P :=
  fun p l e R s m args below meth c b D dA Q C hq H locs ls hl hP hS => lv_icmp_eq C.1 C.2.1 (C.dec hd) ht (fun q => h1 ((i3_eq hx hy).mp q) p l e R s m args below meth c b D dA Q C hq H locs ls hl hP hS) (fun q => h2 (fun r => q ((i3_eq hx hy).mpr r)) p l e R s m args below meth c b D dA Q C hq H locs ls hl hP hS)
theorem v_if_eq {x : Int} {off : Int} {tgt : Nat} (j : Nat) (hd : M.2.2.2[j]? = some (pc, .ifCond .eq off, 3)) (ht : (pc : Int) + off = (tgt : Int)) (hx : i3 x) (h1 : x = 0 → V M d tgt L st n S g k z P) (h2 : x ≠ 0 → V M d (pc + 3) L st n S g k z P) : V M d pc L (I_ x :: st) n S g k z P :=
  fun p l e R s m args below meth c b D dA Q C hq H locs ls hl hP hS => lv_if_eq C.1 C.2.1 (C.dec hd) ht (fun q => h1 ((i3_eq hx i3_0).mp q) p l e R s m args below meth c b D dA Q C hq H locs ls hl hP hS) (fun q => h2 (fun r => q ((i3_eq hx i3_0).mpr r)) p l e R s m args below meth c b D dA Q C hq H locs ls hl hP hS)
theorem v_icmp_ne {x y : Int} {off : Int} {tgt : Nat} (j : Nat) (hd : M.2.2.2[j]? = some (pc, .if_icmp .ne off, 3)) (ht : (pc : Int) + off = (tgt : Int)) (hx : i3 x) (hy : i3 y) (h1 : x ≠ y → V M d tgt L st n S g k z P) (h2 : x = y → V M d (pc + 3) L st n S g k z P) : V M d pc L (I_ y :: I_ x :: st) n S g k z P :=
  fun p l e R s m args below meth c b D dA Q C hq H locs ls hl hP hS => lv_icmp_ne C.1 C.2.1 (C.dec hd) ht (fun q => h1 (fun r => q ((i3_eq hx hy).mpr r)) p l e R s m args below meth c b D dA Q C hq H locs ls hl hP hS) (fun q => h2 ((i3_eq hx hy).mp q) p l e R s m args below meth c b D dA Q C hq H locs ls hl hP hS)
theorem v_if_ne {x : Int} {off : Int} {tgt : Nat} (j : Nat) (hd : M.2.2.2[j]? = some (pc, .ifCond .ne off, 3)) (ht : (pc : Int) + off = (tgt : Int)) (hx : i3 x) (h1 : x ≠ 0 → V M d tgt L st n S g k z P) (h2 : x = 0 → V M d (pc + 3) L st n S g k z P) : V M d pc L (I_ x :: st) n S g k z P :=
  fun p l e R s m args below meth c b D dA Q C hq H locs ls hl hP hS => lv_if_ne C.1 C.2.1 (C.dec hd) ht (fun q => h1 (fun r => q ((i3_eq hx i3_0).mpr r)) p l e R s m args below meth c b D dA Q C hq H locs ls hl hP hS) (fun q => h2 ((i3_eq hx i3_0).mp q) p l e R s m args below meth c b D dA Q C hq H locs ls hl hP hS)
theorem v_icmp_lt {x y : Int} {off : Int} {tgt : Nat} (j : Nat) (hd : M.2.2.2[j]? = some (pc, .if_icmp .lt off, 3)) (ht : (pc : Int) + off = (tgt : Int)) (hx : i3 x) (hy : i3 y) (h1 : x < y → V M d tgt L st n S g k z P) (h2 : y ≤ x → V M d (pc + 3) L st n S g k z P) : V M d pc L (I_ y :: I_ x :: st) n S g k z P :=
  fun p l e R s m args below meth c b D dA Q C hq H locs ls hl hP hS => lv_icmp_lt C.1 C.2.1 (C.dec hd) ht (fun q => h1 ((i3_lt hx hy).mp q) p l e R s m args below meth c b D dA Q C hq H locs ls hl hP hS) (fun q => h2 (Int.not_lt.mp fun r => q ((i3_lt hx hy).mpr r)) p l e R s m args below meth c b D dA Q C hq H locs ls hl hP hS)
theorem v_if_lt {x : Int} {off : Int} {tgt : Nat} (j : Nat) (hd : M.2.2.2[j]? = some (pc, .ifCond .lt off, 3)) (ht : (pc : Int) + off = (tgt : Int)) (hx : i3 x) (h1 : x < 0 → V M d tgt L st n S g k z P) (h2 : 0 ≤ x → V M d (pc + 3) L st n S g k z P) : V M d pc L (I_ x :: st) n S g k z P :=
  fun p l e R s m args below meth c b D dA Q C hq H locs ls hl hP hS => lv_if_lt C.1 C.2.1 (C.dec hd) ht (fun q => h1 ((i3_lt hx i3_0).mp q) p l e R s m args below meth c b D dA Q C hq H locs ls hl hP hS) (fun q => h2 (Int.not_lt.mp fun r => q ((i3_lt hx i3_0).mpr r)) p l e R s m args below meth c b D dA Q C hq H locs ls hl hP hS)
theorem v_icmp_ge {x y : Int} {off : Int} {tgt : Nat} (j : Nat) (hd : M.2.2.2[j]? = some (pc, .if_icmp .ge off, 3)) (ht : (pc : Int) + off = (tgt : Int)) (hx : i3 x) (hy : i3 y) (h1 : y ≤ x → V M d tgt L st n S g k z P) (h2 : x < y → V M d (pc + 3) L st n S g k z P) : V M d pc L (I_ y :: I_ x :: st) n S g k z P :=
  fun p l e R s m args below meth c b D dA Q C hq H locs ls hl hP hS => lv_icmp_ge C.1 C.2.1 (C.dec hd) ht (fun q => h1 ((i3_le hy hx).mp q) p l e R s m args below meth c b D dA Q C hq H locs ls hl hP hS) (fun q => h2 (Int.not_le.mp fun r => q ((i3_le hy hx).mpr r)) p l e R s m args below meth c b D dA Q C hq H locs ls hl hP hS)
theorem v_if_ge {x : Int} {off : Int} {tgt : Nat} (j : Nat) (hd : M.2.2.2[j]? = some (pc, .ifCond .ge off, 3)) (ht : (pc : Int) + off = (tgt : Int)) (hx : i3 x) (h1 : 0 ≤ x → V M d tgt L st n S g k z P) (h2 : x < 0 → V M d (pc + 3) L st n S g k z P) : V M d pc L (I_ x :: st) n S g k z P :=
  fun p l e R s m args below meth c b D dA Q C hq H locs ls hl hP hS => lv_if_ge C.1 C.2.1 (C.dec hd) ht (fun q => h1 ((i3_le i3_0 hx).mp q) p l e R s m args below meth c b D dA Q C hq H locs ls hl hP hS) (fun q => h2 (Int.not_le.mp fun r => q ((i3_le i3_0 hx).mpr r)) p l e R s m args below meth c b D dA Q C hq H locs ls hl hP hS)
theorem v_icmp_gt {x y : Int} {off : Int} {tgt : Nat} (j : Nat) (hd : M.2.2.2[j]? = some (pc, .if_icmp .gt off, 3)) (ht : (pc : Int) + off = (tgt : Int)) (hx : i3 x) (hy : i3 y) (h1 : y < x → V M d tgt L st n S g k z P) (h2 : x ≤ y → V M d (pc + 3) L st n S g k z P) : V M d pc L (I_ y :: I_ x :: st) n S g k z P :=
  fun p l e R s m args below meth c b D dA Q C hq H locs ls hl hP hS => lv_icmp_gt C.1 C.2.1 (C.dec hd) ht (fun q => h1 ((i3_lt hy hx).mp q) p l e R s m args below meth c b D dA Q C hq H locs ls hl hP hS) (fun q => h2 (Int.not_lt.mp fun r => q ((i3_lt hy hx).mpr r)) p l e R s m args below meth c b D dA Q C hq H locs ls hl hP hS)
theorem v_if_gt {x : Int} {off : Int} {tgt : Nat} (j : Nat) (hd : M.2.2.2[j]? = some (pc, .ifCond .gt off, 3)) (ht : (pc : Int) + off = (tgt : Int)) (hx : i3 x) (h1 : 0 < x → V M d tgt L st n S g k z P) (h2 : x ≤ 0 → V M d (pc + 3) L st n S g k z P) : V M d pc L (I_ x :: st) n S g k z P :=
  fun p l e R s m args below meth c b D dA Q C hq H locs ls hl hP hS => lv_if_gt C.1 C.2.1 (C.dec hd) ht (fun q => h1 ((i3_lt i3_0 hx).mp q) p l e R s m args below meth c b D dA Q C hq H locs ls hl hP hS) (fun q => h2 (Int.not_lt.mp fun r => q ((i3_lt i3_0 hx).mpr r)) p l e R s m args below meth c b D dA Q C hq H locs ls hl hP hS)
theorem v_icmp_le {x y : Int} {off : Int} {tgt : Nat} (j : Nat) (hd : M.2.2.2[j]? = some (pc, .if_icmp .le off, 3)) (ht : (pc : Int) + off = (tgt : Int)) (hx : i3 x) (hy : i3 y) (h1 : x ≤ y → V M d tgt L st n S g k z P) (h2 : y < x → V M d (pc + 3) L st n S g k z P) : V M d pc L (I_ y :: I_ x :: st) n S g k z P :=
  fun p l e R s m args below meth c b D dA Q C hq H locs ls hl hP hS => lv_icmp_le C.1 C.2.1 (C.dec hd) ht (fun q => h1 ((i3_le hx hy).mp q) p l e R s m args below meth c b D dA Q C hq H locs ls hl hP hS) (fun q => h2 (Int.not_le.mp fun r => q ((i3_le hx hy).mpr r)) p l e R s m args below meth c b D dA Q C hq H locs ls hl hP hS)
theorem v_if_le {x : Int} {off : Int} {tgt : Nat} (j : Nat) (hd : M.2.2.2[j]? = some (pc, .ifCond .le off, 3)) (ht : (pc : Int) + off = (tgt : Int)) (hx : i3 x) (h1 : x ≤ 0 → V M d tgt L st n S g k z P) (h2 : 0 < x → V M d (pc + 3) L st n S g k z P) : V M d pc L (I_ x :: st) n S g k z P :=
  fun p l e R s m args below meth c b D dA Q C hq H locs ls hl hP hS => lv_if_le C.1 C.2.1 (C.dec hd) ht (fun q => h1 ((i3_le hx i3_0).mp q) p l e R s m args below meth c b D dA Q C hq H locs ls hl hP hS) (fun q => h2 (Int.not_le.mp fun r => q ((i3_le hx i3_0).mpr r)) p l e R s m args below meth c b D dA Q C hq H locs ls hl hP hS)
def cmp6 (x y : Int) : Int := if y < x then 1 else if x = y then 0 else -1
theorem cmp6_i3 (x y : Int) : i3 (cmp6 x y) := by
  unfold cmp6
  split
  · decide
  · split <;> decide
theorem lg_cmp6 {x y : Int} (hx : i6 x) (hy : i6 y) : lg_cmp (Int64.ofInt x) (Int64.ofInt y) = Int32.ofInt (cmp6 x y) := by
  unfold lg_cmp cmp6
  have h1 : (Int64.ofInt x > Int64.ofInt y) ↔ y < x := i6_lt hy hx
  have h2 := i6_eq hx hy
  by_cases a : y < x
  · rw [if_pos a, if_pos (h1.mpr a)]; rfl
  · rw [if_neg a, if_neg (fun q => a (h1.mp q))]
    by_cases b : x = y
    · rw [if_pos b, if_pos (h2.mpr b)]; rfl
    · rw [if_neg b, if_neg (fun q => b (h2.mp q))]; rfl
theorem v_lcmp {x y : Int} (j : Nat) (hd : M.2.2.2[j]? = some (pc, .lcmp, 1)) (hx : i6 x) (hy : i6 y) (h : V M d (pc + 1) L (I_ (cmp6 x y) :: st) n S g k z P) : V M d pc L (L_ y :: L_ x :: st) n S g k z P :=
  v_go h fun p l e R s m args below meth c b D dA Q C H locs ls hls w => W.lcmp C.1 C.2.1 (C.dec hd) (by rw [lg_cmp6 hx hy]; exact w)
theorem v_lif_eq {x y : Int} {off : Int} {tgt : Nat} (j : Nat) (hd : M.2.2.2[j]? = some (pc, .lcmp, 1)) (hd2 : M.2.2.2[j + 1]? = some (pc + 1, .ifCond .eq off, 3)) (ht : ((pc + 1 : Nat) : Int) + off = (tgt : Int)) (hx : i6 x) (hy : i6 y) (h1 : x = y → V M d tgt L st n S g k z P) (h2 : x ≠ y → V M d (pc + 4) L st n S g k z P) : V M d pc L (L_ y :: L_ x :: st) n S g k z P :=
  v_lcmp j hd hx hy (v_if_eq (j + 1) hd2 ht (cmp6_i3 x y) (fun q => h1 (by unfold cmp6 at q; (repeat' split at q) <;> omega)) (fun q => h2 (by unfold cmp6 at q; (repeat' split at q) <;> omega)))
theorem v_lif_ne {x y : Int} {off : Int} {tgt : Nat} (j : Nat) (hd : M.2.2.2[j]? = some (pc, .lcmp, 1)) (hd2 : M.2.2.2[j + 1]? = some (pc + 1, .ifCond .ne off, 3)) (ht : ((pc + 1 : Nat) : Int) + off = (tgt : Int)) (hx : i6 x) (hy : i6 y) (h1 : x ≠ y → V M d tgt L st n S g k z P) (h2 : x = y → V M d (pc + 4) L st n S g k z P) : V M d pc L (L_ y :: L_ x :: st) n S g k z P :=
  v_lcmp j hd hx hy (v_if_ne (j + 1) hd2 ht (cmp6_i3 x y) (fun q => h1 (by unfold cmp6 at q; (repeat' split at q) <;> omega)) (fun q => h2 (by unfold cmp6 at q; (repeat' split at q) <;> omega)))
theorem v_lif_lt {x y : Int} {off : Int} {tgt : Nat} (j : Nat) (hd : M.2.2.2[j]? = some (pc, .lcmp, 1)) (hd2 : M.2.2.2[j + 1]? = some (pc + 1, .ifCond .lt off, 3)) (ht : ((pc + 1 : Nat) : Int) + off = (tgt : Int)) (hx : i6 x) (hy : i6 y) (h1 : x < y → V M d tgt L st n S g k z P) (h2 : y ≤ x → V M d (pc + 4) L st n S g k z P) : V M d pc L (L_ y :: L_ x :: st) n S g k z P :=
  v_lcmp j hd hx hy (v_if_lt (j + 1) hd2 ht (cmp6_i3 x y) (fun q => h1 (by unfold cmp6 at q; (repeat' split at q) <;> omega)) (fun q => h2 (by unfold cmp6 at q; (repeat' split at q) <;> omega)))
theorem v_lif_ge {x y : Int} {off : Int} {tgt : Nat} (j : Nat) (hd : M.2.2.2[j]? = some (pc, .lcmp, 1)) (hd2 : M.2.2.2[j + 1]? = some (pc + 1, .ifCond .ge off, 3)) (ht : ((pc + 1 : Nat) : Int) + off = (tgt : Int)) (hx : i6 x) (hy : i6 y) (h1 : y ≤ x → V M d tgt L st n S g k z P) (h2 : x < y → V M d (pc + 4) L st n S g k z P) : V M d pc L (L_ y :: L_ x :: st) n S g k z P :=
  v_lcmp j hd hx hy (v_if_ge (j + 1) hd2 ht (cmp6_i3 x y) (fun q => h1 (by unfold cmp6 at q; (repeat' split at q) <;> omega)) (fun q => h2 (by unfold cmp6 at q; (repeat' split at q) <;> omega)))
theorem v_lif_gt {x y : Int} {off : Int} {tgt : Nat} (j : Nat) (hd : M.2.2.2[j]? = some (pc, .lcmp, 1)) (hd2 : M.2.2.2[j + 1]? = some (pc + 1, .ifCond .gt off, 3)) (ht : ((pc + 1 : Nat) : Int) + off = (tgt : Int)) (hx : i6 x) (hy : i6 y) (h1 : y < x → V M d tgt L st n S g k z P) (h2 : x ≤ y → V M d (pc + 4) L st n S g k z P) : V M d pc L (L_ y :: L_ x :: st) n S g k z P :=
  v_lcmp j hd hx hy (v_if_gt (j + 1) hd2 ht (cmp6_i3 x y) (fun q => h1 (by unfold cmp6 at q; (repeat' split at q) <;> omega)) (fun q => h2 (by unfold cmp6 at q; (repeat' split at q) <;> omega)))
theorem v_lif_le {x y : Int} {off : Int} {tgt : Nat} (j : Nat) (hd : M.2.2.2[j]? = some (pc, .lcmp, 1)) (hd2 : M.2.2.2[j + 1]? = some (pc + 1, .ifCond .le off, 3)) (ht : ((pc + 1 : Nat) : Int) + off = (tgt : Int)) (hx : i6 x) (hy : i6 y) (h1 : x ≤ y → V M d tgt L st n S g k z P) (h2 : y < x → V M d (pc + 4) L st n S g k z P) : V M d pc L (L_ y :: L_ x :: st) n S g k z P :=
  v_lcmp j hd hx hy (v_if_le (j + 1) hd2 ht (cmp6_i3 x y) (fun q => h1 (by unfold cmp6 at q; (repeat' split at q) <;> omega)) (fun q => h2 (by unfold cmp6 at q; (repeat' split at q) <;> omega)))
theorem v_aload_n {f : Fin 4} {i a : Nat} (j q : Nat) (hd : M.2.2.2[j]? = some (pc, .aload_n f, 1)) (hi : (f : Nat) = i) (hl : L[q]? = some (i, .ref a)) (h : V M d (pc + 1) L (.ref a :: st) n S g k z P) : V M d pc L st n S g k z P := by
  cases a with
  | zero => exact v_go h fun p l e R s m args below meth c b D dA Q C H locs ls hls w => lv_aload_nN C.1 C.2.1 (C.dec hd) hi (lmap_at hls hl) w
  | succ a => exact v_go h fun p l e R s m args below meth c b D dA Q C H locs ls hls w => lv_aload_n C.1 C.2.1 (C.dec hd) hi (lmap_at hls hl) w
theorem v_aload {i a : Nat} (j q : Nat) (hd : M.2.2.2[j]? = some (pc, .aload i, 2)) (hl : L[q]? = some (i, .ref a)) (h : V M d (pc + 2) L (.ref a :: st) n S g k z P) : V M d pc L st n S g k z P := by
  cases a with
  | zero => exact v_go h fun p l e R s m args below meth c b D dA Q C H locs ls hls w => lv_aloadN C.1 C.2.1 (C.dec hd) (lmap_at hls hl) w
  | succ a => exact v_go h fun p l e R s m args below meth c b D dA Q C H locs ls hls w => lv_aload C.1 C.2.1 (C.dec hd) (lmap_at hls hl) w
theorem v_null (j : Nat) (hd : M.2.2.2[j]? = some (pc, .aconst_null, 1)) (h : V M d (pc + 1) L (.ref 0 :: st) n S g k z P) : V M d pc L st n S g k z P :=
  v_go h fun p l e R s m args below meth c b D dA Q C H locs ls hls w => lv_null C.1 C.2.1 (C.dec hd) w
theorem v_ifnull {a : Nat} {off : Int} {tgt : Nat} (j : Nat) (hd : M.2.2.2[j]? = some (pc, .ifnull off, 3)) (ht : (pc : Int) + off = (tgt : Int)) (h1 : a = 0 → V M d tgt L st n S g k z P) (h2 : 0 < a → V M d (pc + 3) L st n S g k z P) : V M d pc L (.ref a :: st) n S g k z P := by
  cases a with
  | zero => exact v_go (h1 rfl) fun p l e R s m args below meth c b D dA Q C H locs ls hls w => lv_ifnullN C.1 C.2.1 (C.dec hd) ht w
  | succ a => exact v_go (h2 (Nat.succ_pos a)) fun p l e R s m args below meth c b D dA Q C H locs ls hls w => lv_ifnull C.1 C.2.1 (C.dec hd) w
theorem v_ifnonnull {a : Nat} {off : Int} {tgt : Nat} (j : Nat) (hd : M.2.2.2[j]? = some (pc, .ifnonnull off, 3)) (ht : (pc : Int) + off = (tgt : Int)) (h1 : 0 < a → V M d tgt L st n S g k z P) (h2 : a = 0 → V M d (pc + 3) L st n S g k z P) : V M d pc L (.ref a :: st) n S g k z P := by
  cases a with
  | zero => exact v_go (h2 rfl) fun p l e R s m args below meth c b D dA Q C H locs ls hls w => lv_ifnonnullN C.1 C.2.1 (C.dec hd) w
  | succ a => exact v_go (h1 (Nat.succ_pos a)) fun p l e R s m args below meth c b D dA Q C H locs ls hls w => lv_ifnonnull C.1 C.2.1 (C.dec hd) ht w
def rfo (b a : Nat) : Option Nat := if a = 0 then none else some (b + a)
theorem rfo_cv (b a : Nat) : cv b (.ref a) = va_rf (rfo b a) := by
  cases a with
  | zero => rfl
  | succ a => rfl
theorem rfo_eq (b : Nat) {x y : Nat} : rfo b x = rfo b y ↔ x = y := by
  unfold rfo
  by_cases hx : x = 0
  · by_cases hy : y = 0
    · simp [hx, hy]
    · simp [hx, hy]; omega
  · by_cases hy : y = 0
    · simp [hx, hy]
    · simp [hx, hy]
theorem v_acmp_eq {x y : Nat} {off : Int} {tgt : Nat} (j : Nat) (hd : M.2.2.2[j]? = some (pc, .if_acmp .eq off, 3)) (ht : (pc : Int) + off = (tgt : Int)) (h1 : x = y → V M d tgt L st n S g k z P) (h2 : x ≠ y → V M d (pc + 3) L st n S g k z P) : V M d pc L (.ref y :: .ref x :: st) n S g k z P := by
  intro p l e R s m args below meth c b D dA Q C hq H locs ls hl hP hS
  show W p l e R s m args below meth c H locs k z Q (F0 m pc ls (cv b (.ref y) :: cv b (.ref x) :: st.map (cv b)))
  rw [rfo_cv, rfo_cv]
  exact lv_acmp_eq C.1 C.2.1 (C.dec hd) ht (fun q => h1 ((rfo_eq b).mp q) p l e R s m args below meth c b D dA Q C hq H locs ls hl hP hS) (fun q => h2 (fun r => q ((rfo_eq b).mpr r)) p l e R s m args below meth c b D dA Q C hq H locs ls hl hP hS)
theorem v_acmp_ne {x y : Nat} {off : Int} {tgt : Nat} (j : Nat) (hd : M.2.2.2[j]? = some (pc, .if_acmp .ne off, 3)) (ht : (pc : Int) + off = (tgt : Int)) (h1 : x ≠ y → V M d tgt L st n S g k z P) (h2 : x = y → V M d (pc + 3) L st n S g k z P) : V M d pc L (.ref y :: .ref x :: st) n S g k z P := by
  intro p l e R s m args below meth c b D dA Q C hq H locs ls hl hP hS
  show W p l e R s m args below meth c H locs k z Q (F0 m pc ls (cv b (.ref y) :: cv b (.ref x) :: st.map (cv b)))
  rw [rfo_cv, rfo_cv]
  exact lv_acmp_ne C.1 C.2.1 (C.dec hd) ht (fun q => h1 (fun r => q ((rfo_eq b).mpr r)) p l e R s m args below meth c b D dA Q C hq H locs ls hl hP hS) (fun q => h2 ((rfo_eq b).mp q) p l e R s m args below meth c b D dA Q C hq H locs ls hl hP hS)
theorem v_dup {v : Value} (j : Nat) (hd : M.2.2.2[j]? = some (pc, .dup, 1)) (hv : ¬ v.category = 2) (h : V M d (pc + 1) L (v :: v :: st) n S g k z P) : V M d pc L (v :: st) n S g k z P :=
  v_go h fun p l e R s m args below meth c b D dA Q C H locs ls hls w => lv_dup C.1 C.2.1 (C.dec hd) (cv_c1 b hv) w
theorem v_dup2_2 {v : Value} (j : Nat) (hd : M.2.2.2[j]? = some (pc, .dup2, 1)) (hv : v.category = 2) (h : V M d (pc + 1) L (v :: v :: st) n S g k z P) : V M d pc L (v :: st) n S g k z P :=
  v_go h fun p l e R s m args below meth c b D dA Q C H locs ls hls w => lv_dup2_2 C.1 C.2.1 (C.dec hd) ((cv_cat2 b v).mpr hv) w
theorem v_dup2 {v u : Value} (j : Nat) (hd : M.2.2.2[j]? = some (pc, .dup2, 1)) (hv : ¬ v.category = 2) (hu : ¬ u.category = 2) (h : V M d (pc + 1) L (v :: u :: v :: u :: st) n S g k z P) : V M d pc L (v :: u :: st) n S g k z P :=
  v_go h fun p l e R s m args below meth c b D dA Q C H locs ls hls w => lv_dup2_11 C.1 C.2.1 (C.dec hd) (cv_c1 b hv) (cv_c1 b hu) w
theorem v_istore_n {f : Fin 4} {i : Nat} {x : Int} (j : Nat) (ks : List Nat) (hd : M.2.2.2[j]? = some (pc, .istore_n f, 1)) (hi : (f : Nat) = i) (hn : i < M.2.1.1) (hL : lv_pick (sl1 i (I_ x) L) ks = L') (h : V M d (pc + 1) L' st n S g k z P) : V M d pc L (I_ x :: st) n S g k z P :=
  v_goL h fun p l e R s m args below meth c b D dA Q C H locs ls hls w => lv_istore_n C.1 C.2.1 (C.dec hd) hi hls hn (sl1_map b i (I_ x) L) (fun ls' hl' => w ls' (lmap_sub hl' ks hL))
theorem v_istore {i : Nat} {x : Int} (j : Nat) (ks : List Nat) (hd : M.2.2.2[j]? = some (pc, .istore i, 2)) (hn : i < M.2.1.1) (hL : lv_pick (sl1 i (I_ x) L) ks = L') (h : V M d (pc + 2) L' st n S g k z P) : V M d pc L (I_ x :: st) n S g k z P :=
  v_goL h fun p l e R s m args below meth c b D dA Q C H locs ls hls w => lv_istore C.1 C.2.1 (C.dec hd) hls hn (sl1_map b i (I_ x) L) (fun ls' hl' => w ls' (lmap_sub hl' ks hL))
theorem v_lstore_n {f : Fin 4} {i : Nat} {x : Int} (j : Nat) (ks : List Nat) (hd : M.2.2.2[j]? = some (pc, .lstore_n f, 1)) (hi : (f : Nat) = i) (hn : i + 1 < M.2.1.1) (hL : lv_pick (sl2 i (L_ x) L) ks = L') (h : V M d (pc + 1) L' st n S g k z P) : V M d pc L (L_ x :: st) n S g k z P :=
  v_goL h fun p l e R s m args below meth c b D dA Q C H locs ls hls w => lv_lstore_n C.1 C.2.1 (C.dec hd) hi hls hn (sl2_map b i (L_ x) L) (fun ls' hl' => w ls' (lmap_sub hl' ks hL))
theorem v_lstore {i : Nat} {x : Int} (j : Nat) (ks : List Nat) (hd : M.2.2.2[j]? = some (pc, .lstore i, 2)) (hn : i + 1 < M.2.1.1) (hL : lv_pick (sl2 i (L_ x) L) ks = L') (h : V M d (pc + 2) L' st n S g k z P) : V M d pc L (L_ x :: st) n S g k z P :=
  v_goL h fun p l e R s m args below meth c b D dA Q C H locs ls hls w => lv_lstore C.1 C.2.1 (C.dec hd) hls hn (sl2_map b i (L_ x) L) (fun ls' hl' => w ls' (lmap_sub hl' ks hL))
theorem v_astore_n {f : Fin 4} {i a : Nat} (j : Nat) (ks : List Nat) (hd : M.2.2.2[j]? = some (pc, .astore_n f, 1)) (hi : (f : Nat) = i) (hn : i < M.2.1.1) (hL : lv_pick (sl1 i (.ref a) L) ks = L') (h : V M d (pc + 1) L' st n S g k z P) : V M d pc L (.ref a :: st) n S g k z P := by
  cases a with
  | zero => exact v_goL h fun p l e R s m args below meth c b D dA Q C H locs ls hls w => lv_astore_nN C.1 C.2.1 (C.dec hd) hi hls hn (sl1_map b i (.ref 0) L) (fun ls' hl' => w ls' (lmap_sub hl' ks hL))
  | succ a => exact v_goL h fun p l e R s m args below meth c b D dA Q C H locs ls hls w => lv_astore_n C.1 C.2.1 (C.dec hd) hi hls hn (sl1_map b i (.ref (a + 1)) L) (fun ls' hl' => w ls' (lmap_sub hl' ks hL))
theorem v_astore {i a : Nat} (j : Nat) (ks : List Nat) (hd : M.2.2.2[j]? = some (pc, .astore i, 2)) (hn : i < M.2.1.1) (hL : lv_pick (sl1 i (.ref a) L) ks = L') (h : V M d (pc + 2) L' st n S g k z P) : V M d pc L (.ref a :: st) n S g k z P := by
  cases a with
  | zero => exact v_goL h fun p l e R s m args below meth c b D dA Q C H locs ls hls w => lv_astoreN C.1 C.2.1 (C.dec hd) hls hn (sl1_map b i (.ref 0) L) (fun ls' hl' => w ls' (lmap_sub hl' ks hL))
  | succ a => exact v_goL h fun p l e R s m args below meth c b D dA Q C H locs ls hls w => lv_astore C.1 C.2.1 (C.dec hd) hls hn (sl1_map b i (.ref (a + 1)) L) (fun ls' hl' => w ls' (lmap_sub hl' ks hL))
theorem v_iinc {i : Nat} {t x : Int} (j q : Nat) (ks : List Nat) (hd : M.2.2.2[j]? = some (pc, .iinc i t, 3)) (hl : L[q]? = some (i, I_ x)) (hn : i < M.2.1.1) (hL : lv_pick (sl1 i (I_ (x + t)) L) ks = L') (h : V M d (pc + 3) L' st n S g k z P) : V M d pc L st n S g k z P :=
  v_goL h fun p l e R s m args below meth c b D dA Q C H locs ls hls w => lv_iinc C.1 C.2.1 (C.dec hd) hls (k := q) (by show (L.map _)[q]? = _; rw [List.getElem?_map, hl]; rfl) (Int32.ofInt_add x t).symm hn (sl1_map b i (I_ (x + t)) L) (fun ls' hl' => w ls' (lmap_sub hl' ks hL))
theorem v_tswIn {dflt lo hi : Int} {offs : Array Int} {len : Nat} {x : Int} {off : Int} {tgt : Nat} (j : Nat) (hd : M.2.2.2[j]? = some (pc, .tableswitch dflt lo hi offs, len)) (hx : i3 x) (h1 : lo ≤ x) (h2 : x ≤ hi) (ho : offs[(x - lo).toNat]? = some off) (ht : (pc : Int) + off = (tgt : Int)) (h : V M d tgt L st n S g k z P) : V M d pc L (I_ x :: st) n S g k z P :=
  v_go h fun p l e R s m args below meth c b D dA Q C H locs ls hls w => lv_tableIn C.1 C.2.1 (C.dec hd) (by rw [i3_of hx]; omega) (by rw [i3_of hx]; omega) (by rw [i3_of hx]; exact ho) ht w
theorem v_tswOut {dflt lo hi : Int} {offs : Array Int} {len : Nat} {x : Int} {tgt : Nat} (j : Nat) (hd : M.2.2.2[j]? = some (pc, .tableswitch dflt lo hi offs, len)) (hx : i3 x) (h1 : x < lo ∨ hi < x) (ht : (pc : Int) + dflt = (tgt : Int)) (h : V M d tgt L st n S g k z P) : V M d pc L (I_ x :: st) n S g k z P :=
  v_go h fun p l e R s m args below meth c b D dA Q C H locs ls hls w => lv_tableOut C.1 C.2.1 (C.dec hd) (by rw [i3_of hx]; exact h1) ht w
theorem v_ret {v : Option Value} {st' : List Value} (j : Nat) (hd : M.2.2.2[j]? = some (pc, rop v, 1)) (hk : k ≤ M.2.2.1.1) (hz : z ≤ M.2.2.1.2) (hr : rok M.2.1.2 v) (hs : v.toList = st') (h : P v n S g) : V M d pc L st' n S g k z P := by
  subst hs
  intro p l e R s m args below meth c b D dA Q C hq H locs ls hl hP hS
  have w := hq v n S g h hr H locs ls pc k z hk hz hP hS (C.dec hd)
  cases v with
  | none => exact w
  | some x => exact w
end VRows2
