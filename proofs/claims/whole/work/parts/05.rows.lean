/-! ROWS: an instruction each, over the abstract heap -/
section VRows
variable {M : MI} {d pc : Nat} {L L' : List (Nat × Value)} {st : List Value} {n : Nat} {S : Nat → Shp} {g : Hp} {k z : Nat} {P : Pst}
theorem v_go {pc' : Nat} {st' : List Value} (h : V M d pc' L st' n S g k z P)
    (hs : ∀ (p : Program) (l : Launch) (e : Env) (R : Room) (s : State) (m : MethodId) (args : Array Value) (below : List Frame) (meth : Method) (c : Code) (b : Nat) (D : va_G) (dA : Nat → ClassId) (Q : State → Prop), Ctx l M d p R s m args meth c b D dA → ∀ (H : Heap) (locs : List Loc) (ls : Array Slot), lv_has ls M.2.1.1 (lmap b L) →
      W p l e R s m args below meth c H locs k z Q (F0 m pc' ls (st'.map (cv b))) → W p l e R s m args below meth c H locs k z Q (F0 m pc ls (st.map (cv b)))) : V M d pc L st n S g k z P :=
  fun p l e R s m args below meth c b D dA Q C hq H locs ls hl hP hS => hs p l e R s m args below meth c b D dA Q C H locs ls hl (h p l e R s m args below meth c b D dA Q C hq H locs ls hl hP hS)
/-- the same with other locals -/
theorem v_goL {pc' : Nat} {st' : List Value} (h : V M d pc' L' st' n S g k z P)
    (hs : ∀ (p : Program) (l : Launch) (e : Env) (R : Room) (s : State) (m : MethodId) (args : Array Value) (below : List Frame) (meth : Method) (c : Code) (b : Nat) (D : va_G) (dA : Nat → ClassId) (Q : State → Prop), Ctx l M d p R s m args meth c b D dA → ∀ (H : Heap) (locs : List Loc) (ls : Array Slot), lv_has ls M.2.1.1 (lmap b L) →
      (∀ ls' : Array Slot, lv_has ls' M.2.1.1 (lmap b L') → W p l e R s m args below meth c H locs k z Q (F0 m pc' ls' (st'.map (cv b)))) → W p l e R s m args below meth c H locs k z Q (F0 m pc ls (st.map (cv b)))) : V M d pc L st n S g k z P :=
  fun p l e R s m args below meth c b D dA Q C hq H locs ls hl hP hS => hs p l e R s m args below meth c b D dA Q C H locs ls hl (fun ls' hl' => h p l e R s m args below meth c b D dA Q C hq H locs ls' hl' hP hS)
theorem lmap_at {b : Nat} {ls : Array Slot} {N q i : Nat} {v : Value} (hl : lv_has ls N (lmap b L)) (h : L[q]? = some (i, v)) : ls[i]? = some (.val (cv b v)) :=
  lv_at hl q (by show (L.map _)[q]? = _; rw [List.getElem?_map, h]; rfl)
theorem lmap_sub {b : Nat} {ls : Array Slot} {N : Nat} (hl : lv_has ls N (lmap b L)) (ks : List Nat) (h : lv_pick L ks = L') : lv_has ls N (lmap b L') := by
  refine lv_sub hl ks ?_
  subst h
  unfold lv_pick lmap
  rw [List.map_filterMap]
  congr 1
  funext q
  rw [List.getElem?_map]
theorem v_loc (ks : List Nat) (hL : lv_pick L ks = L') (h : V M d pc L' st n S g k z P) : V M d pc L st n S g k z P :=
  fun p l e R s m args below meth c b D dA Q C hq H locs ls hl hP hS => h p l e R s m args below meth c b D dA Q C hq H locs ls (lmap_sub hl ks hL) hP hS
/-- locals behind a store -/
def sl1 (i : Nat) (v : Value) (L : List (Nat × Value)) : List (Nat × Value) := (i, v) :: L.filter (fun q => !(q.1 == i) && !(q.1 + 1 == i && q.2.category == 2))
def sl2 (i : Nat) (v : Value) (L : List (Nat × Value)) : List (Nat × Value) := (i, v) :: L.filter (fun q => !(q.1 == i) && (!(q.1 == i + 1) && !(q.1 + 1 == i && q.2.category == 2)))
theorem sl1_map (b i : Nat) (v : Value) (L : List (Nat × Value)) : (i, cv b v) :: (lmap b L).filter (fun q => !(q.1 == i) && !(q.1 + 1 == i && q.2.category == 2)) = lmap b (sl1 i v L) := by
  unfold sl1 lmap
  rw [List.map_cons, List.filter_map]
  congr 2
  apply List.filter_congr
  intro q _
  simp only [Function.comp, cv_catb]
theorem sl2_map (b i : Nat) (v : Value) (L : List (Nat × Value)) : (i, cv b v) :: (lmap b L).filter (fun q => !(q.1 == i) && (!(q.1 == i + 1) && !(q.1 + 1 == i && q.2.category == 2))) = lmap b (sl2 i v L) := by
  unfold sl2 lmap
  rw [List.map_cons, List.filter_map]
  congr 2
  apply List.filter_congr
  intro q _
  simp only [Function.comp, cv_catb]
theorem i3_of {x : Int} (h : i3 x) : (Int32.ofInt x).toInt = x := by
  rw [Int32.toInt_ofInt]
  exact Int.bmod_eq_of_le (by have := h.1; simp [Int32.size]; omega) (by have := h.2; simp [Int32.size]; omega)
theorem i6_of {x : Int} (h : i6 x) : (Int64.ofInt x).toInt = x := by
  rw [Int64.toInt_ofInt]
  exact Int.bmod_eq_of_le (by have := h.1; simp [Int64.size]; omega) (by have := h.2; simp [Int64.size]; omega)
theorem i3_eq {x y : Int} (hx : i3 x) (hy : i3 y) : Int32.ofInt x = Int32.ofInt y ↔ x = y := by
  rw [← Int32.toInt_inj, i3_of hx, i3_of hy]
theorem i3_le {x y : Int} (hx : i3 x) (hy : i3 y) : Int32.ofInt x ≤ Int32.ofInt y ↔ x ≤ y := by
  rw [Int32.le_iff_toInt_le, i3_of hx, i3_of hy]
theorem i3_lt {x y : Int} (hx : i3 x) (hy : i3 y) : Int32.ofInt x < Int32.ofInt y ↔ x < y := by
  rw [Int32.lt_iff_toInt_lt, i3_of hx, i3_of hy]
theorem i6_eq {x y : Int} (hx : i6 x) (hy : i6 y) : Int64.ofInt x = Int64.ofInt y ↔ x = y := by
  rw [← Int64.toInt_inj, i6_of hx, i6_of hy]
theorem i6_le {x y : Int} (hx : i6 x) (hy : i6 y) : Int64.ofInt x ≤ Int64.ofInt y ↔ x ≤ y := by
  rw [Int64.le_iff_toInt_le, i6_of hx, i6_of hy]
theorem i6_lt {x y : Int} (hx : i6 x) (hy : i6 y) : Int64.ofInt x < Int64.ofInt y ↔ x < y := by
  rw [Int64.lt_iff_toInt_lt, i6_of hx, i6_of hy]
theorem i3_0 : i3 0 := by decide
theorem v_iload_n {f : Fin 4} {i : Nat} {x : Int} (j q : Nat) (hd : M.2.2.2[j]? = some (pc, .iload_n f, 1)) (hi : (f : Nat) = i) (hl : L[q]? = some (i, I_ x)) (h : V M d (pc + 1) L (I_ x :: st) n S g k z P) : V M d pc L st n S g k z P :=
  v_go h fun p l e R s m args below meth c b D dA Q C H locs ls hls w => lv_iload_n C.1 C.2.1 (C.dec hd) hi (lmap_at hls hl) w
theorem v_iload {i : Nat} {x : Int} (j q : Nat) (hd : M.2.2.2[j]? = some (pc, .iload i, 2)) (hl : L[q]? = some (i, I_ x)) (h : V M d (pc + 2) L (I_ x :: st) n S g k z P) : V M d pc L st n S g k z P :=
  v_go h fun p l e R s m args below meth c b D dA Q C H locs ls hls w => lv_iload C.1 C.2.1 (C.dec hd) (lmap_at hls hl) w
theorem v_lload_n {f : Fin 4} {i : Nat} {x : Int} (j q : Nat) (hd : M.2.2.2[j]? = some (pc, .lload_n f, 1)) (hi : (f : Nat) = i) (hl : L[q]? = some (i, L_ x)) (h : V M d (pc + 1) L (L_ x :: st) n S g k z P) : V M d pc L st n S g k z P :=
  v_go h fun p l e R s m args below meth c b D dA Q C H locs ls hls w => lv_lload_n C.1 C.2.1 (C.dec hd) hi (lmap_at hls hl) w
theorem v_lload {i : Nat} {x : Int} (j q : Nat) (hd : M.2.2.2[j]? = some (pc, .lload i, 2)) (hl : L[q]? = some (i, L_ x)) (h : V M d (pc + 2) L (L_ x :: st) n S g k z P) : V M d pc L st n S g k z P :=
  v_go h fun p l e R s m args below meth c b D dA Q C H locs ls hls w => lv_lload C.1 C.2.1 (C.dec hd) (lmap_at hls hl) w
theorem v_iconst {v : Int} (j : Nat) (hd : M.2.2.2[j]? = some (pc, .iconst v, 1)) (h : V M d (pc + 1) L (I_ v :: st) n S g k z P) : V M d pc L st n S g k z P :=
  v_go h fun p l e R s m args below meth c b D dA Q C H locs ls hls w => lv_iconst C.1 C.2.1 (C.dec hd) rfl w
theorem v_bipush {v : Int} (j : Nat) (hd : M.2.2.2[j]? = some (pc, .bipush v, 2)) (hv : (Int8.ofInt v).toInt32 = Int32.ofInt v) (h : V M d (pc + 2) L (I_ v :: st) n S g k z P) : V M d pc L st n S g k z P :=
  v_go h fun p l e R s m args below meth c b D dA Q C H locs ls hls w => lv_bipush C.1 C.2.1 (C.dec hd) hv w
theorem v_sipush {v : Int} (j : Nat) (hd : M.2.2.2[j]? = some (pc, .sipush v, 3)) (hv : (Int16.ofInt v).toInt32 = Int32.ofInt v) (h : V M d (pc + 3) L (I_ v :: st) n S g k z P) : V M d pc L st n S g k z P :=
  v_go h fun p l e R s m args below meth c b D dA Q C H locs ls hls w => lv_sipush C.1 C.2.1 (C.dec hd) hv w
theorem v_lconst {f : Fin 2} {v : Int} (j : Nat) (hd : M.2.2.2[j]? = some (pc, .lconst f, 1)) (hv : Int64.ofNat (f : Nat) = Int64.ofInt v) (h : V M d (pc + 1) L (L_ v :: st) n S g k z P) : V M d pc L st n S g k z P :=
  v_go h fun p l e R s m args below meth c b D dA Q C H locs ls hls w => lv_lconst C.1 C.2.1 (C.dec hd) hv w
theorem v_ldc2 {index : Nat} {v : Int} (j : Nat) (hd : M.2.2.2[j]? = some (pc, .ldc2_w index, 3)) (hc : Cond.constantLong M.1.2.1 index (Int64.ofInt v) ∈ tbG) (h : V M d (pc + 3) L (L_ v :: st) n S g k z P) : V M d pc L st n S g k z P :=
  v_go h fun p l e R s m args below meth c b D dA Q C H locs ls hls w => W.ldc2 C.1 C.2.1 C.2.2.2.1 (C.2.2.2.2.1 _ hc) rfl (C.dec hd) w
theorem v_goto {off : Int} {tgt : Nat} (j : Nat) (hd : M.2.2.2[j]? = some (pc, .goto off, 3)) (ht : (pc : Int) + off = (tgt : Int)) (h : V M d tgt L st n S g k z P) : V M d pc L st n S g k z P :=
  v_go h fun p l e R s m args below meth c b D dA Q C H locs ls hls w => lv_goto C.1 C.2.1 (C.dec hd) ht w
end VRows
