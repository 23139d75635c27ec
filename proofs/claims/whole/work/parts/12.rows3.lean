/-! FURTHER ROWS: reads with the value named, things of one of the three kinds of part, instanceof, Object's constructor, inherited methods -/
def FR (own : String) (idx ci kf : Nat) : Prop := ∃ (C : String) (T : u_T) (N : Nat) (ref : String), vwCl[ci]? = some (C, T, N) ∧ nf ci = N ∧ kf < N ∧ (∀ w ∈ u_ws C T N, w ∈ tbG) ∧ Cond.fieldLink own idx ref (T kf).2.1 (T kf).2.2.1 ∈ tbG ∧ ((T kf).1 = ref ∨ Cond.sameField ref (T kf).1 (T kf).2.1 (T kf).2.2.1 ∈ tbG)
theorem FL.r {own : String} {idx ci kf : Nat} {fin : Bool} {ty : FieldType} (h : FL own idx ci kf fin ty) : FR own idx ci kf := by
  obtain ⟨C, T, N, ref, h1, h2, h3, h4, h5, h6, -⟩ := h
  exact ⟨C, T, N, ref, h1, h2, h3, h4, h5, h6⟩
abbrev Ob (n : Nat) (S : Nat → Shp) (r ci : Nat) : Prop := (0 < r ∧ r < n) ∧ (S r).1 = ci ∧ ∀ q, (S r).2.2 q = none
abbrev Pt (n : Nat) (S : Nat → Shp) (r : Nat) : Prop := (0 < r ∧ r < n) ∧ ((S r).1 = 3 ∨ (S r).1 = 5 ∨ (S r).1 = 9) ∧ ∀ q, (S r).2.2 q = none
def FP (own : String) (idx kf : Nat) : Prop := FR own idx 3 kf ∧ FR own idx 5 kf ∧ FR own idx 9 kf
def FW (own : String) (idx kf : Nat) (ty : FieldType) : Prop := FL own idx 3 kf false ty ∧ FL own idx 5 kf false ty ∧ FL own idx 9 kf false ty
section VRows5
variable {M : MI} {d pc : Nat} {L L' : List (Nat × Value)} {st : List Value} {n : Nat} {S : Nat → Shp} {g : Hp} {k z : Nat} {P : Pst}
theorem v_gt0 {a ci kf idx : Nat} (j : Nat) (hd : M.2.2.2[j]? = some (pc, .getfield idx, 3)) (hf : FR M.1.2.1 idx ci kf) (ha : 0 < a ∧ a < n) (hs : (S a).1 = ci) (hc : ci < 12) (h : V M d (pc + 3) L (vA (fc ci kf) (gv S g a kf) :: st) n S g k z P) : V M d pc L (.ref a :: st) n S g k z P := by
  intro p l e R s m args below meth c b D dA Q C hq H locs ls hl hP hS
  have w := h p l e R s m args below meth c b D dA Q C hq H locs ls hl hP hS
  obtain ⟨Cn, T, N, ref, h1, h2, h3, h4, h5, h6⟩ := hf
  obtain ⟨cell, q1, q2, q3, q4⟩ := hP.obj ha hs hc
  obtain ⟨hSl, hfc, kC, hkC, hkind⟩ := C.2.2.2.2.2.1.1.1 ci _ h1
  obtain ⟨cf, kf', fi, f, hi, hsl⟩ := hSl kf h3
  have hsame : s.fieldFound? ref (T kf).2.1 (T kf).2.2.1 = some (cf, kf', fi, f) := by
    rcases h6 with e | e
    · rw [← e]; exact hi
    · exact u_same (C.2.2.2.2.1 _ e) _ hi
  obtain ⟨a', rfl⟩ : ∃ a', a = a' + 1 := ⟨a - 1, by omega⟩
  refine W.getf C.1 C.2.1 C.2.2.2.1 (C.2.2.2.2.1 _ h5) hsame (u_facts hfc hkC (u_lays C.2.2.2.2.1 h4 h3) hi).1 q1 (by rw [q3]; exact fun h => by cases h) (v := cv b (vA (fc ci kf) (gv S g (a' + 1) kf))) ?_ rfl rfl (C.dec hd) w
  rw [hsl, q4 kf (by rw [h2]; exact h3)]
theorem v_gI {a ci kf idx : Nat} {x : Int} (j : Nat) (hd : M.2.2.2[j]? = some (pc, .getfield idx, 3)) (hf : FR M.1.2.1 idx ci kf) (ha : 0 < a ∧ a < n) (hs : (S a).1 = ci) (hc : ci < 12) (ht : fc ci kf = 0) (hk : (S a).2.2 kf = none) (he : g a kf = x) (h : V M d (pc + 3) L (I_ x :: st) n S g k z P) : V M d pc L (.ref a :: st) n S g k z P :=
  v_gt0 j hd hf ha hs hc (by unfold gv; rw [ht, hk]; subst he; exact h)
theorem v_gL {a ci kf idx : Nat} {x : Int} (j : Nat) (hd : M.2.2.2[j]? = some (pc, .getfield idx, 3)) (hf : FR M.1.2.1 idx ci kf) (ha : 0 < a ∧ a < n) (hs : (S a).1 = ci) (hc : ci < 12) (ht : fc ci kf = 1) (hk : (S a).2.2 kf = none) (he : g a kf = x) (h : V M d (pc + 3) L (L_ x :: st) n S g k z P) : V M d pc L (.ref a :: st) n S g k z P :=
  v_gt0 j hd hf ha hs hc (by unfold gv; rw [ht, hk]; subst he; exact h)
theorem v_gR {a ci kf idx : Nat} {x : Int} (j : Nat) (hd : M.2.2.2[j]? = some (pc, .getfield idx, 3)) (hf : FR M.1.2.1 idx ci kf) (ha : 0 < a ∧ a < n) (hs : (S a).1 = ci) (hc : ci < 12) (ht : fc ci kf = 2) (hk : (S a).2.2 kf = none) (he : g a kf = x) (h : V M d (pc + 3) L (.ref x.toNat :: st) n S g k z P) : V M d pc L (.ref a :: st) n S g k z P :=
  v_gt0 j hd hf ha hs hc (by unfold gv; rw [ht, hk]; subst he; exact h)
theorem v_gK {a ci kf idx r : Nat} (j : Nat) (hd : M.2.2.2[j]? = some (pc, .getfield idx, 3)) (hf : FR M.1.2.1 idx ci kf) (ha : 0 < a ∧ a < n) (hs : (S a).1 = ci) (hc : ci < 12) (ht : fc ci kf = 2) (hk : (S a).2.2 kf = some (r : Int)) (h : V M d (pc + 3) L (.ref r :: st) n S g k z P) : V M d pc L (.ref a :: st) n S g k z P :=
  v_gt0 j hd hf ha hs hc (by unfold gv; rw [ht, hk]; exact h)
theorem v_pI {a kf idx : Nat} {x : Int} (j : Nat) (hd : M.2.2.2[j]? = some (pc, .getfield idx, 3)) (hf : FP M.1.2.1 idx kf) (ha : Pt n S a) (ht : fc 3 kf = 0 ∧ fc 5 kf = 0 ∧ fc 9 kf = 0) (he : g a kf = x) (h : V M d (pc + 3) L (I_ x :: st) n S g k z P) : V M d pc L (.ref a :: st) n S g k z P := by
  rcases ha.2.1 with q | q | q
  · exact v_gI j hd hf.1 ha.1 q (by decide) ht.1 (ha.2.2 kf) he h
  · exact v_gI j hd hf.2.1 ha.1 q (by decide) ht.2.1 (ha.2.2 kf) he h
  · exact v_gI j hd hf.2.2 ha.1 q (by decide) ht.2.2 (ha.2.2 kf) he h
theorem v_pL {a kf idx : Nat} {x : Int} (j : Nat) (hd : M.2.2.2[j]? = some (pc, .getfield idx, 3)) (hf : FP M.1.2.1 idx kf) (ha : Pt n S a) (ht : fc 3 kf = 1 ∧ fc 5 kf = 1 ∧ fc 9 kf = 1) (he : g a kf = x) (h : V M d (pc + 3) L (L_ x :: st) n S g k z P) : V M d pc L (.ref a :: st) n S g k z P := by
  rcases ha.2.1 with q | q | q
  · exact v_gL j hd hf.1 ha.1 q (by decide) ht.1 (ha.2.2 kf) he h
  · exact v_gL j hd hf.2.1 ha.1 q (by decide) ht.2.1 (ha.2.2 kf) he h
  · exact v_gL j hd hf.2.2 ha.1 q (by decide) ht.2.2 (ha.2.2 kf) he h
theorem v_pR {a kf idx : Nat} {x : Int} (j : Nat) (hd : M.2.2.2[j]? = some (pc, .getfield idx, 3)) (hf : FP M.1.2.1 idx kf) (ha : Pt n S a) (ht : fc 3 kf = 2 ∧ fc 5 kf = 2 ∧ fc 9 kf = 2) (he : g a kf = x) (h : V M d (pc + 3) L (.ref x.toNat :: st) n S g k z P) : V M d pc L (.ref a :: st) n S g k z P := by
  rcases ha.2.1 with q | q | q
  · exact v_gR j hd hf.1 ha.1 q (by decide) ht.1 (ha.2.2 kf) he h
  · exact v_gR j hd hf.2.1 ha.1 q (by decide) ht.2.1 (ha.2.2 kf) he h
  · exact v_gR j hd hf.2.2 ha.1 q (by decide) ht.2.2 (ha.2.2 kf) he h
theorem v_qI {a kf idx : Nat} {x : Int} (j : Nat) (hd : M.2.2.2[j]? = some (pc, .putfield idx, 3)) (hf : FW M.1.2.1 idx kf .int) (ha : Pt n S a) (ht : fc 3 kf = 0 ∧ fc 5 kf = 0 ∧ fc 9 kf = 0) (hx : i3 x) (h : V M d (pc + 3) L st n S (up2 g a kf x) k z P) : V M d pc L (I_ x :: .ref a :: st) n S g k z P := by
  rcases ha.2.1 with q | q | q
  · exact v_putI j hd hf.1 ha.1 q (by decide) ht.1 (ha.2.2 kf) hx h
  · exact v_putI j hd hf.2.1 ha.1 q (by decide) ht.2.1 (ha.2.2 kf) hx h
  · exact v_putI j hd hf.2.2 ha.1 q (by decide) ht.2.2 (ha.2.2 kf) hx h
theorem v_qL {a kf idx : Nat} {x : Int} (j : Nat) (hd : M.2.2.2[j]? = some (pc, .putfield idx, 3)) (hf : FW M.1.2.1 idx kf .long) (ha : Pt n S a) (ht : fc 3 kf = 1 ∧ fc 5 kf = 1 ∧ fc 9 kf = 1) (hx : i6 x) (h : V M d (pc + 3) L st n S (up2 g a kf x) k z P) : V M d pc L (L_ x :: .ref a :: st) n S g k z P := by
  rcases ha.2.1 with q | q | q
  · exact v_putL j hd hf.1 ha.1 q (by decide) ht.1 (ha.2.2 kf) hx h
  · exact v_putL j hd hf.2.1 ha.1 q (by decide) ht.2.1 (ha.2.2 kf) hx h
  · exact v_putL j hd hf.2.2 ha.1 q (by decide) ht.2.2 (ha.2.2 kf) hx h
theorem v_qR {a kf idx r : Nat} {nm : String} (j : Nat) (hd : M.2.2.2[j]? = some (pc, .putfield idx, 3)) (hf : FW M.1.2.1 idx kf (.object nm)) (ha : Pt n S a) (ht : fc 3 kf = 2 ∧ fc 5 kf = 2 ∧ fc 9 kf = 2) (h : V M d (pc + 3) L st n S (up2 g a kf (r : Int)) k z P) : V M d pc L (.ref r :: .ref a :: st) n S g k z P := by
  rcases ha.2.1 with q | q | q
  · exact v_putR j hd hf.1 ha.1 q (by decide) ht.1 (ha.2.2 kf) h
  · exact v_putR j hd hf.2.1 ha.1 q (by decide) ht.2.1 (ha.2.2 kf) h
  · exact v_putR j hd hf.2.2 ha.1 q (by decide) ht.2.2 (ha.2.2 kf) h
theorem v_ia {a N : Nat} {x y : Int} (j : Nat) (hd : M.2.2.2[j]? = some (pc, .iaload, 1)) (ha : 0 < a ∧ a < n) (hs : (S a).1 = 13) (hN : (S a).2.1 = N) (hN2 : N ≤ 100000) (hx : 0 ≤ x ∧ x < (N : Int)) (he : g a x.toNat = y) (h : V M d (pc + 1) L (I_ y :: st) n S g k z P) : V M d pc L (I_ x :: .ref a :: st) n S g k z P := v_iald j hd ha hs hN hN2 hx (by rw [he]; exact h)
theorem v_la {a N : Nat} {x y : Int} (j : Nat) (hd : M.2.2.2[j]? = some (pc, .laload, 1)) (ha : 0 < a ∧ a < n) (hs : (S a).1 = 14) (hN : (S a).2.1 = N) (hN2 : N ≤ 100000) (hx : 0 ≤ x ∧ x < (N : Int)) (he : g a x.toNat = y) (h : V M d (pc + 1) L (L_ y :: st) n S g k z P) : V M d pc L (I_ x :: .ref a :: st) n S g k z P := v_lald j hd ha hs hN hN2 hx (by rw [he]; exact h)
theorem v_ba {a N : Nat} {x y : Int} (j : Nat) (hd : M.2.2.2[j]? = some (pc, .baload, 1)) (ha : 0 < a ∧ a < n) (hs : (S a).1 = 12) (hN : (S a).2.1 = N) (hN2 : N ≤ 100000) (hx : 0 ≤ x ∧ x < (N : Int)) (he : g a x.toNat = y) (h : V M d (pc + 1) L (I_ y :: st) n S g k z P) : V M d pc L (I_ x :: .ref a :: st) n S g k z P := v_bald j hd ha hs hN hN2 hx (by rw [he]; exact h)
theorem v_za {a N : Nat} {x y : Int} (j : Nat) (hd : M.2.2.2[j]? = some (pc, .baload, 1)) (ha : 0 < a ∧ a < n) (hs : (S a).1 = 15) (hN : (S a).2.1 = N) (hN2 : N ≤ 100000) (hx : 0 ≤ x ∧ x < (N : Int)) (he : g a x.toNat = y) (h : V M d (pc + 1) L (I_ y :: st) n S g k z P) : V M d pc L (I_ x :: .ref a :: st) n S g k z P := v_zald j hd ha hs hN hN2 hx (by rw [he]; exact h)
theorem v_pa {a N : Nat} {x y : Int} (j : Nat) (hd : M.2.2.2[j]? = some (pc, .aaload, 1)) (ha : 0 < a ∧ a < n) (hs : (S a).1 = 16) (hN : (S a).2.1 = N) (hN2 : N ≤ 100000) (hx : 0 ≤ x ∧ x < (N : Int)) (he : g a x.toNat = y) (h : V M d (pc + 1) L (.ref y.toNat :: st) n S g k z P) : V M d pc L (I_ x :: .ref a :: st) n S g k z P := v_pald j hd ha hs hN hN2 hx (by rw [he]; exact h)
theorem v_ra {a N : Nat} {x y : Int} (j : Nat) (hd : M.2.2.2[j]? = some (pc, .aaload, 1)) (ha : 0 < a ∧ a < n) (hs : (S a).1 = 17) (hN : (S a).2.1 = N) (hN2 : N ≤ 100000) (hx : 0 ≤ x ∧ x < (N : Int)) (he : g a x.toNat = y) (h : V M d (pc + 1) L (.ref y.toNat :: st) n S g k z P) : V M d pc L (I_ x :: .ref a :: st) n S g k z P := v_rald j hd ha hs hN hN2 hx (by rw [he]; exact h)
theorem v_ta {a N : Nat} {x y : Int} (j : Nat) (hd : M.2.2.2[j]? = some (pc, .aaload, 1)) (ha : 0 < a ∧ a < n) (hs : (S a).1 = 18) (hN : (S a).2.1 = N) (hN2 : N ≤ 100000) (hx : 0 ≤ x ∧ x < (N : Int)) (he : g a x.toNat = y) (h : V M d (pc + 1) L (.ref y.toNat :: st) n S g k z P) : V M d pc L (I_ x :: .ref a :: st) n S g k z P := v_tald j hd ha hs hN hN2 hx (by rw [he]; exact h)
theorem v_aa {a N : Nat} {x y : Int} (j : Nat) (hd : M.2.2.2[j]? = some (pc, .aaload, 1)) (ha : 0 < a ∧ a < n) (hs : (S a).1 = 19) (hN : (S a).2.1 = N) (hN2 : N ≤ 100000) (hx : 0 ≤ x ∧ x < (N : Int)) (he : g a x.toNat = y) (h : V M d (pc + 1) L (.ref y.toNat :: st) n S g k z P) : V M d pc L (I_ x :: .ref a :: st) n S g k z P := v_aald j hd ha hs hN hN2 hx (by rw [he]; exact h)
theorem v_ldc {index : Nat} {v : Int} (j : Nat) (hd : M.2.2.2[j]? = some (pc, .ldc index, 2)) (hc : Cond.constant M.1.2.1 index (Int32.ofInt v) ∈ tbG) (h : V M d (pc + 2) L (I_ v :: st) n S g k z P) : V M d pc L st n S g k z P :=
  v_go h fun p l e R s m args below meth c b D dA Q C H locs ls hls w => W.ldc C.1 C.2.1 C.2.2.2.1 (C.2.2.2.2.1 _ hc) rfl (C.dec hd) w
/-- instanceof: 1 where the cell is of the class ci -/
def isK (S : Nat → Shp) (r ci : Nat) : Int := if r = 0 then 0 else if (S r).1 = ci then 1 else 0
theorem v_instRod {r idx : Nat} (j : Nat) (hd : M.2.2.2[j]? = some (pc, .instanceof idx, 3)) (hl : Cond.classLink M.1.2.1 idx "MobileMaker$Rod" ∈ tbG) (hr : r = 0 ∨ Pt n S r) (h : V M d (pc + 3) L (I_ (isK S r 5) :: st) n S g k z P) : V M d pc L (.ref r :: st) n S g k z P := by
  intro p l e R s m args below meth c b D dA Q C hq H locs ls hls hP hS
  have w := h p l e R s m args below meth c b D dA Q C hq H locs ls hls hP hS
  cases r with
  | zero => exact lv_instN C.1 C.2.1 (C.dec hd) w
  | succ r =>
    rcases hr with hr | hr
    · cases hr
    unfold isK at w
    rw [if_neg (Nat.succ_ne_zero r)] at w
    rcases hr.2.1 with q | q | q
    · rw [q, if_neg (by decide)] at w
      obtain ⟨cell, q1, q2, q3, q4⟩ := hP.obj hr.1 q (by decide)
      exact va_instNo C.1 C.2.1 C.2.2.2.1 (C.2.2.2.2.1 _ hl) C.2.2.2.2.2.1.2.1.2 ⟨cell, q1, by rw [q3]; rfl, by rw [q2]; exact (C.2.2.2.2.2.1.1.1 3 _ rfl).2.1⟩ (C.dec hd) w
    · rw [q, if_pos rfl] at w
      obtain ⟨cell, q1, q2, q3, q4⟩ := hP.obj hr.1 q (by decide)
      exact va_instS C.1 C.2.1 C.2.2.2.1 (C.2.2.2.2.1 _ hl) (C.2.2.2.2.2.1.1.1 5 _ rfl).2 ⟨cell, q1, by rw [q3]; rfl, by rw [q2]; exact (C.2.2.2.2.2.1.1.1 5 _ rfl).2.1⟩ (C.dec hd) w
    · rw [q, if_neg (by decide)] at w
      obtain ⟨cell, q1, q2, q3, q4⟩ := hP.obj hr.1 q (by decide)
      exact va_instNo C.1 C.2.1 C.2.2.2.1 (C.2.2.2.2.1 _ hl) C.2.2.2.2.2.1.2.1.1 ⟨cell, q1, by rw [q3]; rfl, by rw [q2]; exact (C.2.2.2.2.2.1.1.1 9 _ rfl).2.1⟩ (C.dec hd) w
theorem v_instPlate {r idx : Nat} (j : Nat) (hd : M.2.2.2[j]? = some (pc, .instanceof idx, 3)) (hl : Cond.classLink M.1.2.1 idx "MobileMaker$Plate" ∈ tbG) (hr : r = 0 ∨ Pt n S r) (h : V M d (pc + 3) L (I_ (isK S r 3) :: st) n S g k z P) : V M d pc L (.ref r :: st) n S g k z P := by
  intro p l e R s m args below meth c b D dA Q C hq H locs ls hls hP hS
  have w := h p l e R s m args below meth c b D dA Q C hq H locs ls hls hP hS
  cases r with
  | zero => exact lv_instN C.1 C.2.1 (C.dec hd) w
  | succ r =>
    rcases hr with hr | hr
    · cases hr
    unfold isK at w
    rw [if_neg (Nat.succ_ne_zero r)] at w
    rcases hr.2.1 with q | q | q
    · rw [q, if_pos rfl] at w
      obtain ⟨cell, q1, q2, q3, q4⟩ := hP.obj hr.1 q (by decide)
      exact va_instS C.1 C.2.1 C.2.2.2.1 (C.2.2.2.2.1 _ hl) (C.2.2.2.2.2.1.1.1 3 _ rfl).2 ⟨cell, q1, by rw [q3]; rfl, by rw [q2]; exact (C.2.2.2.2.2.1.1.1 3 _ rfl).2.1⟩ (C.dec hd) w
    · rw [q, if_neg (by decide)] at w
      obtain ⟨cell, q1, q2, q3, q4⟩ := hP.obj hr.1 q (by decide)
      exact va_instNo C.1 C.2.1 C.2.2.2.1 (C.2.2.2.2.1 _ hl) C.2.2.2.2.2.1.2.2.2.1 ⟨cell, q1, by rw [q3]; rfl, by rw [q2]; exact (C.2.2.2.2.2.1.1.1 5 _ rfl).2.1⟩ (C.dec hd) w
    · rw [q, if_neg (by decide)] at w
      obtain ⟨cell, q1, q2, q3, q4⟩ := hP.obj hr.1 q (by decide)
      exact va_instNo C.1 C.2.1 C.2.2.2.1 (C.2.2.2.2.1 _ hl) C.2.2.2.2.2.1.2.2.1.1 ⟨cell, q1, by rw [q3]; rfl, by rw [q2]; exact (C.2.2.2.2.2.1.1.1 9 _ rfl).2.1⟩ (C.dec hd) w
theorem v_cast {r idx ci : Nat} {nm : String} {T : u_T} {N : Nat} (j : Nat) (hd : M.2.2.2[j]? = some (pc, .checkcast idx, 3)) (hl : Cond.classLink M.1.2.1 idx nm ∈ tbG) (hc : vwCl[ci]? = some (nm, T, N)) (hci : ci < 12) (hr : Ob n S r ci) (h : V M d (pc + 3) L (.ref r :: st) n S g k z P) : V M d pc L (.ref r :: st) n S g k z P := by
  intro p l e R s m args below meth c b D dA Q C hq H locs ls hls hP hS
  have w := h p l e R s m args below meth c b D dA Q C hq H locs ls hls hP hS
  obtain ⟨r', rfl⟩ : ∃ r', r = r' + 1 := ⟨r - 1, by have := hr.1.1; omega⟩
  obtain ⟨cell, q1, q2, q3, q4⟩ := hP.obj hr.1 hr.2.1 hci
  exact va_castS C.1 C.2.1 C.2.2.2.1 (C.2.2.2.2.1 _ hl) (C.2.2.2.2.2.1.1.1 ci _ hc).2 ⟨cell, q1, by rw [q3]; rfl, by rw [q2]; exact (C.2.2.2.2.2.1.1.1 ci _ hc).2.1⟩ (C.dec hd) w
theorem v_objInit {r idx : Nat} (j : Nat) (hd : M.2.2.2[j]? = some (pc, .invokespecial idx, 3)) (h1 : Cond.methodLink M.1.2.1 idx objectInit ∈ tbG) (h2 : Cond.instanceMethod objectInit ∈ tbG) (h3 : Cond.code objectInit ⟨#[0xb1]⟩ 1 none ∈ tbG) (hr : 0 < r) (hw : wds st = true) (h : V M (d + 1) (pc + 3) L st n S g k z P) : V M (d + 1) pc L (.ref r :: st) n S g k z P := by
  obtain ⟨r', rfl⟩ : ∃ r', r = r' + 1 := ⟨r - 1, by omega⟩
  refine v_go h fun p l e R s m args below meth c b D dA Q C H locs ls hls w => ?_
  refine W.objInit C.1 C.2.1 C.2.2.2.1 (C.2.2.2.2.1 _ h1) (C.2.2.2.2.1 _ h2) (C.2.2.2.2.1 _ h3) rfl (by rw [C.2.2.1]; exact hls.1) rfl (C.dec hd) (by have := C.2.2.2.2.2.2.2.2.1.1; omega) ?_ w
  have h8 := wds_le (b := b) hw
  have h9 := C.2.2.2.2.2.2.2.2.1.2.1
  show 2 * 0 + _ + 12 ≤ R.locals
  omega
end VRows5
