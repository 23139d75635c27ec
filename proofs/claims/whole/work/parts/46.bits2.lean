/-! SETS OF PARTS AS BITS OF A LONG; the script's rows -/
def Bk (k : Nat) : BitVec 64 := (Int64.ofInt 1 <<< ((Int32.ofInt (k : Int)).toInt64 &&& 63)).toBitVec
set_option maxRecDepth 100000 in
theorem Bk_bit : ∀ k : Fin 60, ∀ i : Fin 64, (Bk k.val).getLsbD i.val = decide (i.val = k.val) := by decide +kernel
/-- part k is among those of x -/
def hb (x : Int) (k : Nat) : Prop := (Int64.ofInt x).toBitVec.getLsbD k = true
theorem hb_zero (k : Nat) : ¬ hb 0 k := by
  unfold hb
  have : (Int64.ofInt 0).toBitVec = 0#64 := rfl
  rw [this]
  simp
theorem hb_or {x : Int} {j k : Nat} (hj : j < 60) (hk : k < 60) : hb (or6 x (shl6 1 (j : Int))) k ↔ hb x k ∨ j = k := by
  unfold hb or6 shl6
  rw [Int64.ofInt_toInt, Int64.ofInt_toInt, Int64.toBitVec_or, BitVec.getLsbD_or]
  have e : (Int64.ofInt 1 <<< ((Int32.ofInt (j : Int)).toInt64 &&& 63)).toBitVec = Bk j := rfl
  rw [e, Bk_bit ⟨j, hj⟩ ⟨k, by omega⟩, Bool.or_eq_true, decide_eq_true_eq]
  exact ⟨fun h => h.imp id Eq.symm, fun h => h.imp id Eq.symm⟩
theorem hb_and {x : Int} {k : Nat} (hk : k < 60) : and6 x (shl6 1 (k : Int)) ≠ 0 ↔ hb x k := by
  have e0 : and6 x (shl6 1 (k : Int)) = (Int64.ofInt x &&& (Int64.ofInt 1 <<< ((Int32.ofInt (k : Int)).toInt64 &&& 63))).toInt := by
    unfold and6 shl6
    rw [Int64.ofInt_toInt]
  have e1 : (Int64.ofInt x &&& (Int64.ofInt 1 <<< ((Int32.ofInt (k : Int)).toInt64 &&& 63))).toBitVec = (Int64.ofInt x).toBitVec &&& Bk k := rfl
  rw [e0]
  unfold hb
  constructor
  · intro h
    cases hh : (Int64.ofInt x).toBitVec.getLsbD k with
    | true => rfl
    | false =>
      exfalso
      apply h
      have z : (Int64.ofInt x).toBitVec &&& Bk k = 0#64 := by
        apply BitVec.eq_of_getLsbD_eq
        intro i hi
        rw [BitVec.getLsbD_and, Bk_bit ⟨k, hk⟩ ⟨i, hi⟩]
        by_cases e : i = k
        · subst e; rw [hh]; simp
        · rw [decide_eq_false e]; simp
      show ((Int64.ofInt x &&& (Int64.ofInt 1 <<< ((Int32.ofInt (k : Int)).toInt64 &&& 63))).toBitVec).toInt = 0
      rw [e1, z]; rfl
  · intro h hz
    have z : ((Int64.ofInt x).toBitVec &&& Bk k).toInt = 0 := by rw [← e1]; exact hz
    have z2 : (Int64.ofInt x).toBitVec &&& Bk k = 0#64 := by
      apply BitVec.eq_of_toInt_eq
      rw [z]; rfl
    have z3 := congrArg (fun b => b.getLsbD k) z2
    simp only [BitVec.getLsbD_and] at z3
    rw [Bk_bit ⟨k, hk⟩ ⟨k, by omega⟩, h] at z3
    simp at z3
section VScript
variable {M : MI} {d pc : Nat} {L L' : List (Nat × Value)} {st : List Value} {n : Nat} {S : Nat → Shp} {g : Hp} {k z : Nat} {P : Pst}
/-- the script's reference is loaded -/
theorem v_aloadS {f : Fin 4} {i a : Nat} (j q : Nat) (hd : M.2.2.2[j]? = some (pc, .aload_n f, 1)) (hi : (f : Nat) = i) (hl : L[q]? = some (i, .retAddr a)) (h : V M d (pc + 1) L (.retAddr a :: st) n S g k z P) : V M d pc L st n S g k z P :=
  v_go h fun p l e R s m args below meth c b D dA Q C H locs ls hls w => lv_aload_n C.1 C.2.1 (C.dec hd) hi (lmap_at hls hl) w
/-- an int of the script -/
theorem v_sld {x : Int} (j : Nat) (hd : M.2.2.2[j]? = some (pc, .iaload, 1)) (hx : 0 ≤ x ∧ x < g 0 1) (h : V M d (pc + 1) L (I_ (g 0 (2 + x.toNat)) :: st) n S g k z P) : V M d pc L (I_ x :: .retAddr (g 0 0).toNat :: st) n S g k z P := by
  intro p l e R s m args below meth c b D dA Q C hq H locs ls hl hP hS
  have w := h p l e R s m args below meth c b D dA Q C hq H locs ls hl hP hS
  obtain ⟨s1, ⟨scr, hA, hc, hv1, hv2, hsz, hsl⟩, s3, s4⟩ := hP.2.2.2
  obtain ⟨k9, k1, k2⟩ := C.2.2.2.2.2.1.2.2.1.2
  obtain ⟨hin, hcl, hlt⟩ := ixN (N := (g 0 1).toNat) (x := x) ⟨hx.1, by omega⟩ (by omega)
  refine W.iald C.1 C.2.1 hA ⟨hv1, k9, by rw [hc]; exact k1, k2⟩ hv2 (by show ¬ (_ ∨ scr.slots.size ≤ _); rw [hsz]; exact hin) (v := I_ (g 0 (2 + x.toNat))) (by rw [hcl]; exact hsl _ hlt) rfl rfl (C.dec hd) w
/-- the script's length -/
theorem v_slen (j : Nat) (hd : M.2.2.2[j]? = some (pc, .arraylength, 1)) (h : V M d (pc + 1) L (I_ (g 0 1) :: st) n S g k z P) : V M d pc L (.retAddr (g 0 0).toNat :: st) n S g k z P := by
  intro p l e R s m args below meth c b D dA Q C hq H locs ls hl hP hS
  have w := h p l e R s m args below meth c b D dA Q C hq H locs ls hl hP hS
  obtain ⟨s1, ⟨scr, hA, hc, hv1, hv2, hsz, hsl⟩, s3, s4⟩ := hP.2.2.2
  obtain ⟨k9, k1, k2⟩ := C.2.2.2.2.2.1.2.2.1.2
  refine W.alen C.1 C.2.1 hA ⟨hv1, k9, by rw [hc]; exact k1, k2⟩ (n := Int32.ofInt (g 0 1)) ?_ rfl rfl (C.dec hd) w
  rw [hsz]
  have : g 0 1 = (((g 0 1).toNat : Nat) : Int) := by omega
  rw [this]
  exact Int32.ofInt_eq_ofNat.symm
/-- the script's ints are ints, and it has at most 3072 -/
theorem v_scr (h : (0 ≤ g 0 1 ∧ g 0 1 ≤ 3072) → (∀ j, i3 (g 0 (2 + j))) → V M d pc L st n S g k z P) : V M d pc L st n S g k z P :=
  fun p l e R s m args below meth c b D dA Q C hq H locs ls hl hP hS => h hP.2.2.2.2.2.1 hP.2.2.2.2.2.2 p l e R s m args below meth c b D dA Q C hq H locs ls hl hP hS
end VScript
